section
-- ===== PART A: goes FIRST, ahead of the names: the tables' words, and 'selects' of the private methods out of them =====
/-- a private method of a class that the tables say can be made, by its rows of tables_1 -/
def lw_okq (q : MethodName × Nat) : Prop := (q.1.cls ≠ "java/lang/invoke/MethodHandle" ∧ q.1.cls ≠ "java/lang/invoke/VarHandle") ∧ Cond.instantiable q.1.cls q.2 ∈ tables_1 ∧ Cond.privateMethod q.1 ∈ tables_1 ∧ Cond.instanceMethod q.1 ∈ tables_1
theorem lw_p0 : lw_okq (⟨"SungSteps$Text", "findToken", "()V"⟩, 6) := ⟨⟨by decide +kernel, by decide +kernel⟩, List.mem_of_getElem? (i := 28) (by decide +kernel), List.mem_of_getElem? (i := 336) (by decide +kernel), List.mem_of_getElem? (i := 337) (by decide +kernel)⟩
theorem lw_p1 : lw_okq (⟨"SungSteps$Text", "stepOver", "(CC)I"⟩, 6) := ⟨⟨by decide +kernel, by decide +kernel⟩, List.mem_of_getElem? (i := 28) (by decide +kernel), List.mem_of_getElem? (i := 349) (by decide +kernel), List.mem_of_getElem? (i := 350) (by decide +kernel)⟩
theorem lw_p2 : lw_okq (⟨"SungSteps$Text", "numberInList", "(Ljava/lang/String;)I"⟩, 6) := ⟨⟨by decide +kernel, by decide +kernel⟩, List.mem_of_getElem? (i := 28) (by decide +kernel), List.mem_of_getElem? (i := 354) (by decide +kernel), List.mem_of_getElem? (i := 355) (by decide +kernel)⟩
theorem lw_p3 : lw_okq (⟨"SungSteps$Text", "isToken", "(Ljava/lang/String;II)Z"⟩, 6) := ⟨⟨by decide +kernel, by decide +kernel⟩, List.mem_of_getElem? (i := 28) (by decide +kernel), List.mem_of_getElem? (i := 406) (by decide +kernel), List.mem_of_getElem? (i := 407) (by decide +kernel)⟩
theorem lw_p4 : lw_okq (⟨"SungSteps$Text", "valueOfToken", "()I"⟩, 6) := ⟨⟨by decide +kernel, by decide +kernel⟩, List.mem_of_getElem? (i := 28) (by decide +kernel), List.mem_of_getElem? (i := 419) (by decide +kernel), List.mem_of_getElem? (i := 420) (by decide +kernel)⟩
theorem lw_p5 : lw_okq (⟨"SungSteps", "dropSong", "()V"⟩, 14) := ⟨⟨by decide +kernel, by decide +kernel⟩, List.mem_of_getElem? (i := 20) (by decide +kernel), List.mem_of_getElem? (i := 436) (by decide +kernel), List.mem_of_getElem? (i := 437) (by decide +kernel)⟩
theorem lw_p6 : lw_okq (⟨"SungSteps", "dropImages", "()V"⟩, 14) := ⟨⟨by decide +kernel, by decide +kernel⟩, List.mem_of_getElem? (i := 20) (by decide +kernel), List.mem_of_getElem? (i := 444) (by decide +kernel), List.mem_of_getElem? (i := 445) (by decide +kernel)⟩
theorem lw_p7 : lw_okq (⟨"SungSteps", "readSingers", "()I"⟩, 14) := ⟨⟨by decide +kernel, by decide +kernel⟩, List.mem_of_getElem? (i := 20) (by decide +kernel), List.mem_of_getElem? (i := 452) (by decide +kernel), List.mem_of_getElem? (i := 453) (by decide +kernel)⟩
theorem lw_p8 : lw_okq (⟨"SungSteps", "dropResults", "()V"⟩, 14) := ⟨⟨by decide +kernel, by decide +kernel⟩, List.mem_of_getElem? (i := 20) (by decide +kernel), List.mem_of_getElem? (i := 494) (by decide +kernel), List.mem_of_getElem? (i := 495) (by decide +kernel)⟩
theorem lw_p9 : lw_okq (⟨"SungSteps", "isSinger", "(I)Z"⟩, 14) := ⟨⟨by decide +kernel, by decide +kernel⟩, List.mem_of_getElem? (i := 20) (by decide +kernel), List.mem_of_getElem? (i := 515) (by decide +kernel), List.mem_of_getElem? (i := 516) (by decide +kernel)⟩
theorem lw_p10 : lw_okq (⟨"SungSteps", "isTask", "(I)Z"⟩, 14) := ⟨⟨by decide +kernel, by decide +kernel⟩, List.mem_of_getElem? (i := 20) (by decide +kernel), List.mem_of_getElem? (i := 523) (by decide +kernel), List.mem_of_getElem? (i := 524) (by decide +kernel)⟩
theorem lw_p11 : lw_okq (⟨"SungSteps", "singInto", "(LSungSteps$Song;LSungSteps$Singer;I)V"⟩, 14) := ⟨⟨by decide +kernel, by decide +kernel⟩, List.mem_of_getElem? (i := 20) (by decide +kernel), List.mem_of_getElem? (i := 531) (by decide +kernel), List.mem_of_getElem? (i := 532) (by decide +kernel)⟩
theorem lw_p12 : lw_okq (⟨"SungSteps", "startOff", "(I)I"⟩, 14) := ⟨⟨by decide +kernel, by decide +kernel⟩, List.mem_of_getElem? (i := 20) (by decide +kernel), List.mem_of_getElem? (i := 536) (by decide +kernel), List.mem_of_getElem? (i := 537) (by decide +kernel)⟩
theorem lw_p13 : lw_okq (⟨"SungSteps", "waver", "(LSungSteps$Singer;II)I"⟩, 14) := ⟨⟨by decide +kernel, by decide +kernel⟩, List.mem_of_getElem? (i := 20) (by decide +kernel), List.mem_of_getElem? (i := 579) (by decide +kernel), List.mem_of_getElem? (i := 580) (by decide +kernel)⟩
theorem lw_p14 : lw_okq (⟨"SungSteps$Song", "stepsRight", "(LSungSteps$Melody;)I"⟩, 3) := ⟨⟨by decide +kernel, by decide +kernel⟩, List.mem_of_getElem? (i := 157) (by decide +kernel), List.mem_of_getElem? (i := 607) (by decide +kernel), List.mem_of_getElem? (i := 608) (by decide +kernel)⟩
theorem lw_p15 : lw_okq (⟨"SungSteps$Song", "homeAt", "(ILSungSteps$Melody;)I"⟩, 3) := ⟨⟨by decide +kernel, by decide +kernel⟩, List.mem_of_getElem? (i := 157) (by decide +kernel), List.mem_of_getElem? (i := 611) (by decide +kernel), List.mem_of_getElem? (i := 612) (by decide +kernel)⟩
def lw_privs_1 : List (MethodName × Nat) := [(⟨"SungSteps$Text", "findToken", "()V"⟩, 6), (⟨"SungSteps$Text", "stepOver", "(CC)I"⟩, 6), (⟨"SungSteps$Text", "numberInList", "(Ljava/lang/String;)I"⟩, 6), (⟨"SungSteps$Text", "isToken", "(Ljava/lang/String;II)Z"⟩, 6), (⟨"SungSteps$Text", "valueOfToken", "()I"⟩, 6), (⟨"SungSteps", "dropSong", "()V"⟩, 14), (⟨"SungSteps", "dropImages", "()V"⟩, 14), (⟨"SungSteps", "readSingers", "()I"⟩, 14), (⟨"SungSteps", "dropResults", "()V"⟩, 14), (⟨"SungSteps", "isSinger", "(I)Z"⟩, 14), (⟨"SungSteps", "isTask", "(I)Z"⟩, 14), (⟨"SungSteps", "singInto", "(LSungSteps$Song;LSungSteps$Singer;I)V"⟩, 14), (⟨"SungSteps", "startOff", "(I)I"⟩, 14), (⟨"SungSteps", "waver", "(LSungSteps$Singer;II)I"⟩, 14), (⟨"SungSteps$Song", "stepsRight", "(LSungSteps$Melody;)I"⟩, 3), (⟨"SungSteps$Song", "homeAt", "(ILSungSteps$Melody;)I"⟩, 3)]
theorem lw_r1 : ∀ q ∈ lw_privs_1, lw_okq q := List.forall_mem_cons.mpr ⟨lw_p0, List.forall_mem_cons.mpr ⟨lw_p1, List.forall_mem_cons.mpr ⟨lw_p2, List.forall_mem_cons.mpr ⟨lw_p3, List.forall_mem_cons.mpr ⟨lw_p4, List.forall_mem_cons.mpr ⟨lw_p5, List.forall_mem_cons.mpr ⟨lw_p6, List.forall_mem_cons.mpr ⟨lw_p7, List.forall_mem_cons.mpr ⟨lw_p8, List.forall_mem_cons.mpr ⟨lw_p9, List.forall_mem_cons.mpr ⟨lw_p10, List.forall_mem_cons.mpr ⟨lw_p11, List.forall_mem_cons.mpr ⟨lw_p12, List.forall_mem_cons.mpr ⟨lw_p13, List.forall_mem_cons.mpr ⟨lw_p14, List.forall_mem_cons.mpr ⟨lw_p15, fun _ h => absurd h List.not_mem_nil⟩⟩⟩⟩⟩⟩⟩⟩⟩⟩⟩⟩⟩⟩⟩⟩
theorem lw_p16 : lw_okq (⟨"SungSteps$Song", "homesRight", "(LSungSteps$Melody;)I"⟩, 3) := ⟨⟨by decide +kernel, by decide +kernel⟩, List.mem_of_getElem? (i := 157) (by decide +kernel), List.mem_of_getElem? (i := 618) (by decide +kernel), List.mem_of_getElem? (i := 619) (by decide +kernel)⟩
theorem lw_p17 : lw_okq (⟨"SungSteps", "hasSong", "()Z"⟩, 14) := ⟨⟨by decide +kernel, by decide +kernel⟩, List.mem_of_getElem? (i := 20) (by decide +kernel), List.mem_of_getElem? (i := 630) (by decide +kernel), List.mem_of_getElem? (i := 631) (by decide +kernel)⟩
theorem lw_p18 : lw_okq (⟨"SungSteps$Song", "fullPoints", "(I)I"⟩, 3) := ⟨⟨by decide +kernel, by decide +kernel⟩, List.mem_of_getElem? (i := 157) (by decide +kernel), List.mem_of_getElem? (i := 654) (by decide +kernel), List.mem_of_getElem? (i := 655) (by decide +kernel)⟩
theorem lw_p19 : lw_okq (⟨"SungSteps", "oddsNow", "(I)J"⟩, 14) := ⟨⟨by decide +kernel, by decide +kernel⟩, List.mem_of_getElem? (i := 20) (by decide +kernel), List.mem_of_getElem? (i := 696) (by decide +kernel), List.mem_of_getElem? (i := 697) (by decide +kernel)⟩
theorem lw_p20 : lw_okq (⟨"SungSteps$Trials", "isBeyond", "(II)Z"⟩, 5) := ⟨⟨by decide +kernel, by decide +kernel⟩, List.mem_of_getElem? (i := 78) (by decide +kernel), List.mem_of_getElem? (i := 709) (by decide +kernel), List.mem_of_getElem? (i := 710) (by decide +kernel)⟩
theorem lw_p21 : lw_okq (⟨"SungSteps", "greatestWith", "(IZ)J"⟩, 14) := ⟨⟨by decide +kernel, by decide +kernel⟩, List.mem_of_getElem? (i := 20) (by decide +kernel), List.mem_of_getElem? (i := 718) (by decide +kernel), List.mem_of_getElem? (i := 719) (by decide +kernel)⟩
theorem lw_p22 : lw_okq (⟨"SungSteps$Search", "fewestFrom", "(III)I"⟩, 4) := ⟨⟨by decide +kernel, by decide +kernel⟩, List.mem_of_getElem? (i := 214) (by decide +kernel), List.mem_of_getElem? (i := 734) (by decide +kernel), List.mem_of_getElem? (i := 735) (by decide +kernel)⟩
theorem lw_p23 : lw_okq (⟨"SungSteps$Search", "isKnown", "([J)Z"⟩, 4) := ⟨⟨by decide +kernel, by decide +kernel⟩, List.mem_of_getElem? (i := 214) (by decide +kernel), List.mem_of_getElem? (i := 739) (by decide +kernel), List.mem_of_getElem? (i := 740) (by decide +kernel)⟩
theorem lw_p24 : lw_okq (⟨"SungSteps$Search", "fewestAfter", "(IIIIZ)I"⟩, 4) := ⟨⟨by decide +kernel, by decide +kernel⟩, List.mem_of_getElem? (i := 214) (by decide +kernel), List.mem_of_getElem? (i := 745) (by decide +kernel), List.mem_of_getElem? (i := 746) (by decide +kernel)⟩
theorem lw_p25 : lw_okq (⟨"SungSteps$Search", "fillOdds", "(IIZ)V"⟩, 4) := ⟨⟨by decide +kernel, by decide +kernel⟩, List.mem_of_getElem? (i := 214) (by decide +kernel), List.mem_of_getElem? (i := 751) (by decide +kernel), List.mem_of_getElem? (i := 752) (by decide +kernel)⟩
theorem lw_p26 : lw_okq (⟨"SungSteps", "plainPoints", "(LSungSteps$Singer;)I"⟩, 14) := ⟨⟨by decide +kernel, by decide +kernel⟩, List.mem_of_getElem? (i := 20) (by decide +kernel), List.mem_of_getElem? (i := 773) (by decide +kernel), List.mem_of_getElem? (i := 774) (by decide +kernel)⟩
theorem lw_p27 : lw_okq (⟨"SungSteps", "countAble", "(I)I"⟩, 14) := ⟨⟨by decide +kernel, by decide +kernel⟩, List.mem_of_getElem? (i := 20) (by decide +kernel), List.mem_of_getElem? (i := 795) (by decide +kernel), List.mem_of_getElem? (i := 796) (by decide +kernel)⟩
theorem lw_p28 : lw_okq (⟨"SungSteps$Crowd", "meanOfMoved", "()I"⟩, 5) := ⟨⟨by decide +kernel, by decide +kernel⟩, List.mem_of_getElem? (i := 237) (by decide +kernel), List.mem_of_getElem? (i := 845) (by decide +kernel), List.mem_of_getElem? (i := 846) (by decide +kernel)⟩
theorem lw_p29 : lw_okq (⟨"SungSteps$Crowd", "changesInTurn", "()Z"⟩, 5) := ⟨⟨by decide +kernel, by decide +kernel⟩, List.mem_of_getElem? (i := 237) (by decide +kernel), List.mem_of_getElem? (i := 849) (by decide +kernel), List.mem_of_getElem? (i := 850) (by decide +kernel)⟩
theorem lw_p30 : lw_okq (⟨"SungStepsModel", "here", "()I"⟩, 39) := ⟨⟨by decide +kernel, by decide +kernel⟩, List.mem_of_getElem? (i := 893) (by decide +kernel), List.mem_of_getElem? (i := 1033) (by decide +kernel), List.mem_of_getElem? (i := 1034) (by decide +kernel)⟩
theorem lw_p31 : lw_okq (⟨"SungStepsModel", "takeNote", "(Z)I"⟩, 39) := ⟨⟨by decide +kernel, by decide +kernel⟩, List.mem_of_getElem? (i := 893) (by decide +kernel), List.mem_of_getElem? (i := 1037) (by decide +kernel), List.mem_of_getElem? (i := 1038) (by decide +kernel)⟩
def lw_privs_2 : List (MethodName × Nat) := [(⟨"SungSteps$Song", "homesRight", "(LSungSteps$Melody;)I"⟩, 3), (⟨"SungSteps", "hasSong", "()Z"⟩, 14), (⟨"SungSteps$Song", "fullPoints", "(I)I"⟩, 3), (⟨"SungSteps", "oddsNow", "(I)J"⟩, 14), (⟨"SungSteps$Trials", "isBeyond", "(II)Z"⟩, 5), (⟨"SungSteps", "greatestWith", "(IZ)J"⟩, 14), (⟨"SungSteps$Search", "fewestFrom", "(III)I"⟩, 4), (⟨"SungSteps$Search", "isKnown", "([J)Z"⟩, 4), (⟨"SungSteps$Search", "fewestAfter", "(IIIIZ)I"⟩, 4), (⟨"SungSteps$Search", "fillOdds", "(IIZ)V"⟩, 4), (⟨"SungSteps", "plainPoints", "(LSungSteps$Singer;)I"⟩, 14), (⟨"SungSteps", "countAble", "(I)I"⟩, 14), (⟨"SungSteps$Crowd", "meanOfMoved", "()I"⟩, 5), (⟨"SungSteps$Crowd", "changesInTurn", "()Z"⟩, 5), (⟨"SungStepsModel", "here", "()I"⟩, 39), (⟨"SungStepsModel", "takeNote", "(Z)I"⟩, 39)]
theorem lw_r2 : ∀ q ∈ lw_privs_2, lw_okq q := List.forall_mem_cons.mpr ⟨lw_p16, List.forall_mem_cons.mpr ⟨lw_p17, List.forall_mem_cons.mpr ⟨lw_p18, List.forall_mem_cons.mpr ⟨lw_p19, List.forall_mem_cons.mpr ⟨lw_p20, List.forall_mem_cons.mpr ⟨lw_p21, List.forall_mem_cons.mpr ⟨lw_p22, List.forall_mem_cons.mpr ⟨lw_p23, List.forall_mem_cons.mpr ⟨lw_p24, List.forall_mem_cons.mpr ⟨lw_p25, List.forall_mem_cons.mpr ⟨lw_p26, List.forall_mem_cons.mpr ⟨lw_p27, List.forall_mem_cons.mpr ⟨lw_p28, List.forall_mem_cons.mpr ⟨lw_p29, List.forall_mem_cons.mpr ⟨lw_p30, List.forall_mem_cons.mpr ⟨lw_p31, fun _ h => absurd h List.not_mem_nil⟩⟩⟩⟩⟩⟩⟩⟩⟩⟩⟩⟩⟩⟩⟩⟩
theorem lw_p32 : lw_okq (⟨"SungStepsModel", "readWord", "()V"⟩, 39) := ⟨⟨by decide +kernel, by decide +kernel⟩, List.mem_of_getElem? (i := 893) (by decide +kernel), List.mem_of_getElem? (i := 1041) (by decide +kernel), List.mem_of_getElem? (i := 1042) (by decide +kernel)⟩
theorem lw_p33 : lw_okq (⟨"SungStepsModel", "fails", "(II)I"⟩, 39) := ⟨⟨by decide +kernel, by decide +kernel⟩, List.mem_of_getElem? (i := 893) (by decide +kernel), List.mem_of_getElem? (i := 1057) (by decide +kernel), List.mem_of_getElem? (i := 1058) (by decide +kernel)⟩
theorem lw_p34 : lw_okq (⟨"SungStepsModel", "into", "([IIII)I"⟩, 39) := ⟨⟨by decide +kernel, by decide +kernel⟩, List.mem_of_getElem? (i := 893) (by decide +kernel), List.mem_of_getElem? (i := 1061) (by decide +kernel), List.mem_of_getElem? (i := 1062) (by decide +kernel)⟩
theorem lw_p35 : lw_okq (⟨"SungStepsModel", "takeNumber", "(II)I"⟩, 39) := ⟨⟨by decide +kernel, by decide +kernel⟩, List.mem_of_getElem? (i := 893) (by decide +kernel), List.mem_of_getElem? (i := 1065) (by decide +kernel), List.mem_of_getElem? (i := 1066) (by decide +kernel)⟩
theorem lw_p36 : lw_okq (⟨"SungStepsModel", "takeStop", "()I"⟩, 39) := ⟨⟨by decide +kernel, by decide +kernel⟩, List.mem_of_getElem? (i := 893) (by decide +kernel), List.mem_of_getElem? (i := 1071) (by decide +kernel), List.mem_of_getElem? (i := 1072) (by decide +kernel)⟩
theorem lw_p37 : lw_okq (⟨"SungStepsModel", "endSong", "()V"⟩, 39) := ⟨⟨by decide +kernel, by decide +kernel⟩, List.mem_of_getElem? (i := 893) (by decide +kernel), List.mem_of_getElem? (i := 1075) (by decide +kernel), List.mem_of_getElem? (i := 1076) (by decide +kernel)⟩
theorem lw_p38 : lw_okq (⟨"SungStepsModel", "takeSinger", "()I"⟩, 39) := ⟨⟨by decide +kernel, by decide +kernel⟩, List.mem_of_getElem? (i := 893) (by decide +kernel), List.mem_of_getElem? (i := 1083) (by decide +kernel), List.mem_of_getElem? (i := 1084) (by decide +kernel)⟩
theorem lw_p39 : lw_okq (⟨"SungStepsModel", "kindOf", "()I"⟩, 39) := ⟨⟨by decide +kernel, by decide +kernel⟩, List.mem_of_getElem? (i := 893) (by decide +kernel), List.mem_of_getElem? (i := 1087) (by decide +kernel), List.mem_of_getElem? (i := 1088) (by decide +kernel)⟩
theorem lw_p40 : lw_okq (⟨"SungStepsModel", "takeTask", "()I"⟩, 39) := ⟨⟨by decide +kernel, by decide +kernel⟩, List.mem_of_getElem? (i := 893) (by decide +kernel), List.mem_of_getElem? (i := 1095) (by decide +kernel), List.mem_of_getElem? (i := 1096) (by decide +kernel)⟩
theorem lw_p41 : lw_okq (⟨"SungStepsModel", "takePart", "(I)I"⟩, 39) := ⟨⟨by decide +kernel, by decide +kernel⟩, List.mem_of_getElem? (i := 893) (by decide +kernel), List.mem_of_getElem? (i := 1099) (by decide +kernel), List.mem_of_getElem? (i := 1100) (by decide +kernel)⟩
theorem lw_p42 : lw_okq (⟨"SungStepsModel", "doneSet", "(Z)I"⟩, 39) := ⟨⟨by decide +kernel, by decide +kernel⟩, List.mem_of_getElem? (i := 893) (by decide +kernel), List.mem_of_getElem? (i := 1115) (by decide +kernel), List.mem_of_getElem? (i := 1116) (by decide +kernel)⟩
theorem lw_p43 : lw_okq (⟨"SungStepsModel", "isNote", "(I)Z"⟩, 39) := ⟨⟨by decide +kernel, by decide +kernel⟩, List.mem_of_getElem? (i := 893) (by decide +kernel), List.mem_of_getElem? (i := 1123) (by decide +kernel), List.mem_of_getElem? (i := 1124) (by decide +kernel)⟩
theorem lw_p44 : lw_okq (⟨"SungStepsModel", "isSinger", "(I)Z"⟩, 39) := ⟨⟨by decide +kernel, by decide +kernel⟩, List.mem_of_getElem? (i := 893) (by decide +kernel), List.mem_of_getElem? (i := 1132) (by decide +kernel), List.mem_of_getElem? (i := 1133) (by decide +kernel)⟩
theorem lw_p45 : lw_okq (⟨"SungStepsModel", "isTask", "(I)Z"⟩, 39) := ⟨⟨by decide +kernel, by decide +kernel⟩, List.mem_of_getElem? (i := 893) (by decide +kernel), List.mem_of_getElem? (i := 1141) (by decide +kernel), List.mem_of_getElem? (i := 1142) (by decide +kernel)⟩
theorem lw_p46 : lw_okq (⟨"SungStepsModel", "singInto", "([IIIZ)V"⟩, 39) := ⟨⟨by decide +kernel, by decide +kernel⟩, List.mem_of_getElem? (i := 893) (by decide +kernel), List.mem_of_getElem? (i := 1151) (by decide +kernel), List.mem_of_getElem? (i := 1152) (by decide +kernel)⟩
theorem lw_p47 : lw_okq (⟨"SungStepsModel", "firstAim", "(I)I"⟩, 39) := ⟨⟨by decide +kernel, by decide +kernel⟩, List.mem_of_getElem? (i := 893) (by decide +kernel), List.mem_of_getElem? (i := 1155) (by decide +kernel), List.mem_of_getElem? (i := 1156) (by decide +kernel)⟩
def lw_privs_3 : List (MethodName × Nat) := [(⟨"SungStepsModel", "readWord", "()V"⟩, 39), (⟨"SungStepsModel", "fails", "(II)I"⟩, 39), (⟨"SungStepsModel", "into", "([IIII)I"⟩, 39), (⟨"SungStepsModel", "takeNumber", "(II)I"⟩, 39), (⟨"SungStepsModel", "takeStop", "()I"⟩, 39), (⟨"SungStepsModel", "endSong", "()V"⟩, 39), (⟨"SungStepsModel", "takeSinger", "()I"⟩, 39), (⟨"SungStepsModel", "kindOf", "()I"⟩, 39), (⟨"SungStepsModel", "takeTask", "()I"⟩, 39), (⟨"SungStepsModel", "takePart", "(I)I"⟩, 39), (⟨"SungStepsModel", "doneSet", "(Z)I"⟩, 39), (⟨"SungStepsModel", "isNote", "(I)Z"⟩, 39), (⟨"SungStepsModel", "isSinger", "(I)Z"⟩, 39), (⟨"SungStepsModel", "isTask", "(I)Z"⟩, 39), (⟨"SungStepsModel", "singInto", "([IIIZ)V"⟩, 39), (⟨"SungStepsModel", "firstAim", "(I)I"⟩, 39)]
theorem lw_r3 : ∀ q ∈ lw_privs_3, lw_okq q := List.forall_mem_cons.mpr ⟨lw_p32, List.forall_mem_cons.mpr ⟨lw_p33, List.forall_mem_cons.mpr ⟨lw_p34, List.forall_mem_cons.mpr ⟨lw_p35, List.forall_mem_cons.mpr ⟨lw_p36, List.forall_mem_cons.mpr ⟨lw_p37, List.forall_mem_cons.mpr ⟨lw_p38, List.forall_mem_cons.mpr ⟨lw_p39, List.forall_mem_cons.mpr ⟨lw_p40, List.forall_mem_cons.mpr ⟨lw_p41, List.forall_mem_cons.mpr ⟨lw_p42, List.forall_mem_cons.mpr ⟨lw_p43, List.forall_mem_cons.mpr ⟨lw_p44, List.forall_mem_cons.mpr ⟨lw_p45, List.forall_mem_cons.mpr ⟨lw_p46, List.forall_mem_cons.mpr ⟨lw_p47, fun _ h => absurd h List.not_mem_nil⟩⟩⟩⟩⟩⟩⟩⟩⟩⟩⟩⟩⟩⟩⟩⟩
theorem lw_p48 : lw_okq (⟨"SungStepsModel", "draw", "(I)I"⟩, 39) := ⟨⟨by decide +kernel, by decide +kernel⟩, List.mem_of_getElem? (i := 893) (by decide +kernel), List.mem_of_getElem? (i := 1159) (by decide +kernel), List.mem_of_getElem? (i := 1160) (by decide +kernel)⟩
theorem lw_p49 : lw_okq (⟨"SungStepsModel", "nextAim", "(IIII)I"⟩, 39) := ⟨⟨by decide +kernel, by decide +kernel⟩, List.mem_of_getElem? (i := 893) (by decide +kernel), List.mem_of_getElem? (i := 1167) (by decide +kernel), List.mem_of_getElem? (i := 1168) (by decide +kernel)⟩
theorem lw_p50 : lw_okq (⟨"SungStepsModel", "swing", "(IIZ)I"⟩, 39) := ⟨⟨by decide +kernel, by decide +kernel⟩, List.mem_of_getElem? (i := 893) (by decide +kernel), List.mem_of_getElem? (i := 1174) (by decide +kernel), List.mem_of_getElem? (i := 1175) (by decide +kernel)⟩
theorem lw_p51 : lw_okq (⟨"SungStepsModel", "heldTo", "(II)I"⟩, 39) := ⟨⟨by decide +kernel, by decide +kernel⟩, List.mem_of_getElem? (i := 893) (by decide +kernel), List.mem_of_getElem? (i := 1178) (by decide +kernel), List.mem_of_getElem? (i := 1179) (by decide +kernel)⟩
theorem lw_p52 : lw_okq (⟨"SungStepsModel", "highOf", "(I)I"⟩, 39) := ⟨⟨by decide +kernel, by decide +kernel⟩, List.mem_of_getElem? (i := 893) (by decide +kernel), List.mem_of_getElem? (i := 1182) (by decide +kernel), List.mem_of_getElem? (i := 1183) (by decide +kernel)⟩
theorem lw_p53 : lw_okq (⟨"SungStepsModel", "scoreOf", "([III)I"⟩, 39) := ⟨⟨by decide +kernel, by decide +kernel⟩, List.mem_of_getElem? (i := 893) (by decide +kernel), List.mem_of_getElem? (i := 1186) (by decide +kernel), List.mem_of_getElem? (i := 1187) (by decide +kernel)⟩
theorem lw_p54 : lw_okq (⟨"SungStepsModel", "isSilent", "()Z"⟩, 39) := ⟨⟨by decide +kernel, by decide +kernel⟩, List.mem_of_getElem? (i := 893) (by decide +kernel), List.mem_of_getElem? (i := 1204) (by decide +kernel), List.mem_of_getElem? (i := 1205) (by decide +kernel)⟩
theorem lw_p55 : lw_okq (⟨"SungStepsModel", "doneMany", "()I"⟩, 39) := ⟨⟨by decide +kernel, by decide +kernel⟩, List.mem_of_getElem? (i := 893) (by decide +kernel), List.mem_of_getElem? (i := 1230) (by decide +kernel), List.mem_of_getElem? (i := 1231) (by decide +kernel)⟩
theorem lw_p56 : lw_okq (⟨"SungStepsModel", "allOdds", "()J"⟩, 39) := ⟨⟨by decide +kernel, by decide +kernel⟩, List.mem_of_getElem? (i := 893) (by decide +kernel), List.mem_of_getElem? (i := 1242) (by decide +kernel), List.mem_of_getElem? (i := 1243) (by decide +kernel)⟩
theorem lw_p57 : lw_okq (⟨"SungStepsModel", "oddsOf", "(I)J"⟩, 39) := ⟨⟨by decide +kernel, by decide +kernel⟩, List.mem_of_getElem? (i := 893) (by decide +kernel), List.mem_of_getElem? (i := 1246) (by decide +kernel), List.mem_of_getElem? (i := 1247) (by decide +kernel)⟩
theorem lw_p58 : lw_okq (⟨"SungStepsModel", "shareOf", "(III)I"⟩, 39) := ⟨⟨by decide +kernel, by decide +kernel⟩, List.mem_of_getElem? (i := 893) (by decide +kernel), List.mem_of_getElem? (i := 1250) (by decide +kernel), List.mem_of_getElem? (i := 1251) (by decide +kernel)⟩
theorem lw_p59 : lw_okq (⟨"SungStepsModel", "lacks", "(II)Z"⟩, 39) := ⟨⟨by decide +kernel, by decide +kernel⟩, List.mem_of_getElem? (i := 893) (by decide +kernel), List.mem_of_getElem? (i := 1254) (by decide +kernel), List.mem_of_getElem? (i := 1255) (by decide +kernel)⟩
theorem lw_p60 : lw_okq (⟨"SungStepsModel", "partsBy", "(I)J"⟩, 39) := ⟨⟨by decide +kernel, by decide +kernel⟩, List.mem_of_getElem? (i := 893) (by decide +kernel), List.mem_of_getElem? (i := 1263) (by decide +kernel), List.mem_of_getElem? (i := 1264) (by decide +kernel)⟩
theorem lw_p61 : lw_okq (⟨"SungStepsModel", "greatest", "()J"⟩, 39) := ⟨⟨by decide +kernel, by decide +kernel⟩, List.mem_of_getElem? (i := 893) (by decide +kernel), List.mem_of_getElem? (i := 1267) (by decide +kernel), List.mem_of_getElem? (i := 1268) (by decide +kernel)⟩
theorem lw_p62 : lw_okq (⟨"SungStepsModel", "leftOf", "(II)I"⟩, 39) := ⟨⟨by decide +kernel, by decide +kernel⟩, List.mem_of_getElem? (i := 893) (by decide +kernel), List.mem_of_getElem? (i := 1279) (by decide +kernel), List.mem_of_getElem? (i := 1280) (by decide +kernel)⟩
theorem lw_p63 : lw_okq (⟨"SungStepsModel", "teach", "(II)V"⟩, 39) := ⟨⟨by decide +kernel, by decide +kernel⟩, List.mem_of_getElem? (i := 893) (by decide +kernel), List.mem_of_getElem? (i := 1292) (by decide +kernel), List.mem_of_getElem? (i := 1293) (by decide +kernel)⟩
def lw_privs_4 : List (MethodName × Nat) := [(⟨"SungStepsModel", "draw", "(I)I"⟩, 39), (⟨"SungStepsModel", "nextAim", "(IIII)I"⟩, 39), (⟨"SungStepsModel", "swing", "(IIZ)I"⟩, 39), (⟨"SungStepsModel", "heldTo", "(II)I"⟩, 39), (⟨"SungStepsModel", "highOf", "(I)I"⟩, 39), (⟨"SungStepsModel", "scoreOf", "([III)I"⟩, 39), (⟨"SungStepsModel", "isSilent", "()Z"⟩, 39), (⟨"SungStepsModel", "doneMany", "()I"⟩, 39), (⟨"SungStepsModel", "allOdds", "()J"⟩, 39), (⟨"SungStepsModel", "oddsOf", "(I)J"⟩, 39), (⟨"SungStepsModel", "shareOf", "(III)I"⟩, 39), (⟨"SungStepsModel", "lacks", "(II)Z"⟩, 39), (⟨"SungStepsModel", "partsBy", "(I)J"⟩, 39), (⟨"SungStepsModel", "greatest", "()J"⟩, 39), (⟨"SungStepsModel", "leftOf", "(II)I"⟩, 39), (⟨"SungStepsModel", "teach", "(II)V"⟩, 39)]
theorem lw_r4 : ∀ q ∈ lw_privs_4, lw_okq q := List.forall_mem_cons.mpr ⟨lw_p48, List.forall_mem_cons.mpr ⟨lw_p49, List.forall_mem_cons.mpr ⟨lw_p50, List.forall_mem_cons.mpr ⟨lw_p51, List.forall_mem_cons.mpr ⟨lw_p52, List.forall_mem_cons.mpr ⟨lw_p53, List.forall_mem_cons.mpr ⟨lw_p54, List.forall_mem_cons.mpr ⟨lw_p55, List.forall_mem_cons.mpr ⟨lw_p56, List.forall_mem_cons.mpr ⟨lw_p57, List.forall_mem_cons.mpr ⟨lw_p58, List.forall_mem_cons.mpr ⟨lw_p59, List.forall_mem_cons.mpr ⟨lw_p60, List.forall_mem_cons.mpr ⟨lw_p61, List.forall_mem_cons.mpr ⟨lw_p62, List.forall_mem_cons.mpr ⟨lw_p63, fun _ h => absurd h List.not_mem_nil⟩⟩⟩⟩⟩⟩⟩⟩⟩⟩⟩⟩⟩⟩⟩⟩
theorem lw_p64 : lw_okq (⟨"SungStepsModel", "plainScore", "(I)I"⟩, 39) := ⟨⟨by decide +kernel, by decide +kernel⟩, List.mem_of_getElem? (i := 893) (by decide +kernel), List.mem_of_getElem? (i := 1296) (by decide +kernel), List.mem_of_getElem? (i := 1297) (by decide +kernel)⟩
theorem lw_p65 : lw_okq (⟨"SungStepsModel", "hold", "(I)V"⟩, 39) := ⟨⟨by decide +kernel, by decide +kernel⟩, List.mem_of_getElem? (i := 893) (by decide +kernel), List.mem_of_getElem? (i := 1305) (by decide +kernel), List.mem_of_getElem? (i := 1306) (by decide +kernel)⟩
theorem lw_p66 : lw_okq (⟨"SungStepsModel", "putBack", "(I)V"⟩, 39) := ⟨⟨by decide +kernel, by decide +kernel⟩, List.mem_of_getElem? (i := 893) (by decide +kernel), List.mem_of_getElem? (i := 1312) (by decide +kernel), List.mem_of_getElem? (i := 1313) (by decide +kernel)⟩
theorem lw_p67 : lw_okq (⟨"SungStepsModel", "isWithin", "(II)Z"⟩, 39) := ⟨⟨by decide +kernel, by decide +kernel⟩, List.mem_of_getElem? (i := 893) (by decide +kernel), List.mem_of_getElem? (i := 1320) (by decide +kernel), List.mem_of_getElem? (i := 1321) (by decide +kernel)⟩
theorem lw_p68 : lw_okq (⟨"SungStepsModel", "passesWithSlip", "(I)I"⟩, 39) := ⟨⟨by decide +kernel, by decide +kernel⟩, List.mem_of_getElem? (i := 893) (by decide +kernel), List.mem_of_getElem? (i := 1336) (by decide +kernel), List.mem_of_getElem? (i := 1337) (by decide +kernel)⟩
theorem lw_p69 : lw_okq (⟨"SungStepsModel", "isKnownBy", "(II)Z"⟩, 39) := ⟨⟨by decide +kernel, by decide +kernel⟩, List.mem_of_getElem? (i := 893) (by decide +kernel), List.mem_of_getElem? (i := 1340) (by decide +kernel), List.mem_of_getElem? (i := 1341) (by decide +kernel)⟩
def lw_privs_5 : List (MethodName × Nat) := [(⟨"SungStepsModel", "plainScore", "(I)I"⟩, 39), (⟨"SungStepsModel", "hold", "(I)V"⟩, 39), (⟨"SungStepsModel", "putBack", "(I)V"⟩, 39), (⟨"SungStepsModel", "isWithin", "(II)Z"⟩, 39), (⟨"SungStepsModel", "passesWithSlip", "(I)I"⟩, 39), (⟨"SungStepsModel", "isKnownBy", "(II)Z"⟩, 39)]
theorem lw_r5 : ∀ q ∈ lw_privs_5, lw_okq q := List.forall_mem_cons.mpr ⟨lw_p64, List.forall_mem_cons.mpr ⟨lw_p65, List.forall_mem_cons.mpr ⟨lw_p66, List.forall_mem_cons.mpr ⟨lw_p67, List.forall_mem_cons.mpr ⟨lw_p68, List.forall_mem_cons.mpr ⟨lw_p69, fun _ h => absurd h List.not_mem_nil⟩⟩⟩⟩⟩⟩
def lw_privs : List (MethodName × Nat) := lw_privs_1 ++ (lw_privs_2 ++ (lw_privs_3 ++ (lw_privs_4 ++ (lw_privs_5))))
def lw_tbl : List Cond := k2_sels lw_privs ++ tables_1
theorem lw_privs_ok : ∀ q ∈ lw_privs, lw_okq q := by
  show ∀ q ∈ lw_privs_1 ++ (lw_privs_2 ++ (lw_privs_3 ++ (lw_privs_4 ++ (lw_privs_5)))), lw_okq q
  exact List.forall_mem_append.mpr ⟨lw_r1, List.forall_mem_append.mpr ⟨lw_r2, List.forall_mem_append.mpr ⟨lw_r3, List.forall_mem_append.mpr ⟨lw_r4, lw_r5⟩⟩⟩⟩
end
section
def RX0 : String := "SungSteps$Crowd"
def TX0 : u_T := fun k => match k with
  | 0 => ("SungSteps$Crowd", "homes", "[I", true)
  | 1 => ("SungSteps$Crowd", "moved", "[I", true)
  | 2 => ("SungSteps$Crowd", "size", "I", false)
  | 3 => ("SungSteps$Crowd", "mean", "I", false)
  | _ => ("SungSteps$Crowd", "turns", "I", false)
def tyX0 : Nat → FieldType := fun k => match k with
  | 0 => .array .int
  | 1 => .array .int
  | 2 => .int
  | 3 => .int
  | _ => .int
abbrev wsX00 : List Cond := u_ws RX0 TX0 5
theorem nmX0 : ∀ a, a < 5 → ∀ b, b < 5 → a ≠ b → (TX0 a).2.1 ≠ (TX0 b).2.1 := by decide +kernel
theorem tyX0_ok : ∀ k, k < 5 → parseFieldDescriptor (TX0 k).2.2.1 = some (tyX0 k) := by decide +kernel
abbrev cX0_init : ByteArray := prog_2_method_1_code
def yX0_init : MethodName := ⟨RX0, "<init>", "()V"⟩
abbrev cX0_add : ByteArray := prog_2_method_2_code
def yX0_add : MethodName := ⟨RX0, "add", "(I)V"⟩
abbrev cX0_settle : ByteArray := prog_2_method_3_code
def yX0_settle : MethodName := ⟨RX0, "settle", "()V"⟩
abbrev cX0_meanOfMoved : ByteArray := prog_2_method_4_code
def yX0_meanOfMoved : MethodName := ⟨RX0, "meanOfMoved", "()I"⟩
abbrev cX0_changesInTurn : ByteArray := prog_2_method_5_code
def yX0_changesInTurn : MethodName := ⟨RX0, "changesInTurn", "()Z"⟩
def RX1 : String := "SungSteps$Melody"
def TX1 : u_T := fun k => match k with
  | 0 => ("SungSteps$Melody", "dues", "[I", true)
  | 1 => ("SungSteps$Melody", "breaths", "[I", true)
  | _ => ("SungSteps$Melody", "size", "I", false)
def tyX1 : Nat → FieldType := fun k => match k with
  | 0 => .array .int
  | 1 => .array .int
  | _ => .int
abbrev wsX10 : List Cond := u_ws RX1 TX1 3
theorem nmX1 : ∀ a, a < 3 → ∀ b, b < 3 → a ≠ b → (TX1 a).2.1 ≠ (TX1 b).2.1 := by decide +kernel
theorem tyX1_ok : ∀ k, k < 3 → parseFieldDescriptor (TX1 k).2.2.1 = some (tyX1 k) := by decide +kernel
abbrev cX1_init : ByteArray := prog_3_method_1_code
def yX1_init : MethodName := ⟨RX1, "<init>", "()V"⟩
abbrev cX1_readFrom : ByteArray := prog_3_method_2_code
def yX1_readFrom : MethodName := ⟨RX1, "readFrom", "(LSungSteps$Text;)V"⟩
abbrev cX1_rise : ByteArray := prog_3_method_3_code
def yX1_rise : MethodName := ⟨RX1, "rise", "(I)I"⟩
abbrev cX1_countNear : ByteArray := prog_3_method_4_code
def yX1_countNear : MethodName := ⟨RX1, "countNear", "(I)I"⟩
abbrev cX1_fitsWithin : ByteArray := prog_3_method_5_code
def yX1_fitsWithin : MethodName := ⟨RX1, "fitsWithin", "(II)Z"⟩
def RX2 : String := "SungSteps$Search"
def TX2 : u_T := fun k => match k with
  | 0 => ("SungSteps$Search", "odds", "[[J", true)
  | 1 => ("SungSteps$Search", "fewest", "[I", true)
  | 2 => ("SungSteps$Search", "trials", "LSungSteps$Trials;", false)
  | _ => ("SungSteps$Search", "q", "I", false)
def tyX2 : Nat → FieldType := fun k => match k with
  | 0 => .array (.array .long)
  | 1 => .array .int
  | 2 => .object "SungSteps$Trials"
  | _ => .int
abbrev wsX20 : List Cond := u_ws RX2 TX2 4
theorem nmX2 : ∀ a, a < 4 → ∀ b, b < 4 → a ≠ b → (TX2 a).2.1 ≠ (TX2 b).2.1 := by decide +kernel
theorem tyX2_ok : ∀ k, k < 4 → parseFieldDescriptor (TX2 k).2.2.1 = some (tyX2 k) := by decide +kernel
abbrev cX2_init : ByteArray := prog_4_method_1_code
def yX2_init : MethodName := ⟨RX2, "<init>", "()V"⟩
abbrev cX2_fewestMinutes : ByteArray := prog_4_method_2_code
def yX2_fewestMinutes : MethodName := ⟨RX2, "fewestMinutes", "(LSungSteps$Trials;II)I"⟩
abbrev cX2_isKnown : ByteArray := prog_4_method_3_code
def yX2_isKnown : MethodName := ⟨RX2, "isKnown", "([J)Z"⟩
abbrev cX2_fewestFrom : ByteArray := prog_4_method_4_code
def yX2_fewestFrom : MethodName := ⟨RX2, "fewestFrom", "(III)I"⟩
abbrev cX2_fewestAfter : ByteArray := prog_4_method_5_code
def yX2_fewestAfter : MethodName := ⟨RX2, "fewestAfter", "(IIIIZ)I"⟩
abbrev cX2_fillOdds : ByteArray := prog_4_method_6_code
def yX2_fillOdds : MethodName := ⟨RX2, "fillOdds", "(IIZ)V"⟩
def RX3 : String := "SungSteps$Singer"
def TX3 : u_T := fun k => match k with
  | 0 => ("SungSteps$Singer", "kind", "I", false)
  | 1 => ("SungSteps$Singer", "ear", "I", false)
  | 2 => ("SungSteps$Singer", "lean", "I", false)
  | 3 => ("SungSteps$Singer", "spread", "I", false)
  | 4 => ("SungSteps$Singer", "memory", "I", false)
  | 5 => ("SungSteps$Singer", "low", "I", false)
  | 6 => ("SungSteps$Singer", "high", "I", false)
  | _ => ("SungSteps$Singer", "drift", "I", false)
def tyX3 : Nat → FieldType := fun k => match k with
  | 0 => .int
  | 1 => .int
  | 2 => .int
  | 3 => .int
  | 4 => .int
  | 5 => .int
  | 6 => .int
  | _ => .int
abbrev wsX30 : List Cond := u_ws RX3 TX3 8
theorem nmX3 : ∀ a, a < 8 → ∀ b, b < 8 → a ≠ b → (TX3 a).2.1 ≠ (TX3 b).2.1 := by decide +kernel
theorem tyX3_ok : ∀ k, k < 8 → parseFieldDescriptor (TX3 k).2.2.1 = some (tyX3 k) := by decide +kernel
abbrev cX3_init : ByteArray := prog_5_method_1_code
def yX3_init : MethodName := ⟨RX3, "<init>", "()V"⟩
abbrev cX3_readFrom : ByteArray := prog_5_method_2_code
def yX3_readFrom : MethodName := ⟨RX3, "readFrom", "(LSungSteps$Text;)V"⟩
abbrev cX3_copyFrom : ByteArray := prog_5_method_3_code
def yX3_copyFrom : MethodName := ⟨RX3, "copyFrom", "(LSungSteps$Singer;)V"⟩
abbrev cX3_learn : ByteArray := prog_5_method_4_code
def yX3_learn : MethodName := ⟨RX3, "learn", "(I)V"⟩
abbrev cX3_leanSung : ByteArray := prog_5_method_5_code
def yX3_leanSung : MethodName := ⟨RX3, "leanSung", "()I"⟩
abbrev cX3_driftSung : ByteArray := prog_5_method_6_code
def yX3_driftSung : MethodName := ⟨RX3, "driftSung", "()I"⟩
abbrev cX3_highSung : ByteArray := prog_5_method_7_code
def yX3_highSung : MethodName := ⟨RX3, "highSung", "()I"⟩
abbrev cX3_isPastMemory : ByteArray := prog_5_method_8_code
def yX3_isPastMemory : MethodName := ⟨RX3, "isPastMemory", "(I)Z"⟩
abbrev cX3_hears : ByteArray := prog_5_method_9_code
def yX3_hears : MethodName := ⟨RX3, "hears", "(I)Z"⟩
abbrev cX3_moveOfAim : ByteArray := prog_5_method_10_code
def yX3_moveOfAim : MethodName := ⟨RX3, "moveOfAim", "(II)I"⟩
abbrev cX3_heldToRange : ByteArray := prog_5_method_11_code
def yX3_heldToRange : MethodName := ⟨RX3, "heldToRange", "(I)I"⟩
def RX4 : String := "SungSteps$Song"
def TX4 : u_T := fun k => match k with
  | 0 => ("SungSteps$Song", "heights", "[I", true)
  | 1 => ("SungSteps$Song", "size", "I", false)
  | _ => ("SungSteps$Song", "singer", "I", false)
def tyX4 : Nat → FieldType := fun k => match k with
  | 0 => .array .int
  | 1 => .int
  | _ => .int
abbrev wsX40 : List Cond := u_ws RX4 TX4 3
theorem nmX4 : ∀ a, a < 3 → ∀ b, b < 3 → a ≠ b → (TX4 a).2.1 ≠ (TX4 b).2.1 := by decide +kernel
theorem tyX4_ok : ∀ k, k < 3 → parseFieldDescriptor (TX4 k).2.2.1 = some (tyX4 k) := by decide +kernel
abbrev cX4_init : ByteArray := prog_6_method_1_code
def yX4_init : MethodName := ⟨RX4, "<init>", "()V"⟩
abbrev cX4_clear : ByteArray := prog_6_method_2_code
def yX4_clear : MethodName := ⟨RX4, "clear", "()V"⟩
abbrev cX4_copyFrom : ByteArray := prog_6_method_3_code
def yX4_copyFrom : MethodName := ⟨RX4, "copyFrom", "(LSungSteps$Song;)V"⟩
abbrev cX4_heightAt : ByteArray := prog_6_method_4_code
def yX4_heightAt : MethodName := ⟨RX4, "heightAt", "(I)I"⟩
abbrev cX4_isHeard : ByteArray := prog_6_method_5_code
def yX4_isHeard : MethodName := ⟨RX4, "isHeard", "()Z"⟩
abbrev cX4_homeAt : ByteArray := prog_6_method_6_code
def yX4_homeAt : MethodName := ⟨RX4, "homeAt", "(ILSungSteps$Melody;)I"⟩
abbrev cX4_slide : ByteArray := prog_6_method_7_code
def yX4_slide : MethodName := ⟨RX4, "slide", "(LSungSteps$Melody;)I"⟩
abbrev cX4_points : ByteArray := prog_6_method_8_code
def yX4_points : MethodName := ⟨RX4, "points", "(ILSungSteps$Melody;)I"⟩
abbrev cX4_stepsRight : ByteArray := prog_6_method_9_code
def yX4_stepsRight : MethodName := ⟨RX4, "stepsRight", "(LSungSteps$Melody;)I"⟩
abbrev cX4_homesRight : ByteArray := prog_6_method_10_code
def yX4_homesRight : MethodName := ⟨RX4, "homesRight", "(LSungSteps$Melody;)I"⟩
abbrev cX4_wrongBy : ByteArray := prog_6_method_11_code
def yX4_wrongBy : MethodName := ⟨RX4, "wrongBy", "(LSungSteps$Melody;)I"⟩
abbrev cX4_fullPoints : ByteArray := prog_6_method_12_code
def yX4_fullPoints : MethodName := ⟨RX4, "fullPoints", "(I)I"⟩
def RX5 : String := "SungSteps$State"
def TX5 : u_T := fun k => match k with
  | 0 => ("SungSteps$State", "song", "LSungSteps$Song;", true)
  | 1 => ("SungSteps$State", "weights", "[I", true)
  | 2 => ("SungSteps$State", "singers", "[LSungSteps$Singer;", false)
  | 3 => ("SungSteps$State", "singerCount", "I", false)
  | 4 => ("SungSteps$State", "done", "I", false)
  | 5 => ("SungSteps$State", "passed", "I", false)
  | 6 => ("SungSteps$State", "seed", "I", false)
  | _ => ("SungSteps$State", "isKept", "Z", false)
def tyX5 : Nat → FieldType := fun k => match k with
  | 0 => .object "SungSteps$Song"
  | 1 => .array .int
  | 2 => .array (.object "SungSteps$Singer")
  | 3 => .int
  | 4 => .int
  | 5 => .int
  | 6 => .int
  | _ => .boolean
abbrev wsX50 : List Cond := u_ws RX5 TX5 8
theorem nmX5 : ∀ a, a < 8 → ∀ b, b < 8 → a ≠ b → (TX5 a).2.1 ≠ (TX5 b).2.1 := by decide +kernel
theorem tyX5_ok : ∀ k, k < 8 → parseFieldDescriptor (TX5 k).2.2.1 = some (tyX5 k) := by decide +kernel
abbrev cX5_init : ByteArray := prog_7_method_1_code
def yX5_init : MethodName := ⟨RX5, "<init>", "()V"⟩
abbrev cX5_copyFrom : ByteArray := prog_7_method_2_code
def yX5_copyFrom : MethodName := ⟨RX5, "copyFrom", "(LSungSteps$State;)V"⟩
abbrev cX5_isDone : ByteArray := prog_7_method_3_code
def yX5_isDone : MethodName := ⟨RX5, "isDone", "(I)Z"⟩
abbrev cX5_isPassed : ByteArray := prog_7_method_4_code
def yX5_isPassed : MethodName := ⟨RX5, "isPassed", "(I)Z"⟩
abbrev cX5_draw : ByteArray := prog_7_method_5_code
def yX5_draw : MethodName := ⟨RX5, "draw", "(I)I"⟩
def RX6 : String := "SungSteps$Text"
def TX6 : u_T := fun k => match k with
  | 0 => ("SungSteps$Text", "bytes", "[B", true)
  | 1 => ("SungSteps$Text", "length", "I", false)
  | 2 => ("SungSteps$Text", "at", "I", false)
  | 3 => ("SungSteps$Text", "tokenAt", "I", false)
  | 4 => ("SungSteps$Text", "faultNumber", "I", false)
  | _ => ("SungSteps$Text", "faultAt", "I", false)
def tyX6 : Nat → FieldType := fun k => match k with
  | 0 => .array .byte
  | 1 => .int
  | 2 => .int
  | 3 => .int
  | 4 => .int
  | _ => .int
abbrev wsX60 : List Cond := u_ws RX6 TX6 6
theorem nmX6 : ∀ a, a < 6 → ∀ b, b < 6 → a ≠ b → (TX6 a).2.1 ≠ (TX6 b).2.1 := by decide +kernel
theorem tyX6_ok : ∀ k, k < 6 → parseFieldDescriptor (TX6 k).2.2.1 = some (tyX6 k) := by decide +kernel
abbrev cX6_init : ByteArray := prog_8_method_1_code
def yX6_init : MethodName := ⟨RX6, "<init>", "()V"⟩
abbrev cX6_add : ByteArray := prog_8_method_2_code
def yX6_add : MethodName := ⟨RX6, "add", "(B)V"⟩
abbrev cX6_clear : ByteArray := prog_8_method_3_code
def yX6_clear : MethodName := ⟨RX6, "clear", "()V"⟩
abbrev cX6_open : ByteArray := prog_8_method_4_code
def yX6_open : MethodName := ⟨RX6, "open", "()V"⟩
abbrev cX6_hasFault : ByteArray := prog_8_method_5_code
def yX6_hasFault : MethodName := ⟨RX6, "hasFault", "()Z"⟩
abbrev cX6_blame : ByteArray := prog_8_method_6_code
def yX6_blame : MethodName := ⟨RX6, "blame", "(I)V"⟩
abbrev cX6_isOver : ByteArray := prog_8_method_7_code
def yX6_isOver : MethodName := ⟨RX6, "isOver", "()Z"⟩
abbrev cX6_findToken : ByteArray := prog_8_method_8_code
def yX6_findToken : MethodName := ⟨RX6, "findToken", "()V"⟩
abbrev cX6_stepOver : ByteArray := prog_8_method_9_code
def yX6_stepOver : MethodName := ⟨RX6, "stepOver", "(CC)I"⟩
abbrev cX6_readWord : ByteArray := prog_8_method_10_code
def yX6_readWord : MethodName := ⟨RX6, "readWord", "(Ljava/lang/String;)I"⟩
abbrev cX6_numberInList : ByteArray := prog_8_method_11_code
def yX6_numberInList : MethodName := ⟨RX6, "numberInList", "(Ljava/lang/String;)I"⟩
abbrev cX6_isToken : ByteArray := prog_8_method_12_code
def yX6_isToken : MethodName := ⟨RX6, "isToken", "(Ljava/lang/String;II)Z"⟩
abbrev cX6_readNumber : ByteArray := prog_8_method_13_code
def yX6_readNumber : MethodName := ⟨RX6, "readNumber", "(II)I"⟩
abbrev cX6_valueOfToken : ByteArray := prog_8_method_14_code
def yX6_valueOfToken : MethodName := ⟨RX6, "valueOfToken", "()I"⟩
abbrev cX6_isLetterNext : ByteArray := prog_8_method_15_code
def yX6_isLetterNext : MethodName := ⟨RX6, "isLetterNext", "()Z"⟩
abbrev cX6_readIf : ByteArray := prog_8_method_16_code
def yX6_readIf : MethodName := ⟨RX6, "readIf", "(C)Z"⟩
abbrev cX6_readSign : ByteArray := prog_8_method_17_code
def yX6_readSign : MethodName := ⟨RX6, "readSign", "(C)V"⟩
def RX7 : String := "SungSteps$Trials"
def TX7 : u_T := fun k => match k with
  | 0 => ("SungSteps$Trials", "minutes", "[I", true)
  | 1 => ("SungSteps$Trials", "failPercents", "[I", true)
  | 2 => ("SungSteps$Trials", "passPercents", "[I", true)
  | 3 => ("SungSteps$Trials", "parts", "[I", true)
  | _ => ("SungSteps$Trials", "size", "I", false)
def tyX7 : Nat → FieldType := fun k => match k with
  | 0 => .array .int
  | 1 => .array .int
  | 2 => .array .int
  | 3 => .array .int
  | _ => .int
abbrev wsX70 : List Cond := u_ws RX7 TX7 5
theorem nmX7 : ∀ a, a < 5 → ∀ b, b < 5 → a ≠ b → (TX7 a).2.1 ≠ (TX7 b).2.1 := by decide +kernel
theorem tyX7_ok : ∀ k, k < 5 → parseFieldDescriptor (TX7 k).2.2.1 = some (tyX7 k) := by decide +kernel
abbrev cX7_init : ByteArray := prog_9_method_1_code
def yX7_init : MethodName := ⟨RX7, "<init>", "()V"⟩
abbrev cX7_readFrom : ByteArray := prog_9_method_2_code
def yX7_readFrom : MethodName := ⟨RX7, "readFrom", "(LSungSteps$Text;)V"⟩
abbrev cX7_readParts : ByteArray := prog_9_method_3_code
def yX7_readParts : MethodName := ⟨RX7, "readParts", "(LSungSteps$Text;)I"⟩
abbrev cX7_isBeyond : ByteArray := prog_9_method_4_code
def yX7_isBeyond : MethodName := ⟨RX7, "isBeyond", "(II)Z"⟩
abbrev cX7_percent : ByteArray := prog_9_method_5_code
def yX7_percent : MethodName := ⟨RX7, "percent", "(IIZ)I"⟩
abbrev cX7_canPart : ByteArray := prog_9_method_6_code
def yX7_canPart : MethodName := ⟨RX7, "canPart", "(II)Z"⟩
def RX8 : String := "SungSteps"
def TX8 : u_T := fun k => match k with
  | 0 => ("SungSteps", "text", "LSungSteps$Text;", true)
  | 1 => ("SungSteps", "melody", "LSungSteps$Melody;", false)
  | 2 => ("SungSteps", "spareMelody", "LSungSteps$Melody;", false)
  | 3 => ("SungSteps", "trials", "LSungSteps$Trials;", false)
  | 4 => ("SungSteps", "spareTrials", "LSungSteps$Trials;", false)
  | 5 => ("SungSteps", "spareSingers", "[LSungSteps$Singer;", false)
  | 6 => ("SungSteps", "now", "LSungSteps$State;", true)
  | 7 => ("SungSteps", "images", "[LSungSteps$State;", true)
  | 8 => ("SungSteps", "search", "LSungSteps$Search;", true)
  | 9 => ("SungSteps", "crowd", "LSungSteps$Crowd;", true)
  | 10 => ("SungSteps", "book", "[I", true)
  | 11 => ("SungSteps", "bookSize", "I", false)
  | 12 => ("SungSteps", "tried", "LSungSteps$Song;", true)
  | _ => ("SungSteps", "pupil", "LSungSteps$Singer;", true)
def tyX8 : Nat → FieldType := fun k => match k with
  | 0 => .object "SungSteps$Text"
  | 1 => .object "SungSteps$Melody"
  | 2 => .object "SungSteps$Melody"
  | 3 => .object "SungSteps$Trials"
  | 4 => .object "SungSteps$Trials"
  | 5 => .array (.object "SungSteps$Singer")
  | 6 => .object "SungSteps$State"
  | 7 => .array (.object "SungSteps$State")
  | 8 => .object "SungSteps$Search"
  | 9 => .object "SungSteps$Crowd"
  | 10 => .array .int
  | 11 => .int
  | 12 => .object "SungSteps$Song"
  | _ => .object "SungSteps$Singer"
abbrev wsX80 : List Cond := u_ws RX8 TX8 14
theorem nmX8 : ∀ a, a < 14 → ∀ b, b < 14 → a ≠ b → (TX8 a).2.1 ≠ (TX8 b).2.1 := by decide +kernel
theorem tyX8_ok : ∀ k, k < 14 → parseFieldDescriptor (TX8 k).2.2.1 = some (tyX8 k) := by decide +kernel
abbrev cX8_init : ByteArray := prog_1_method_1_code
def yX8_init : MethodName := ⟨RX8, "<init>", "()V"⟩
abbrev cX8_feed : ByteArray := prog_1_method_2_code
def yX8_feed : MethodName := ⟨RX8, "feed", "(IJ)I"⟩
abbrev cX8_tune : ByteArray := prog_1_method_3_code
def yX8_tune : MethodName := ⟨RX8, "tune", "()I"⟩
abbrev cX8_singers : ByteArray := prog_1_method_4_code
def yX8_singers : MethodName := ⟨RX8, "singers", "()I"⟩
abbrev cX8_tasks : ByteArray := prog_1_method_5_code
def yX8_tasks : MethodName := ⟨RX8, "tasks", "()I"⟩
abbrev cX8_fault : ByteArray := prog_1_method_6_code
def yX8_fault : MethodName := ⟨RX8, "fault", "()I"⟩
abbrev cX8_told : ByteArray := prog_1_method_7_code
def yX8_told : MethodName := ⟨RX8, "told", "(I)I"⟩
abbrev cX8_note : ByteArray := prog_1_method_8_code
def yX8_note : MethodName := ⟨RX8, "note", "(II)I"⟩
abbrev cX8_singer : ByteArray := prog_1_method_9_code
def yX8_singer : MethodName := ⟨RX8, "singer", "(II)I"⟩
abbrev cX8_task : ByteArray := prog_1_method_10_code
def yX8_task : MethodName := ⟨RX8, "task", "(II)I"⟩
abbrev cX8_sing : ByteArray := prog_1_method_11_code
def yX8_sing : MethodName := ⟨RX8, "sing", "(II)I"⟩
abbrev cX8_height : ByteArray := prog_1_method_12_code
def yX8_height : MethodName := ⟨RX8, "height", "(I)I"⟩
abbrev cX8_slid : ByteArray := prog_1_method_13_code
def yX8_slid : MethodName := ⟨RX8, "slid", "()I"⟩
abbrev cX8_score : ByteArray := prog_1_method_14_code
def yX8_score : MethodName := ⟨RX8, "score", "(I)I"⟩
abbrev cX8_calls : ByteArray := prog_1_method_15_code
def yX8_calls : MethodName := ⟨RX8, "calls", "()I"⟩
abbrev cX8_fooled : ByteArray := prog_1_method_16_code
def yX8_fooled : MethodName := ⟨RX8, "fooled", "(I)I"⟩
abbrev cX8_weigh : ByteArray := prog_1_method_17_code
def yX8_weigh : MethodName := ⟨RX8, "weigh", "(II)I"⟩
abbrev cX8_result : ByteArray := prog_1_method_18_code
def yX8_result : MethodName := ⟨RX8, "result", "(IZ)I"⟩
abbrev cX8_forget : ByteArray := prog_1_method_19_code
def yX8_forget : MethodName := ⟨RX8, "forget", "()I"⟩
abbrev cX8_odds : ByteArray := prog_1_method_20_code
def yX8_odds : MethodName := ⟨RX8, "odds", "(I)J"⟩
abbrev cX8_next : ByteArray := prog_1_method_21_code
def yX8_next : MethodName := ⟨RX8, "next", "()I"⟩
abbrev cX8_left : ByteArray := prog_1_method_22_code
def yX8_left : MethodName := ⟨RX8, "left", "(I)I"⟩
abbrev cX8_alike : ByteArray := prog_1_method_23_code
def yX8_alike : MethodName := ⟨RX8, "alike", "(I)I"⟩
abbrev cX8_lesson : ByteArray := prog_1_method_24_code
def yX8_lesson : MethodName := ⟨RX8, "lesson", "(II)I"⟩
abbrev cX8_plan : ByteArray := prog_1_method_25_code
def yX8_plan : MethodName := ⟨RX8, "plan", "(III)I"⟩
abbrev cX8_key : ByteArray := prog_1_method_26_code
def yX8_key : MethodName := ⟨RX8, "key", "(I)I"⟩
abbrev cX8_age : ByteArray := prog_1_method_27_code
def yX8_age : MethodName := ⟨RX8, "age", "(I)I"⟩
abbrev cX8_passes : ByteArray := prog_1_method_28_code
def yX8_passes : MethodName := ⟨RX8, "passes", "(II)I"⟩
abbrev cX8_pairs : ByteArray := prog_1_method_29_code
def yX8_pairs : MethodName := ⟨RX8, "pairs", "(I)I"⟩
abbrev cX8_join : ByteArray := prog_1_method_30_code
def yX8_join : MethodName := ⟨RX8, "join", "(I)I"⟩
abbrev cX8_part : ByteArray := prog_1_method_31_code
def yX8_part : MethodName := ⟨RX8, "part", "()I"⟩
abbrev cX8_ends : ByteArray := prog_1_method_32_code
def yX8_ends : MethodName := ⟨RX8, "ends", "(I)I"⟩
abbrev cX8_round : ByteArray := prog_1_method_33_code
def yX8_round : MethodName := ⟨RX8, "round", "(IIII)I"⟩
abbrev cX8_write : ByteArray := prog_1_method_34_code
def yX8_write : MethodName := ⟨RX8, "write", "(I)I"⟩
abbrev cX8_tear : ByteArray := prog_1_method_35_code
def yX8_tear : MethodName := ⟨RX8, "tear", "()I"⟩
abbrev cX8_judge : ByteArray := prog_1_method_36_code
def yX8_judge : MethodName := ⟨RX8, "judge", "()I"⟩
abbrev cX8_seed : ByteArray := prog_1_method_37_code
def yX8_seed : MethodName := ⟨RX8, "seed", "(I)I"⟩
abbrev cX8_keep : ByteArray := prog_1_method_38_code
def yX8_keep : MethodName := ⟨RX8, "keep", "(I)I"⟩
abbrev cX8_goBack : ByteArray := prog_1_method_39_code
def yX8_goBack : MethodName := ⟨RX8, "goBack", "(I)I"⟩
abbrev cX8_isWithin : ByteArray := prog_1_method_40_code
def yX8_isWithin : MethodName := ⟨RX8, "isWithin", "(III)Z"⟩
abbrev cX8_isNear : ByteArray := prog_1_method_41_code
def yX8_isNear : MethodName := ⟨RX8, "isNear", "(I)Z"⟩
abbrev cX8_isType : ByteArray := prog_1_method_42_code
def yX8_isType : MethodName := ⟨RX8, "isType", "(I)Z"⟩
abbrev cX8_isHome : ByteArray := prog_1_method_43_code
def yX8_isHome : MethodName := ⟨RX8, "isHome", "(I)Z"⟩
abbrev cX8_isSinger : ByteArray := prog_1_method_44_code
def yX8_isSinger : MethodName := ⟨RX8, "isSinger", "(I)Z"⟩
abbrev cX8_isTask : ByteArray := prog_1_method_45_code
def yX8_isTask : MethodName := ⟨RX8, "isTask", "(I)Z"⟩
abbrev cX8_hasSong : ByteArray := prog_1_method_46_code
def yX8_hasSong : MethodName := ⟨RX8, "hasSong", "()Z"⟩
abbrev cX8_dropSong : ByteArray := prog_1_method_47_code
def yX8_dropSong : MethodName := ⟨RX8, "dropSong", "()V"⟩
abbrev cX8_dropResults : ByteArray := prog_1_method_48_code
def yX8_dropResults : MethodName := ⟨RX8, "dropResults", "()V"⟩
abbrev cX8_dropImages : ByteArray := prog_1_method_49_code
def yX8_dropImages : MethodName := ⟨RX8, "dropImages", "()V"⟩
abbrev cX8_newSingers : ByteArray := prog_1_method_50_code
def yX8_newSingers : MethodName := ⟨RX8, "newSingers", "()[LSungSteps$Singer;"⟩
abbrev cX8_readSingers : ByteArray := prog_1_method_51_code
def yX8_readSingers : MethodName := ⟨RX8, "readSingers", "()I"⟩
abbrev cX8_singInto : ByteArray := prog_1_method_52_code
def yX8_singInto : MethodName := ⟨RX8, "singInto", "(LSungSteps$Song;LSungSteps$Singer;I)V"⟩
abbrev cX8_startOff : ByteArray := prog_1_method_53_code
def yX8_startOff : MethodName := ⟨RX8, "startOff", "(I)I"⟩
abbrev cX8_waver : ByteArray := prog_1_method_54_code
def yX8_waver : MethodName := ⟨RX8, "waver", "(LSungSteps$Singer;II)I"⟩
abbrev cX8_plainPoints : ByteArray := prog_1_method_55_code
def yX8_plainPoints : MethodName := ⟨RX8, "plainPoints", "(LSungSteps$Singer;)I"⟩
abbrev cX8_partOfWeek : ByteArray := prog_1_method_56_code
def yX8_partOfWeek : MethodName := ⟨RX8, "partOfWeek", "(III)I"⟩
abbrev cX8_isRising : ByteArray := prog_1_method_57_code
def yX8_isRising : MethodName := ⟨RX8, "isRising", "(II)Z"⟩
abbrev cX8_countAble : ByteArray := prog_1_method_58_code
def yX8_countAble : MethodName := ⟨RX8, "countAble", "(I)I"⟩
abbrev cX8_oddsNow : ByteArray := prog_1_method_59_code
def yX8_oddsNow : MethodName := ⟨RX8, "oddsNow", "(I)J"⟩
abbrev cX8_greatestWith : ByteArray := prog_1_method_60_code
def yX8_greatestWith : MethodName := ⟨RX8, "greatestWith", "(IZ)J"⟩
abbrev cX8_answersNeeded : ByteArray := prog_1_method_61_code
def yX8_answersNeeded : MethodName := ⟨RX8, "answersNeeded", "(III)I"⟩
def RX9 : String := "SungStepsModel"
def TX9 : u_T := fun k => match k with
  | 0 => ("SungStepsModel", "notes", "I", false)
  | 1 => ("SungStepsModel", "due", "[I", true)
  | 2 => ("SungStepsModel", "breath", "[Z", true)
  | 3 => ("SungStepsModel", "singers", "I", false)
  | 4 => ("SungStepsModel", "singer", "[I", true)
  | 5 => ("SungStepsModel", "tasks", "I", false)
  | 6 => ("SungStepsModel", "task", "[I", true)
  | 7 => ("SungStepsModel", "weights", "[I", true)
  | 8 => ("SungStepsModel", "results", "[I", true)
  | 9 => ("SungStepsModel", "sung", "I", false)
  | 10 => ("SungStepsModel", "song", "[I", true)
  | 11 => ("SungStepsModel", "seed", "I", false)
  | 12 => ("SungStepsModel", "text", "[I", true)
  | 13 => ("SungStepsModel", "texted", "I", false)
  | 14 => ("SungStepsModel", "faultPlace", "I", false)
  | 15 => ("SungStepsModel", "at0", "I", false)
  | 16 => ("SungStepsModel", "said", "J", false)
  | 17 => ("SungStepsModel", "wordEnd", "I", false)
  | 18 => ("SungStepsModel", "number", "I", false)
  | 19 => ("SungStepsModel", "numberAt", "I", false)
  | 20 => ("SungStepsModel", "readMany", "I", false)
  | 21 => ("SungStepsModel", "readDue", "[I", true)
  | 22 => ("SungStepsModel", "readBreath", "[Z", true)
  | 23 => ("SungStepsModel", "isBreath", "Z", false)
  | 24 => ("SungStepsModel", "readSinger", "[I", true)
  | 25 => ("SungStepsModel", "readTask", "[I", true)
  | 26 => ("SungStepsModel", "leftBy", "[I", true)
  | 27 => ("SungStepsModel", "wereResults", "[I", true)
  | 28 => ("SungStepsModel", "trial", "[I", true)
  | 29 => ("SungStepsModel", "wasSinger", "[I", true)
  | 30 => ("SungStepsModel", "canKnow", "[Z", true)
  | 31 => ("SungStepsModel", "thenKnow", "[Z", true)
  | 32 => ("SungStepsModel", "crowded", "I", false)
  | 33 => ("SungStepsModel", "crowd", "[I", true)
  | 34 => ("SungStepsModel", "moves", "[I", true)
  | 35 => ("SungStepsModel", "booked", "I", false)
  | 36 => ("SungStepsModel", "book", "[I", true)
  | 37 => ("SungStepsModel", "images", "[I", true)
  | _ => ("SungStepsModel", "isKept", "[Z", true)
def tyX9 : Nat → FieldType := fun k => match k with
  | 0 => .int
  | 1 => .array .int
  | 2 => .array .boolean
  | 3 => .int
  | 4 => .array .int
  | 5 => .int
  | 6 => .array .int
  | 7 => .array .int
  | 8 => .array .int
  | 9 => .int
  | 10 => .array .int
  | 11 => .int
  | 12 => .array .int
  | 13 => .int
  | 14 => .int
  | 15 => .int
  | 16 => .long
  | 17 => .int
  | 18 => .int
  | 19 => .int
  | 20 => .int
  | 21 => .array .int
  | 22 => .array .boolean
  | 23 => .boolean
  | 24 => .array .int
  | 25 => .array .int
  | 26 => .array .int
  | 27 => .array .int
  | 28 => .array .int
  | 29 => .array .int
  | 30 => .array .boolean
  | 31 => .array .boolean
  | 32 => .int
  | 33 => .array .int
  | 34 => .array .int
  | 35 => .int
  | 36 => .array .int
  | 37 => .array .int
  | _ => .array .boolean
abbrev wsX90 : List Cond := u_ws RX9 TX9 39
theorem nmX9 : ∀ a, a < 39 → ∀ b, b < 39 → a ≠ b → (TX9 a).2.1 ≠ (TX9 b).2.1 := by decide +kernel
theorem tyX9_ok : ∀ k, k < 39 → parseFieldDescriptor (TX9 k).2.2.1 = some (tyX9 k) := by decide +kernel
abbrev cX9_init : ByteArray := prog_11_method_1_code
def yX9_init : MethodName := ⟨RX9, "<init>", "()V"⟩
abbrev cX9_in : ByteArray := prog_11_method_3_code
def yX9_in : MethodName := ⟨RX9, "in", "(JJJ)Z"⟩
abbrev cX9_has : ByteArray := prog_11_method_4_code
def yX9_has : MethodName := ⟨RX9, "has", "(II)Z"⟩
abbrev cX9_size : ByteArray := prog_11_method_5_code
def yX9_size : MethodName := ⟨RX9, "size", "(I)I"⟩
abbrev cX9_isSinger : ByteArray := prog_11_method_6_code
def yX9_isSinger : MethodName := ⟨RX9, "isSinger", "(I)Z"⟩
abbrev cX9_isTask : ByteArray := prog_11_method_7_code
def yX9_isTask : MethodName := ⟨RX9, "isTask", "(I)Z"⟩
abbrev cX9_feed : ByteArray := prog_11_method_8_code
def yX9_feed : MethodName := ⟨RX9, "feed", "(IJ)I"⟩
abbrev cX9_here : ByteArray := prog_11_method_9_code
def yX9_here : MethodName := ⟨RX9, "here", "()I"⟩
abbrev cX9_fails : ByteArray := prog_11_method_10_code
def yX9_fails : MethodName := ⟨RX9, "fails", "(II)I"⟩
abbrev cX9_readWord : ByteArray := prog_11_method_11_code
def yX9_readWord : MethodName := ⟨RX9, "readWord", "()V"⟩
abbrev cX9_code : ByteArray := prog_11_method_12_code
def yX9_code : MethodName := ⟨RX9, "code", "(IIII)J"⟩
abbrev cX9_longer : ByteArray := prog_11_method_13_code
def yX9_longer : MethodName := ⟨RX9, "longer", "(JI)J"⟩
abbrev cX9_takeNumber : ByteArray := prog_11_method_14_code
def yX9_takeNumber : MethodName := ⟨RX9, "takeNumber", "(II)I"⟩
abbrev cX9_takeStop : ByteArray := prog_11_method_15_code
def yX9_takeStop : MethodName := ⟨RX9, "takeStop", "()I"⟩
abbrev cX9_into : ByteArray := prog_11_method_16_code
def yX9_into : MethodName := ⟨RX9, "into", "([IIII)I"⟩
abbrev cX9_takeNote : ByteArray := prog_11_method_17_code
def yX9_takeNote : MethodName := ⟨RX9, "takeNote", "(Z)I"⟩
abbrev cX9_tune : ByteArray := prog_11_method_18_code
def yX9_tune : MethodName := ⟨RX9, "tune", "()I"⟩
abbrev cX9_endSong : ByteArray := prog_11_method_19_code
def yX9_endSong : MethodName := ⟨RX9, "endSong", "()V"⟩
abbrev cX9_kindOf : ByteArray := prog_11_method_20_code
def yX9_kindOf : MethodName := ⟨RX9, "kindOf", "()I"⟩
abbrev cX9_takeSinger : ByteArray := prog_11_method_21_code
def yX9_takeSinger : MethodName := ⟨RX9, "takeSinger", "()I"⟩
abbrev cX9_singers : ByteArray := prog_11_method_22_code
def yX9_singers : MethodName := ⟨RX9, "singers", "()I"⟩
abbrev cX9_takePart : ByteArray := prog_11_method_23_code
def yX9_takePart : MethodName := ⟨RX9, "takePart", "(I)I"⟩
abbrev cX9_takeTask : ByteArray := prog_11_method_24_code
def yX9_takeTask : MethodName := ⟨RX9, "takeTask", "()I"⟩
abbrev cX9_tasks : ByteArray := prog_11_method_25_code
def yX9_tasks : MethodName := ⟨RX9, "tasks", "()I"⟩
abbrev cX9_fault : ByteArray := prog_11_method_26_code
def yX9_fault : MethodName := ⟨RX9, "fault", "()I"⟩
abbrev cX9_doneSet : ByteArray := prog_11_method_27_code
def yX9_doneSet : MethodName := ⟨RX9, "doneSet", "(Z)I"⟩
abbrev cX9_told : ByteArray := prog_11_method_28_code
def yX9_told : MethodName := ⟨RX9, "told", "(I)I"⟩
abbrev cX9_isNote : ByteArray := prog_11_method_29_code
def yX9_isNote : MethodName := ⟨RX9, "isNote", "(I)Z"⟩
abbrev cX9_note : ByteArray := prog_11_method_30_code
def yX9_note : MethodName := ⟨RX9, "note", "(II)I"⟩
abbrev cX9_singer : ByteArray := prog_11_method_31_code
def yX9_singer : MethodName := ⟨RX9, "singer", "(II)I"⟩
abbrev cX9_task : ByteArray := prog_11_method_32_code
def yX9_task : MethodName := ⟨RX9, "task", "(II)I"⟩
abbrev cX9_draw : ByteArray := prog_11_method_33_code
def yX9_draw : MethodName := ⟨RX9, "draw", "(I)I"⟩
abbrev cX9_highOf : ByteArray := prog_11_method_34_code
def yX9_highOf : MethodName := ⟨RX9, "highOf", "(I)I"⟩
abbrev cX9_heldTo : ByteArray := prog_11_method_35_code
def yX9_heldTo : MethodName := ⟨RX9, "heldTo", "(II)I"⟩
abbrev cX9_firstAim : ByteArray := prog_11_method_36_code
def yX9_firstAim : MethodName := ⟨RX9, "firstAim", "(I)I"⟩
abbrev cX9_nextAim : ByteArray := prog_11_method_37_code
def yX9_nextAim : MethodName := ⟨RX9, "nextAim", "(IIII)I"⟩
abbrev cX9_swing : ByteArray := prog_11_method_38_code
def yX9_swing : MethodName := ⟨RX9, "swing", "(IIZ)I"⟩
abbrev cX9_singInto : ByteArray := prog_11_method_39_code
def yX9_singInto : MethodName := ⟨RX9, "singInto", "([IIIZ)V"⟩
abbrev cX9_isNear : ByteArray := prog_11_method_40_code
def yX9_isNear : MethodName := ⟨RX9, "isNear", "(I)Z"⟩
abbrev cX9_scoreOf : ByteArray := prog_11_method_41_code
def yX9_scoreOf : MethodName := ⟨RX9, "scoreOf", "([III)I"⟩
abbrev cX9_sing : ByteArray := prog_11_method_42_code
def yX9_sing : MethodName := ⟨RX9, "sing", "(II)I"⟩
abbrev cX9_height : ByteArray := prog_11_method_43_code
def yX9_height : MethodName := ⟨RX9, "height", "(I)I"⟩
abbrev cX9_isSilent : ByteArray := prog_11_method_44_code
def yX9_isSilent : MethodName := ⟨RX9, "isSilent", "()Z"⟩
abbrev cX9_slid : ByteArray := prog_11_method_45_code
def yX9_slid : MethodName := ⟨RX9, "slid", "()I"⟩
abbrev cX9_score : ByteArray := prog_11_method_46_code
def yX9_score : MethodName := ⟨RX9, "score", "(I)I"⟩
abbrev cX9_calls : ByteArray := prog_11_method_47_code
def yX9_calls : MethodName := ⟨RX9, "calls", "()I"⟩
abbrev cX9_fooled : ByteArray := prog_11_method_48_code
def yX9_fooled : MethodName := ⟨RX9, "fooled", "(I)I"⟩
abbrev cX9_weigh : ByteArray := prog_11_method_49_code
def yX9_weigh : MethodName := ⟨RX9, "weigh", "(II)I"⟩
abbrev cX9_doneMany : ByteArray := prog_11_method_50_code
def yX9_doneMany : MethodName := ⟨RX9, "doneMany", "()I"⟩
abbrev cX9_result : ByteArray := prog_11_method_51_code
def yX9_result : MethodName := ⟨RX9, "result", "(IZ)I"⟩
abbrev cX9_forget : ByteArray := prog_11_method_52_code
def yX9_forget : MethodName := ⟨RX9, "forget", "()I"⟩
abbrev cX9_lacks : ByteArray := prog_11_method_53_code
def yX9_lacks : MethodName := ⟨RX9, "lacks", "(II)Z"⟩
abbrev cX9_shareOf : ByteArray := prog_11_method_54_code
def yX9_shareOf : MethodName := ⟨RX9, "shareOf", "(III)I"⟩
abbrev cX9_oddsOf : ByteArray := prog_11_method_55_code
def yX9_oddsOf : MethodName := ⟨RX9, "oddsOf", "(I)J"⟩
abbrev cX9_odds : ByteArray := prog_11_method_56_code
def yX9_odds : MethodName := ⟨RX9, "odds", "(I)J"⟩
abbrev cX9_allOdds : ByteArray := prog_11_method_57_code
def yX9_allOdds : MethodName := ⟨RX9, "allOdds", "()J"⟩
abbrev cX9_greatest : ByteArray := prog_11_method_58_code
def yX9_greatest : MethodName := ⟨RX9, "greatest", "()J"⟩
abbrev cX9_partsBy : ByteArray := prog_11_method_59_code
def yX9_partsBy : MethodName := ⟨RX9, "partsBy", "(I)J"⟩
abbrev cX9_next : ByteArray := prog_11_method_60_code
def yX9_next : MethodName := ⟨RX9, "next", "()I"⟩
abbrev cX9_power : ByteArray := prog_11_method_61_code
def yX9_power : MethodName := ⟨RX9, "power", "(I)I"⟩
abbrev cX9_leftOf : ByteArray := prog_11_method_62_code
def yX9_leftOf : MethodName := ⟨RX9, "leftOf", "(II)I"⟩
abbrev cX9_left : ByteArray := prog_11_method_63_code
def yX9_left : MethodName := ⟨RX9, "left", "(I)I"⟩
abbrev cX9_alike : ByteArray := prog_11_method_64_code
def yX9_alike : MethodName := ⟨RX9, "alike", "(I)I"⟩
abbrev cX9_teach : ByteArray := prog_11_method_65_code
def yX9_teach : MethodName := ⟨RX9, "teach", "(II)V"⟩
abbrev cX9_plainScore : ByteArray := prog_11_method_66_code
def yX9_plainScore : MethodName := ⟨RX9, "plainScore", "(I)I"⟩
abbrev cX9_lesson : ByteArray := prog_11_method_67_code
def yX9_lesson : MethodName := ⟨RX9, "lesson", "(II)I"⟩
abbrev cX9_hold : ByteArray := prog_11_method_68_code
def yX9_hold : MethodName := ⟨RX9, "hold", "(I)V"⟩
abbrev cX9_putBack : ByteArray := prog_11_method_69_code
def yX9_putBack : MethodName := ⟨RX9, "putBack", "(I)V"⟩
abbrev cX9_partOf : ByteArray := prog_11_method_70_code
def yX9_partOf : MethodName := ⟨RX9, "partOf", "(III)I"⟩
abbrev cX9_plan : ByteArray := prog_11_method_71_code
def yX9_plan : MethodName := ⟨RX9, "plan", "(III)I"⟩
abbrev cX9_isWithin : ByteArray := prog_11_method_72_code
def yX9_isWithin : MethodName := ⟨RX9, "isWithin", "(II)Z"⟩
abbrev cX9_key : ByteArray := prog_11_method_73_code
def yX9_key : MethodName := ⟨RX9, "key", "(I)I"⟩
abbrev cX9_age : ByteArray := prog_11_method_74_code
def yX9_age : MethodName := ⟨RX9, "age", "(I)I"⟩
abbrev cX9_isKnownBy : ByteArray := prog_11_method_75_code
def yX9_isKnownBy : MethodName := ⟨RX9, "isKnownBy", "(II)Z"⟩
abbrev cX9_passesWithSlip : ByteArray := prog_11_method_76_code
def yX9_passesWithSlip : MethodName := ⟨RX9, "passesWithSlip", "(I)I"⟩
abbrev cX9_figures : ByteArray := prog_11_method_77_code
def yX9_figures : MethodName := ⟨RX9, "figures", "(I)I"⟩
abbrev cX9_passes : ByteArray := prog_11_method_78_code
def yX9_passes : MethodName := ⟨RX9, "passes", "(II)I"⟩
abbrev cX9_pairs : ByteArray := prog_11_method_79_code
def yX9_pairs : MethodName := ⟨RX9, "pairs", "(I)I"⟩
abbrev cX9_isHome : ByteArray := prog_11_method_80_code
def yX9_isHome : MethodName := ⟨RX9, "isHome", "(I)Z"⟩
abbrev cX9_join : ByteArray := prog_11_method_81_code
def yX9_join : MethodName := ⟨RX9, "join", "(I)I"⟩
abbrev cX9_part : ByteArray := prog_11_method_82_code
def yX9_part : MethodName := ⟨RX9, "part", "()I"⟩
abbrev cX9_ends : ByteArray := prog_11_method_83_code
def yX9_ends : MethodName := ⟨RX9, "ends", "(I)I"⟩
abbrev cX9_round : ByteArray := prog_11_method_84_code
def yX9_round : MethodName := ⟨RX9, "round", "(IIII)I"⟩
abbrev cX9_write : ByteArray := prog_11_method_85_code
def yX9_write : MethodName := ⟨RX9, "write", "(I)I"⟩
abbrev cX9_tear : ByteArray := prog_11_method_86_code
def yX9_tear : MethodName := ⟨RX9, "tear", "()I"⟩
abbrev cX9_judge : ByteArray := prog_11_method_87_code
def yX9_judge : MethodName := ⟨RX9, "judge", "()I"⟩
abbrev cX9_seed : ByteArray := prog_11_method_88_code
def yX9_seed : MethodName := ⟨RX9, "seed", "(I)I"⟩
abbrev cX9_keep : ByteArray := prog_11_method_89_code
def yX9_keep : MethodName := ⟨RX9, "keep", "(I)I"⟩
abbrev cX9_goBack : ByteArray := prog_11_method_90_code
def yX9_goBack : MethodName := ⟨RX9, "goBack", "(I)I"⟩
def RJx145de : String := "java/io/Serializable"
def TJx145de : u_T := fun k => match k with
  | _ => ("", "", "", false)
def tyJx145de : Nat → FieldType := fun k => match k with
  | _ => .int
abbrev wsJx145de0 : List Cond := u_ws RJx145de TJx145de 0
def RJx9f9b0 : String := "java/lang/CharSequence"
def TJx9f9b0 : u_T := fun k => match k with
  | _ => ("", "", "", false)
def tyJx9f9b0 : Nat → FieldType := fun k => match k with
  | _ => .int
abbrev wsJx9f9b00 : List Cond := u_ws RJx9f9b0 TJx9f9b0 0
def RJxb160c : String := "java/lang/Comparable"
def TJxb160c : u_T := fun k => match k with
  | _ => ("", "", "", false)
def tyJxb160c : Nat → FieldType := fun k => match k with
  | _ => .int
abbrev wsJxb160c0 : List Cond := u_ws RJxb160c TJxb160c 0
def RJ6 : String := "java/lang/Integer"
def TJ6 : u_T := fun k => match k with
  | _ => ("", "", "", false)
def tyJ6 : Nat → FieldType := fun k => match k with
  | _ => .int
abbrev wsJ60 : List Cond := u_ws RJ6 TJ6 0
abbrev cJ6_bitCount_0f7a4 : ByteArray := prog_12_method_49_code
def yJ6_bitCount_0f7a4 : MethodName := ⟨RJ6, "bitCount", "(I)I"⟩
def RJ9 : String := "java/lang/Math"
def TJ9 : u_T := fun k => match k with
  | _ => ("", "", "", false)
def tyJ9 : Nat → FieldType := fun k => match k with
  | _ => .int
abbrev wsJ90 : List Cond := u_ws RJ9 TJ9 0
abbrev cJ9_abs_0f7a4 : ByteArray := prog_13_method_59_code
def yJ9_abs_0f7a4 : MethodName := ⟨RJ9, "abs", "(I)I"⟩
abbrev cJ9_max_7cf53 : ByteArray := prog_13_method_65_code
def yJ9_max_7cf53 : MethodName := ⟨RJ9, "max", "(II)I"⟩
abbrev cJ9_max_f86c9 : ByteArray := prog_13_method_66_code
def yJ9_max_f86c9 : MethodName := ⟨RJ9, "max", "(JJ)J"⟩
abbrev cJ9_min_7cf53 : ByteArray := prog_13_method_69_code
def yJ9_min_7cf53 : MethodName := ⟨RJ9, "min", "(II)I"⟩
def RJ0 : String := "java/lang/String"
def TJ0 : u_T := fun k => match k with
  | _ => ("", "", "", false)
def tyJ0 : Nat → FieldType := fun k => match k with
  | _ => .int
abbrev wsJ00 : List Cond := u_ws RJ0 TJ0 0
abbrev cJ0_length_8abf5 : ByteArray := prog_14_method_54_code
def yJ0_length_8abf5 : MethodName := ⟨RJ0, "length", "()I"⟩
abbrev cJ0_charAt_5068e : ByteArray := prog_14_method_56_code
def yJ0_charAt_5068e : MethodName := ⟨RJ0, "charAt", "(I)C"⟩
abbrev cJ0_coder_7d493 : ByteArray := prog_14_method_152_code
def yJ0_coder_7d493 : MethodName := ⟨RJ0, "coder", "()B"⟩
abbrev cJ0_isLatin1_aae02 : ByteArray := prog_14_method_154_code
def yJ0_isLatin1_aae02 : MethodName := ⟨RJ0, "isLatin1", "()Z"⟩
abbrev cJ0_checkIndex_df160 : ByteArray := prog_14_method_155_code
def yJ0_checkIndex_df160 : MethodName := ⟨RJ0, "checkIndex", "(II)V"⟩
def RJ1 : String := "java/lang/StringLatin1"
def TJ1 : u_T := fun k => match k with
  | _ => ("", "", "", false)
def tyJ1 : Nat → FieldType := fun k => match k with
  | _ => .int
abbrev wsJ10 : List Cond := u_ws RJ1 TJ1 0
abbrev cJ1_charAt_3b067 : ByteArray := prog_15_method_2_code
def yJ1_charAt_3b067 : MethodName := ⟨RJ1, "charAt", "([BI)C"⟩
def RJ2 : String := "java/lang/StringUTF16"
def TJ2 : u_T := fun k => match k with
  | _ => ("", "", "", false)
def tyJ2 : Nat → FieldType := fun k => match k with
  | _ => .int
abbrev wsJ20 : List Cond := u_ws RJ2 TJ2 0
abbrev cJ2_getChar_3b067 : ByteArray := prog_16_method_5_code
def yJ2_getChar_3b067 : MethodName := ⟨RJ2, "getChar", "([BI)C"⟩
abbrev cJ2_length_9d52b : ByteArray := prog_16_method_6_code
def yJ2_length_9d52b : MethodName := ⟨RJ2, "length", "([B)I"⟩
abbrev cJ2_charAt_3b067 : ByteArray := prog_16_method_83_code
def yJ2_charAt_3b067 : MethodName := ⟨RJ2, "charAt", "([BI)C"⟩
abbrev cJ2_checkIndex_2214a : ByteArray := prog_16_method_91_code
def yJ2_checkIndex_2214a : MethodName := ⟨RJ2, "checkIndex", "(I[B)V"⟩
def RJ10 : String := "java/lang/System"
def TJ10 : u_T := fun k => match k with
  | _ => ("", "", "", false)
def tyJ10 : Nat → FieldType := fun k => match k with
  | _ => .int
abbrev wsJ100 : List Cond := u_ws RJ10 TJ10 0
def RJxfd54e : String := "java/lang/constant/Constable"
def TJxfd54e : u_T := fun k => match k with
  | _ => ("", "", "", false)
def tyJxfd54e : Nat → FieldType := fun k => match k with
  | _ => .int
abbrev wsJxfd54e0 : List Cond := u_ws RJxfd54e TJxfd54e 0
def RJx3cf43 : String := "java/lang/constant/ConstantDesc"
def TJx3cf43 : u_T := fun k => match k with
  | _ => ("", "", "", false)
def tyJx3cf43 : Nat → FieldType := fun k => match k with
  | _ => .int
abbrev wsJx3cf430 : List Cond := u_ws RJx3cf43 TJx3cf43 0
def RJ7 : String := "java/util/Arrays"
def TJ7 : u_T := fun k => match k with
  | _ => ("", "", "", false)
def tyJ7 : Nat → FieldType := fun k => match k with
  | _ => .int
abbrev wsJ70 : List Cond := u_ws RJ7 TJ7 0
abbrev cJ7_fill_53178 : ByteArray := prog_18_method_103_code
def yJ7_fill_53178 : MethodName := ⟨RJ7, "fill", "([II)V"⟩
def RJ3 : String := "jdk/internal/util/Preconditions"
def TJ3 : u_T := fun k => match k with
  | _ => ("", "", "", false)
def tyJ3 : Nat → FieldType := fun k => match k with
  | _ => .int
abbrev wsJ30 : List Cond := u_ws RJ3 TJ3 0
abbrev cJ3_checkIndex_8e157 : ByteArray := prog_19_method_11_code
def yJ3_checkIndex_8e157 : MethodName := ⟨RJ3, "checkIndex", "(IILjava/util/function/BiFunction;)I"⟩
def RL : String := "SungStepsLaw"
abbrev cL_law : ByteArray := code
def yL_law : MethodName := ⟨RL, "law", "([I)Z"⟩
abbrev vwCl : List vw_C := [(RX0, TX0, 5), (RX1, TX1, 3), (RX2, TX2, 4), (RX3, TX3, 8), (RX4, TX4, 3), (RX5, TX5, 8), (RX6, TX6, 6), (RX7, TX7, 5), (RX8, TX8, 14), (RX9, TX9, 39)]
end
section
theorem dX0_init_0 : decode cX0_init 0 = .ok (.aload_n 0, 1) := by decide +kernel
theorem dX0_init_1 : decode cX0_init 1 = .ok (.invokespecial 3, 3) := by decide +kernel
theorem dX0_init_4 : decode cX0_init 4 = .ok (.aload_n 0, 1) := by decide +kernel
theorem dX0_init_5 : decode cX0_init 5 = .ok (.bipush 8, 2) := by decide +kernel
theorem dX0_init_7 : decode cX0_init 7 = .ok (.newarray .int, 2) := by decide +kernel
theorem dX0_init_9 : decode cX0_init 9 = .ok (.putfield 9, 3) := by decide +kernel
theorem dX0_init_12 : decode cX0_init 12 = .ok (.aload_n 0, 1) := by decide +kernel
theorem dX0_init_13 : decode cX0_init 13 = .ok (.bipush 8, 2) := by decide +kernel
theorem dX0_init_15 : decode cX0_init 15 = .ok (.newarray .int, 2) := by decide +kernel
theorem dX0_init_17 : decode cX0_init 17 = .ok (.putfield 15, 3) := by decide +kernel
theorem dX0_init_20 : decode cX0_init 20 = .ok (.aload_n 0, 1) := by decide +kernel
theorem dX0_init_21 : decode cX0_init 21 = .ok (.iconst 0, 1) := by decide +kernel
theorem dX0_init_22 : decode cX0_init 22 = .ok (.putfield 18, 3) := by decide +kernel
theorem dX0_init_25 : decode cX0_init 25 = .ok (.aload_n 0, 1) := by decide +kernel
theorem dX0_init_26 : decode cX0_init 26 = .ok (.iconst 0, 1) := by decide +kernel
theorem dX0_init_27 : decode cX0_init 27 = .ok (.putfield 22, 3) := by decide +kernel
theorem dX0_init_30 : decode cX0_init 30 = .ok (.aload_n 0, 1) := by decide +kernel
theorem dX0_init_31 : decode cX0_init 31 = .ok (.iconst 0, 1) := by decide +kernel
theorem dX0_init_32 : decode cX0_init 32 = .ok (.putfield 25, 3) := by decide +kernel
theorem dX0_init_35 : decode cX0_init 35 = .ok (.return_, 1) := by decide +kernel
theorem dX0_add_0 : decode cX0_add 0 = .ok (.aload_n 0, 1) := by decide +kernel
theorem dX0_add_1 : decode cX0_add 1 = .ok (.getfield 18, 3) := by decide +kernel
theorem dX0_add_4 : decode cX0_add 4 = .ok (.bipush 8, 2) := by decide +kernel
theorem dX0_add_6 : decode cX0_add 6 = .ok (.if_icmp .lt 4, 3) := by decide +kernel
theorem dX0_add_9 : decode cX0_add 9 = .ok (.return_, 1) := by decide +kernel
theorem dX0_add_10 : decode cX0_add 10 = .ok (.aload_n 0, 1) := by decide +kernel
theorem dX0_add_11 : decode cX0_add 11 = .ok (.getfield 9, 3) := by decide +kernel
theorem dX0_add_14 : decode cX0_add 14 = .ok (.aload_n 0, 1) := by decide +kernel
theorem dX0_add_15 : decode cX0_add 15 = .ok (.getfield 18, 3) := by decide +kernel
theorem dX0_add_18 : decode cX0_add 18 = .ok (.iload_n 1, 1) := by decide +kernel
theorem dX0_add_19 : decode cX0_add 19 = .ok (.iastore, 1) := by decide +kernel
theorem dX0_add_20 : decode cX0_add 20 = .ok (.aload_n 0, 1) := by decide +kernel
theorem dX0_add_21 : decode cX0_add 21 = .ok (.dup, 1) := by decide +kernel
theorem dX0_add_22 : decode cX0_add 22 = .ok (.getfield 18, 3) := by decide +kernel
theorem dX0_add_25 : decode cX0_add 25 = .ok (.iconst 1, 1) := by decide +kernel
theorem dX0_add_26 : decode cX0_add 26 = .ok (.iadd, 1) := by decide +kernel
theorem dX0_add_27 : decode cX0_add 27 = .ok (.putfield 18, 3) := by decide +kernel
theorem dX0_add_30 : decode cX0_add 30 = .ok (.return_, 1) := by decide +kernel
theorem dX0_settle_0 : decode cX0_settle 0 = .ok (.aload_n 0, 1) := by decide +kernel
theorem dX0_settle_1 : decode cX0_settle 1 = .ok (.getfield 9, 3) := by decide +kernel
theorem dX0_settle_4 : decode cX0_settle 4 = .ok (.iconst 0, 1) := by decide +kernel
theorem dX0_settle_5 : decode cX0_settle 5 = .ok (.aload_n 0, 1) := by decide +kernel
theorem dX0_settle_6 : decode cX0_settle 6 = .ok (.getfield 15, 3) := by decide +kernel
theorem dX0_settle_9 : decode cX0_settle 9 = .ok (.iconst 0, 1) := by decide +kernel
theorem dX0_settle_10 : decode cX0_settle 10 = .ok (.bipush 8, 2) := by decide +kernel
theorem dX0_settle_12 : decode cX0_settle 12 = .ok (.invokestatic 28, 3) := by decide +kernel
theorem dX0_settle_15 : decode cX0_settle 15 = .ok (.aload_n 0, 1) := by decide +kernel
theorem dX0_settle_16 : decode cX0_settle 16 = .ok (.aload_n 0, 1) := by decide +kernel
theorem dX0_settle_17 : decode cX0_settle 17 = .ok (.invokevirtual 34, 3) := by decide +kernel
theorem dX0_settle_20 : decode cX0_settle 20 = .ok (.putfield 22, 3) := by decide +kernel
theorem dX0_settle_23 : decode cX0_settle 23 = .ok (.aload_n 0, 1) := by decide +kernel
theorem dX0_settle_24 : decode cX0_settle 24 = .ok (.iconst 0, 1) := by decide +kernel
theorem dX0_settle_25 : decode cX0_settle 25 = .ok (.putfield 25, 3) := by decide +kernel
theorem dX0_settle_28 : decode cX0_settle 28 = .ok (.aload_n 0, 1) := by decide +kernel
theorem dX0_settle_29 : decode cX0_settle 29 = .ok (.getfield 25, 3) := by decide +kernel
theorem dX0_settle_32 : decode cX0_settle 32 = .ok (.sipush 5000, 3) := by decide +kernel
theorem dX0_settle_35 : decode cX0_settle 35 = .ok (.if_icmp .ge 31, 3) := by decide +kernel
theorem dX0_settle_38 : decode cX0_settle 38 = .ok (.aload_n 0, 1) := by decide +kernel
theorem dX0_settle_39 : decode cX0_settle 39 = .ok (.invokevirtual 38, 3) := by decide +kernel
theorem dX0_settle_42 : decode cX0_settle 42 = .ok (.ifCond .eq 24, 3) := by decide +kernel
theorem dX0_settle_45 : decode cX0_settle 45 = .ok (.aload_n 0, 1) := by decide +kernel
theorem dX0_settle_46 : decode cX0_settle 46 = .ok (.dup, 1) := by decide +kernel
theorem dX0_settle_47 : decode cX0_settle 47 = .ok (.getfield 25, 3) := by decide +kernel
theorem dX0_settle_50 : decode cX0_settle 50 = .ok (.iconst 1, 1) := by decide +kernel
theorem dX0_settle_51 : decode cX0_settle 51 = .ok (.iadd, 1) := by decide +kernel
theorem dX0_settle_52 : decode cX0_settle 52 = .ok (.putfield 25, 3) := by decide +kernel
theorem dX0_settle_55 : decode cX0_settle 55 = .ok (.aload_n 0, 1) := by decide +kernel
theorem dX0_settle_56 : decode cX0_settle 56 = .ok (.aload_n 0, 1) := by decide +kernel
theorem dX0_settle_57 : decode cX0_settle 57 = .ok (.invokevirtual 34, 3) := by decide +kernel
theorem dX0_settle_60 : decode cX0_settle 60 = .ok (.putfield 22, 3) := by decide +kernel
theorem dX0_settle_63 : decode cX0_settle 63 = .ok (.goto (-35), 3) := by decide +kernel
theorem dX0_settle_66 : decode cX0_settle 66 = .ok (.return_, 1) := by decide +kernel
theorem dX0_meanOfMoved_0 : decode cX0_meanOfMoved 0 = .ok (.iconst 0, 1) := by decide +kernel
theorem dX0_meanOfMoved_1 : decode cX0_meanOfMoved 1 = .ok (.istore_n 1, 1) := by decide +kernel
theorem dX0_meanOfMoved_2 : decode cX0_meanOfMoved 2 = .ok (.iconst 0, 1) := by decide +kernel
theorem dX0_meanOfMoved_3 : decode cX0_meanOfMoved 3 = .ok (.istore_n 2, 1) := by decide +kernel
theorem dX0_meanOfMoved_4 : decode cX0_meanOfMoved 4 = .ok (.iload_n 2, 1) := by decide +kernel
theorem dX0_meanOfMoved_5 : decode cX0_meanOfMoved 5 = .ok (.aload_n 0, 1) := by decide +kernel
theorem dX0_meanOfMoved_6 : decode cX0_meanOfMoved 6 = .ok (.getfield 18, 3) := by decide +kernel
theorem dX0_meanOfMoved_9 : decode cX0_meanOfMoved 9 = .ok (.if_icmp .ge 18, 3) := by decide +kernel
theorem dX0_meanOfMoved_12 : decode cX0_meanOfMoved 12 = .ok (.iload_n 1, 1) := by decide +kernel
theorem dX0_meanOfMoved_13 : decode cX0_meanOfMoved 13 = .ok (.aload_n 0, 1) := by decide +kernel
theorem dX0_meanOfMoved_14 : decode cX0_meanOfMoved 14 = .ok (.getfield 15, 3) := by decide +kernel
theorem dX0_meanOfMoved_17 : decode cX0_meanOfMoved 17 = .ok (.iload_n 2, 1) := by decide +kernel
theorem dX0_meanOfMoved_18 : decode cX0_meanOfMoved 18 = .ok (.iaload, 1) := by decide +kernel
theorem dX0_meanOfMoved_19 : decode cX0_meanOfMoved 19 = .ok (.iadd, 1) := by decide +kernel
theorem dX0_meanOfMoved_20 : decode cX0_meanOfMoved 20 = .ok (.istore_n 1, 1) := by decide +kernel
theorem dX0_meanOfMoved_21 : decode cX0_meanOfMoved 21 = .ok (.iinc 2 1, 3) := by decide +kernel
theorem dX0_meanOfMoved_24 : decode cX0_meanOfMoved 24 = .ok (.goto (-20), 3) := by decide +kernel
theorem dX0_meanOfMoved_27 : decode cX0_meanOfMoved 27 = .ok (.aload_n 0, 1) := by decide +kernel
theorem dX0_meanOfMoved_28 : decode cX0_meanOfMoved 28 = .ok (.getfield 18, 3) := by decide +kernel
theorem dX0_meanOfMoved_31 : decode cX0_meanOfMoved 31 = .ok (.ifCond .le 12, 3) := by decide +kernel
theorem dX0_meanOfMoved_34 : decode cX0_meanOfMoved 34 = .ok (.iload_n 1, 1) := by decide +kernel
theorem dX0_meanOfMoved_35 : decode cX0_meanOfMoved 35 = .ok (.aload_n 0, 1) := by decide +kernel
theorem dX0_meanOfMoved_36 : decode cX0_meanOfMoved 36 = .ok (.getfield 18, 3) := by decide +kernel
theorem dX0_meanOfMoved_39 : decode cX0_meanOfMoved 39 = .ok (.idiv, 1) := by decide +kernel
theorem dX0_meanOfMoved_40 : decode cX0_meanOfMoved 40 = .ok (.goto 4, 3) := by decide +kernel
theorem dX0_meanOfMoved_43 : decode cX0_meanOfMoved 43 = .ok (.iconst 0, 1) := by decide +kernel
theorem dX0_meanOfMoved_44 : decode cX0_meanOfMoved 44 = .ok (.ireturn, 1) := by decide +kernel
theorem dX0_changesInTurn_0 : decode cX0_changesInTurn 0 = .ok (.iconst 0, 1) := by decide +kernel
theorem dX0_changesInTurn_1 : decode cX0_changesInTurn 1 = .ok (.istore_n 1, 1) := by decide +kernel
theorem dX0_changesInTurn_2 : decode cX0_changesInTurn 2 = .ok (.iconst 0, 1) := by decide +kernel
theorem dX0_changesInTurn_3 : decode cX0_changesInTurn 3 = .ok (.istore_n 2, 1) := by decide +kernel
theorem dX0_changesInTurn_4 : decode cX0_changesInTurn 4 = .ok (.iload_n 2, 1) := by decide +kernel
theorem dX0_changesInTurn_5 : decode cX0_changesInTurn 5 = .ok (.aload_n 0, 1) := by decide +kernel
theorem dX0_changesInTurn_6 : decode cX0_changesInTurn 6 = .ok (.getfield 18, 3) := by decide +kernel
theorem dX0_changesInTurn_9 : decode cX0_changesInTurn 9 = .ok (.if_icmp .ge 45, 3) := by decide +kernel
theorem dX0_changesInTurn_12 : decode cX0_changesInTurn 12 = .ok (.aload_n 0, 1) := by decide +kernel
theorem dX0_changesInTurn_13 : decode cX0_changesInTurn 13 = .ok (.getfield 22, 3) := by decide +kernel
theorem dX0_changesInTurn_16 : decode cX0_changesInTurn 16 = .ok (.aload_n 0, 1) := by decide +kernel
theorem dX0_changesInTurn_17 : decode cX0_changesInTurn 17 = .ok (.getfield 15, 3) := by decide +kernel
theorem dX0_changesInTurn_20 : decode cX0_changesInTurn 20 = .ok (.iload_n 2, 1) := by decide +kernel
theorem dX0_changesInTurn_21 : decode cX0_changesInTurn 21 = .ok (.iaload, 1) := by decide +kernel
theorem dX0_changesInTurn_22 : decode cX0_changesInTurn 22 = .ok (.isub, 1) := by decide +kernel
theorem dX0_changesInTurn_23 : decode cX0_changesInTurn 23 = .ok (.iconst 2, 1) := by decide +kernel
theorem dX0_changesInTurn_24 : decode cX0_changesInTurn 24 = .ok (.idiv, 1) := by decide +kernel
theorem dX0_changesInTurn_25 : decode cX0_changesInTurn 25 = .ok (.istore_n 3, 1) := by decide +kernel
theorem dX0_changesInTurn_26 : decode cX0_changesInTurn 26 = .ok (.aload_n 0, 1) := by decide +kernel
theorem dX0_changesInTurn_27 : decode cX0_changesInTurn 27 = .ok (.getfield 15, 3) := by decide +kernel
theorem dX0_changesInTurn_30 : decode cX0_changesInTurn 30 = .ok (.iload_n 2, 1) := by decide +kernel
theorem dX0_changesInTurn_31 : decode cX0_changesInTurn 31 = .ok (.dup2, 1) := by decide +kernel
theorem dX0_changesInTurn_32 : decode cX0_changesInTurn 32 = .ok (.iaload, 1) := by decide +kernel
theorem dX0_changesInTurn_33 : decode cX0_changesInTurn 33 = .ok (.iload_n 3, 1) := by decide +kernel
theorem dX0_changesInTurn_34 : decode cX0_changesInTurn 34 = .ok (.iadd, 1) := by decide +kernel
theorem dX0_changesInTurn_35 : decode cX0_changesInTurn 35 = .ok (.iastore, 1) := by decide +kernel
theorem dX0_changesInTurn_36 : decode cX0_changesInTurn 36 = .ok (.iload_n 1, 1) := by decide +kernel
theorem dX0_changesInTurn_37 : decode cX0_changesInTurn 37 = .ok (.iload_n 3, 1) := by decide +kernel
theorem dX0_changesInTurn_38 : decode cX0_changesInTurn 38 = .ok (.ifCond .eq 7, 3) := by decide +kernel
theorem dX0_changesInTurn_41 : decode cX0_changesInTurn 41 = .ok (.iconst 1, 1) := by decide +kernel
theorem dX0_changesInTurn_42 : decode cX0_changesInTurn 42 = .ok (.goto 4, 3) := by decide +kernel
theorem dX0_changesInTurn_45 : decode cX0_changesInTurn 45 = .ok (.iconst 0, 1) := by decide +kernel
theorem dX0_changesInTurn_46 : decode cX0_changesInTurn 46 = .ok (.ior, 1) := by decide +kernel
theorem dX0_changesInTurn_47 : decode cX0_changesInTurn 47 = .ok (.istore_n 1, 1) := by decide +kernel
theorem dX0_changesInTurn_48 : decode cX0_changesInTurn 48 = .ok (.iinc 2 1, 3) := by decide +kernel
theorem dX0_changesInTurn_51 : decode cX0_changesInTurn 51 = .ok (.goto (-47), 3) := by decide +kernel
theorem dX0_changesInTurn_54 : decode cX0_changesInTurn 54 = .ok (.iload_n 1, 1) := by decide +kernel
theorem dX0_changesInTurn_55 : decode cX0_changesInTurn 55 = .ok (.ireturn, 1) := by decide +kernel
theorem dX1_init_0 : decode cX1_init 0 = .ok (.aload_n 0, 1) := by decide +kernel
theorem dX1_init_1 : decode cX1_init 1 = .ok (.invokespecial 3, 3) := by decide +kernel
theorem dX1_init_4 : decode cX1_init 4 = .ok (.aload_n 0, 1) := by decide +kernel
theorem dX1_init_5 : decode cX1_init 5 = .ok (.bipush 40, 2) := by decide +kernel
theorem dX1_init_7 : decode cX1_init 7 = .ok (.newarray .int, 2) := by decide +kernel
theorem dX1_init_9 : decode cX1_init 9 = .ok (.putfield 9, 3) := by decide +kernel
theorem dX1_init_12 : decode cX1_init 12 = .ok (.aload_n 0, 1) := by decide +kernel
theorem dX1_init_13 : decode cX1_init 13 = .ok (.bipush 40, 2) := by decide +kernel
theorem dX1_init_15 : decode cX1_init 15 = .ok (.newarray .int, 2) := by decide +kernel
theorem dX1_init_17 : decode cX1_init 17 = .ok (.putfield 15, 3) := by decide +kernel
theorem dX1_init_20 : decode cX1_init 20 = .ok (.aload_n 0, 1) := by decide +kernel
theorem dX1_init_21 : decode cX1_init 21 = .ok (.iconst 0, 1) := by decide +kernel
theorem dX1_init_22 : decode cX1_init 22 = .ok (.putfield 18, 3) := by decide +kernel
theorem dX1_init_25 : decode cX1_init 25 = .ok (.return_, 1) := by decide +kernel
theorem dX1_readFrom_0 : decode cX1_readFrom 0 = .ok (.aload_n 0, 1) := by decide +kernel
theorem dX1_readFrom_1 : decode cX1_readFrom 1 = .ok (.iconst 0, 1) := by decide +kernel
theorem dX1_readFrom_2 : decode cX1_readFrom 2 = .ok (.putfield 18, 3) := by decide +kernel
theorem dX1_readFrom_5 : decode cX1_readFrom 5 = .ok (.iconst 0, 1) := by decide +kernel
theorem dX1_readFrom_6 : decode cX1_readFrom 6 = .ok (.istore_n 2, 1) := by decide +kernel
theorem dX1_readFrom_7 : decode cX1_readFrom 7 = .ok (.aload_n 1, 1) := by decide +kernel
theorem dX1_readFrom_8 : decode cX1_readFrom 8 = .ok (.invokevirtual 22, 3) := by decide +kernel
theorem dX1_readFrom_11 : decode cX1_readFrom 11 = .ok (.iconst 0, 1) := by decide +kernel
theorem dX1_readFrom_12 : decode cX1_readFrom 12 = .ok (.istore_n 3, 1) := by decide +kernel
theorem dX1_readFrom_13 : decode cX1_readFrom 13 = .ok (.iload_n 3, 1) := by decide +kernel
theorem dX1_readFrom_14 : decode cX1_readFrom 14 = .ok (.sipush 400, 3) := by decide +kernel
theorem dX1_readFrom_17 : decode cX1_readFrom 17 = .ok (.if_icmp .ge 99, 3) := by decide +kernel
theorem dX1_readFrom_20 : decode cX1_readFrom 20 = .ok (.aload_n 1, 1) := by decide +kernel
theorem dX1_readFrom_21 : decode cX1_readFrom 21 = .ok (.invokevirtual 27, 3) := by decide +kernel
theorem dX1_readFrom_24 : decode cX1_readFrom 24 = .ok (.ifCond .ne 92, 3) := by decide +kernel
theorem dX1_readFrom_27 : decode cX1_readFrom 27 = .ok (.aload_n 1, 1) := by decide +kernel
theorem dX1_readFrom_28 : decode cX1_readFrom 28 = .ok (.ldc 31, 2) := by decide +kernel
theorem dX1_readFrom_30 : decode cX1_readFrom 30 = .ok (.invokevirtual 33, 3) := by decide +kernel
theorem dX1_readFrom_33 : decode cX1_readFrom 33 = .ok (.istore 4, 2) := by decide +kernel
theorem dX1_readFrom_35 : decode cX1_readFrom 35 = .ok (.iload 4, 2) := by decide +kernel
theorem dX1_readFrom_37 : decode cX1_readFrom 37 = .ok (.iconst 1, 1) := by decide +kernel
theorem dX1_readFrom_38 : decode cX1_readFrom 38 = .ok (.if_icmp .ne 8, 3) := by decide +kernel
theorem dX1_readFrom_41 : decode cX1_readFrom 41 = .ok (.iconst 1, 1) := by decide +kernel
theorem dX1_readFrom_42 : decode cX1_readFrom 42 = .ok (.istore_n 2, 1) := by decide +kernel
theorem dX1_readFrom_43 : decode cX1_readFrom 43 = .ok (.goto 61, 3) := by decide +kernel
theorem dX1_readFrom_46 : decode cX1_readFrom 46 = .ok (.aload_n 0, 1) := by decide +kernel
theorem dX1_readFrom_47 : decode cX1_readFrom 47 = .ok (.getfield 18, 3) := by decide +kernel
theorem dX1_readFrom_50 : decode cX1_readFrom 50 = .ok (.bipush 40, 2) := by decide +kernel
theorem dX1_readFrom_52 : decode cX1_readFrom 52 = .ok (.if_icmp .lt 11, 3) := by decide +kernel
theorem dX1_readFrom_55 : decode cX1_readFrom 55 = .ok (.aload_n 1, 1) := by decide +kernel
theorem dX1_readFrom_56 : decode cX1_readFrom 56 = .ok (.iconst 3, 1) := by decide +kernel
theorem dX1_readFrom_57 : decode cX1_readFrom 57 = .ok (.invokevirtual 37, 3) := by decide +kernel
theorem dX1_readFrom_60 : decode cX1_readFrom 60 = .ok (.goto 44, 3) := by decide +kernel
theorem dX1_readFrom_63 : decode cX1_readFrom 63 = .ok (.aload_n 0, 1) := by decide +kernel
theorem dX1_readFrom_64 : decode cX1_readFrom 64 = .ok (.getfield 9, 3) := by decide +kernel
theorem dX1_readFrom_67 : decode cX1_readFrom 67 = .ok (.aload_n 0, 1) := by decide +kernel
theorem dX1_readFrom_68 : decode cX1_readFrom 68 = .ok (.getfield 18, 3) := by decide +kernel
theorem dX1_readFrom_71 : decode cX1_readFrom 71 = .ok (.bipush 100, 2) := by decide +kernel
theorem dX1_readFrom_73 : decode cX1_readFrom 73 = .ok (.aload_n 1, 1) := by decide +kernel
theorem dX1_readFrom_74 : decode cX1_readFrom 74 = .ok (.iconst 0, 1) := by decide +kernel
theorem dX1_readFrom_75 : decode cX1_readFrom 75 = .ok (.bipush 36, 2) := by decide +kernel
theorem dX1_readFrom_77 : decode cX1_readFrom 77 = .ok (.invokevirtual 41, 3) := by decide +kernel
theorem dX1_readFrom_80 : decode cX1_readFrom 80 = .ok (.imul, 1) := by decide +kernel
theorem dX1_readFrom_81 : decode cX1_readFrom 81 = .ok (.iastore, 1) := by decide +kernel
theorem dX1_readFrom_82 : decode cX1_readFrom 82 = .ok (.aload_n 0, 1) := by decide +kernel
theorem dX1_readFrom_83 : decode cX1_readFrom 83 = .ok (.getfield 15, 3) := by decide +kernel
theorem dX1_readFrom_86 : decode cX1_readFrom 86 = .ok (.aload_n 0, 1) := by decide +kernel
theorem dX1_readFrom_87 : decode cX1_readFrom 87 = .ok (.getfield 18, 3) := by decide +kernel
theorem dX1_readFrom_90 : decode cX1_readFrom 90 = .ok (.iload_n 2, 1) := by decide +kernel
theorem dX1_readFrom_91 : decode cX1_readFrom 91 = .ok (.iastore, 1) := by decide +kernel
theorem dX1_readFrom_92 : decode cX1_readFrom 92 = .ok (.iconst 0, 1) := by decide +kernel
theorem dX1_readFrom_93 : decode cX1_readFrom 93 = .ok (.istore_n 2, 1) := by decide +kernel
theorem dX1_readFrom_94 : decode cX1_readFrom 94 = .ok (.aload_n 0, 1) := by decide +kernel
theorem dX1_readFrom_95 : decode cX1_readFrom 95 = .ok (.dup, 1) := by decide +kernel
theorem dX1_readFrom_96 : decode cX1_readFrom 96 = .ok (.getfield 18, 3) := by decide +kernel
theorem dX1_readFrom_99 : decode cX1_readFrom 99 = .ok (.iconst 1, 1) := by decide +kernel
theorem dX1_readFrom_100 : decode cX1_readFrom 100 = .ok (.iadd, 1) := by decide +kernel
theorem dX1_readFrom_101 : decode cX1_readFrom 101 = .ok (.putfield 18, 3) := by decide +kernel
theorem dX1_readFrom_104 : decode cX1_readFrom 104 = .ok (.aload_n 1, 1) := by decide +kernel
theorem dX1_readFrom_105 : decode cX1_readFrom 105 = .ok (.bipush 59, 2) := by decide +kernel
theorem dX1_readFrom_107 : decode cX1_readFrom 107 = .ok (.invokevirtual 45, 3) := by decide +kernel
theorem dX1_readFrom_110 : decode cX1_readFrom 110 = .ok (.iinc 3 1, 3) := by decide +kernel
theorem dX1_readFrom_113 : decode cX1_readFrom 113 = .ok (.goto (-100), 3) := by decide +kernel
theorem dX1_readFrom_116 : decode cX1_readFrom 116 = .ok (.return_, 1) := by decide +kernel
theorem dX1_rise_0 : decode cX1_rise 0 = .ok (.iload_n 1, 1) := by decide +kernel
theorem dX1_rise_1 : decode cX1_rise 1 = .ok (.iconst 1, 1) := by decide +kernel
theorem dX1_rise_2 : decode cX1_rise 2 = .ok (.aload_n 0, 1) := by decide +kernel
theorem dX1_rise_3 : decode cX1_rise 3 = .ok (.getfield 18, 3) := by decide +kernel
theorem dX1_rise_6 : decode cX1_rise 6 = .ok (.iconst 1, 1) := by decide +kernel
theorem dX1_rise_7 : decode cX1_rise 7 = .ok (.isub, 1) := by decide +kernel
theorem dX1_rise_8 : decode cX1_rise 8 = .ok (.invokestatic 49, 3) := by decide +kernel
theorem dX1_rise_11 : decode cX1_rise 11 = .ok (.ifCond .eq 21, 3) := by decide +kernel
theorem dX1_rise_14 : decode cX1_rise 14 = .ok (.aload_n 0, 1) := by decide +kernel
theorem dX1_rise_15 : decode cX1_rise 15 = .ok (.getfield 9, 3) := by decide +kernel
theorem dX1_rise_18 : decode cX1_rise 18 = .ok (.iload_n 1, 1) := by decide +kernel
theorem dX1_rise_19 : decode cX1_rise 19 = .ok (.iaload, 1) := by decide +kernel
theorem dX1_rise_20 : decode cX1_rise 20 = .ok (.aload_n 0, 1) := by decide +kernel
theorem dX1_rise_21 : decode cX1_rise 21 = .ok (.getfield 9, 3) := by decide +kernel
theorem dX1_rise_24 : decode cX1_rise 24 = .ok (.iload_n 1, 1) := by decide +kernel
theorem dX1_rise_25 : decode cX1_rise 25 = .ok (.iconst 1, 1) := by decide +kernel
theorem dX1_rise_26 : decode cX1_rise 26 = .ok (.isub, 1) := by decide +kernel
theorem dX1_rise_27 : decode cX1_rise 27 = .ok (.iaload, 1) := by decide +kernel
theorem dX1_rise_28 : decode cX1_rise 28 = .ok (.isub, 1) := by decide +kernel
theorem dX1_rise_29 : decode cX1_rise 29 = .ok (.goto 4, 3) := by decide +kernel
theorem dX1_rise_32 : decode cX1_rise 32 = .ok (.iconst 0, 1) := by decide +kernel
theorem dX1_rise_33 : decode cX1_rise 33 = .ok (.ireturn, 1) := by decide +kernel
theorem dX1_countNear_0 : decode cX1_countNear 0 = .ok (.iconst 0, 1) := by decide +kernel
theorem dX1_countNear_1 : decode cX1_countNear 1 = .ok (.istore_n 2, 1) := by decide +kernel
theorem dX1_countNear_2 : decode cX1_countNear 2 = .ok (.iconst 0, 1) := by decide +kernel
theorem dX1_countNear_3 : decode cX1_countNear 3 = .ok (.istore_n 3, 1) := by decide +kernel
theorem dX1_countNear_4 : decode cX1_countNear 4 = .ok (.iload_n 3, 1) := by decide +kernel
theorem dX1_countNear_5 : decode cX1_countNear 5 = .ok (.aload_n 0, 1) := by decide +kernel
theorem dX1_countNear_6 : decode cX1_countNear 6 = .ok (.getfield 18, 3) := by decide +kernel
theorem dX1_countNear_9 : decode cX1_countNear 9 = .ok (.if_icmp .ge 26, 3) := by decide +kernel
theorem dX1_countNear_12 : decode cX1_countNear 12 = .ok (.aload_n 0, 1) := by decide +kernel
theorem dX1_countNear_13 : decode cX1_countNear 13 = .ok (.getfield 9, 3) := by decide +kernel
theorem dX1_countNear_16 : decode cX1_countNear 16 = .ok (.iload_n 3, 1) := by decide +kernel
theorem dX1_countNear_17 : decode cX1_countNear 17 = .ok (.iaload, 1) := by decide +kernel
theorem dX1_countNear_18 : decode cX1_countNear 18 = .ok (.iload_n 1, 1) := by decide +kernel
theorem dX1_countNear_19 : decode cX1_countNear 19 = .ok (.isub, 1) := by decide +kernel
theorem dX1_countNear_20 : decode cX1_countNear 20 = .ok (.invokestatic 53, 3) := by decide +kernel
theorem dX1_countNear_23 : decode cX1_countNear 23 = .ok (.ifCond .eq 6, 3) := by decide +kernel
theorem dX1_countNear_26 : decode cX1_countNear 26 = .ok (.iinc 2 1, 3) := by decide +kernel
theorem dX1_countNear_29 : decode cX1_countNear 29 = .ok (.iinc 3 1, 3) := by decide +kernel
theorem dX1_countNear_32 : decode cX1_countNear 32 = .ok (.goto (-28), 3) := by decide +kernel
theorem dX1_countNear_35 : decode cX1_countNear 35 = .ok (.iload_n 2, 1) := by decide +kernel
theorem dX1_countNear_36 : decode cX1_countNear 36 = .ok (.ireturn, 1) := by decide +kernel
theorem dX1_fitsWithin_0 : decode cX1_fitsWithin 0 = .ok (.iconst 0, 1) := by decide +kernel
theorem dX1_fitsWithin_1 : decode cX1_fitsWithin 1 = .ok (.istore_n 3, 1) := by decide +kernel
theorem dX1_fitsWithin_2 : decode cX1_fitsWithin 2 = .ok (.iload_n 3, 1) := by decide +kernel
theorem dX1_fitsWithin_3 : decode cX1_fitsWithin 3 = .ok (.aload_n 0, 1) := by decide +kernel
theorem dX1_fitsWithin_4 : decode cX1_fitsWithin 4 = .ok (.getfield 18, 3) := by decide +kernel
theorem dX1_fitsWithin_7 : decode cX1_fitsWithin 7 = .ok (.if_icmp .ge 25, 3) := by decide +kernel
theorem dX1_fitsWithin_10 : decode cX1_fitsWithin 10 = .ok (.aload_n 0, 1) := by decide +kernel
theorem dX1_fitsWithin_11 : decode cX1_fitsWithin 11 = .ok (.getfield 9, 3) := by decide +kernel
theorem dX1_fitsWithin_14 : decode cX1_fitsWithin 14 = .ok (.iload_n 3, 1) := by decide +kernel
theorem dX1_fitsWithin_15 : decode cX1_fitsWithin 15 = .ok (.iaload, 1) := by decide +kernel
theorem dX1_fitsWithin_16 : decode cX1_fitsWithin 16 = .ok (.iload_n 1, 1) := by decide +kernel
theorem dX1_fitsWithin_17 : decode cX1_fitsWithin 17 = .ok (.iload_n 2, 1) := by decide +kernel
theorem dX1_fitsWithin_18 : decode cX1_fitsWithin 18 = .ok (.invokestatic 49, 3) := by decide +kernel
theorem dX1_fitsWithin_21 : decode cX1_fitsWithin 21 = .ok (.ifCond .ne 5, 3) := by decide +kernel
theorem dX1_fitsWithin_24 : decode cX1_fitsWithin 24 = .ok (.iconst 0, 1) := by decide +kernel
theorem dX1_fitsWithin_25 : decode cX1_fitsWithin 25 = .ok (.ireturn, 1) := by decide +kernel
theorem dX1_fitsWithin_26 : decode cX1_fitsWithin 26 = .ok (.iinc 3 1, 3) := by decide +kernel
theorem dX1_fitsWithin_29 : decode cX1_fitsWithin 29 = .ok (.goto (-27), 3) := by decide +kernel
theorem dX1_fitsWithin_32 : decode cX1_fitsWithin 32 = .ok (.iconst 1, 1) := by decide +kernel
theorem dX1_fitsWithin_33 : decode cX1_fitsWithin 33 = .ok (.ireturn, 1) := by decide +kernel
theorem dX2_init_0 : decode cX2_init 0 = .ok (.aload_n 0, 1) := by decide +kernel
theorem dX2_init_1 : decode cX2_init 1 = .ok (.invokespecial 3, 3) := by decide +kernel
theorem dX2_init_4 : decode cX2_init 4 = .ok (.aload_n 0, 1) := by decide +kernel
theorem dX2_init_5 : decode cX2_init 5 = .ok (.bipush 7, 2) := by decide +kernel
theorem dX2_init_7 : decode cX2_init 7 = .ok (.bipush 16, 2) := by decide +kernel
theorem dX2_init_9 : decode cX2_init 9 = .ok (.multianewarray 9 2, 4) := by decide +kernel
theorem dX2_init_13 : decode cX2_init 13 = .ok (.putfield 11, 3) := by decide +kernel
theorem dX2_init_16 : decode cX2_init 16 = .ok (.aload_n 0, 1) := by decide +kernel
theorem dX2_init_17 : decode cX2_init 17 = .ok (.sipush 729, 3) := by decide +kernel
theorem dX2_init_20 : decode cX2_init 20 = .ok (.newarray .int, 2) := by decide +kernel
theorem dX2_init_22 : decode cX2_init 22 = .ok (.putfield 16, 3) := by decide +kernel
theorem dX2_init_25 : decode cX2_init 25 = .ok (.aload_n 0, 1) := by decide +kernel
theorem dX2_init_26 : decode cX2_init 26 = .ok (.aconst_null, 1) := by decide +kernel
theorem dX2_init_27 : decode cX2_init 27 = .ok (.putfield 20, 3) := by decide +kernel
theorem dX2_init_30 : decode cX2_init 30 = .ok (.aload_n 0, 1) := by decide +kernel
theorem dX2_init_31 : decode cX2_init 31 = .ok (.bipush 100, 2) := by decide +kernel
theorem dX2_init_33 : decode cX2_init 33 = .ok (.putfield 24, 3) := by decide +kernel
theorem dX2_init_36 : decode cX2_init 36 = .ok (.return_, 1) := by decide +kernel
theorem dX2_fewestMinutes_0 : decode cX2_fewestMinutes 0 = .ok (.aload_n 0, 1) := by decide +kernel
theorem dX2_fewestMinutes_1 : decode cX2_fewestMinutes 1 = .ok (.aload_n 1, 1) := by decide +kernel
theorem dX2_fewestMinutes_2 : decode cX2_fewestMinutes 2 = .ok (.putfield 20, 3) := by decide +kernel
theorem dX2_fewestMinutes_5 : decode cX2_fewestMinutes 5 = .ok (.aload_n 0, 1) := by decide +kernel
theorem dX2_fewestMinutes_6 : decode cX2_fewestMinutes 6 = .ok (.iload_n 3, 1) := by decide +kernel
theorem dX2_fewestMinutes_7 : decode cX2_fewestMinutes 7 = .ok (.putfield 24, 3) := by decide +kernel
theorem dX2_fewestMinutes_10 : decode cX2_fewestMinutes 10 = .ok (.aload_n 0, 1) := by decide +kernel
theorem dX2_fewestMinutes_11 : decode cX2_fewestMinutes 11 = .ok (.getfield 16, 3) := by decide +kernel
theorem dX2_fewestMinutes_14 : decode cX2_fewestMinutes 14 = .ok (.bipush (-2), 2) := by decide +kernel
theorem dX2_fewestMinutes_16 : decode cX2_fewestMinutes 16 = .ok (.invokestatic 28, 3) := by decide +kernel
theorem dX2_fewestMinutes_19 : decode cX2_fewestMinutes 19 = .ok (.aload_n 0, 1) := by decide +kernel
theorem dX2_fewestMinutes_20 : decode cX2_fewestMinutes 20 = .ok (.iconst 0, 1) := by decide +kernel
theorem dX2_fewestMinutes_21 : decode cX2_fewestMinutes 21 = .ok (.iload_n 2, 1) := by decide +kernel
theorem dX2_fewestMinutes_22 : decode cX2_fewestMinutes 22 = .ok (.iconst 0, 1) := by decide +kernel
theorem dX2_fewestMinutes_23 : decode cX2_fewestMinutes 23 = .ok (.invokevirtual 34, 3) := by decide +kernel
theorem dX2_fewestMinutes_26 : decode cX2_fewestMinutes 26 = .ok (.ireturn, 1) := by decide +kernel
theorem dX2_isKnown_0 : decode cX2_isKnown 0 = .ok (.lconst 0, 1) := by decide +kernel
theorem dX2_isKnown_1 : decode cX2_isKnown 1 = .ok (.lstore_n 2, 1) := by decide +kernel
theorem dX2_isKnown_2 : decode cX2_isKnown 2 = .ok (.lconst 0, 1) := by decide +kernel
theorem dX2_isKnown_3 : decode cX2_isKnown 3 = .ok (.lstore 4, 2) := by decide +kernel
theorem dX2_isKnown_5 : decode cX2_isKnown 5 = .ok (.iconst 0, 1) := by decide +kernel
theorem dX2_isKnown_6 : decode cX2_isKnown 6 = .ok (.istore 6, 2) := by decide +kernel
theorem dX2_isKnown_8 : decode cX2_isKnown 8 = .ok (.iload 6, 2) := by decide +kernel
theorem dX2_isKnown_10 : decode cX2_isKnown 10 = .ok (.bipush 16, 2) := by decide +kernel
theorem dX2_isKnown_12 : decode cX2_isKnown 12 = .ok (.if_icmp .ge 27, 3) := by decide +kernel
theorem dX2_isKnown_15 : decode cX2_isKnown 15 = .ok (.lload_n 2, 1) := by decide +kernel
theorem dX2_isKnown_16 : decode cX2_isKnown 16 = .ok (.aload_n 1, 1) := by decide +kernel
theorem dX2_isKnown_17 : decode cX2_isKnown 17 = .ok (.iload 6, 2) := by decide +kernel
theorem dX2_isKnown_19 : decode cX2_isKnown 19 = .ok (.laload, 1) := by decide +kernel
theorem dX2_isKnown_20 : decode cX2_isKnown 20 = .ok (.ladd, 1) := by decide +kernel
theorem dX2_isKnown_21 : decode cX2_isKnown 21 = .ok (.lstore_n 2, 1) := by decide +kernel
theorem dX2_isKnown_22 : decode cX2_isKnown 22 = .ok (.lload 4, 2) := by decide +kernel
theorem dX2_isKnown_24 : decode cX2_isKnown 24 = .ok (.aload_n 1, 1) := by decide +kernel
theorem dX2_isKnown_25 : decode cX2_isKnown 25 = .ok (.iload 6, 2) := by decide +kernel
theorem dX2_isKnown_27 : decode cX2_isKnown 27 = .ok (.laload, 1) := by decide +kernel
theorem dX2_isKnown_28 : decode cX2_isKnown 28 = .ok (.invokestatic 38, 3) := by decide +kernel
theorem dX2_isKnown_31 : decode cX2_isKnown 31 = .ok (.lstore 4, 2) := by decide +kernel
theorem dX2_isKnown_33 : decode cX2_isKnown 33 = .ok (.iinc 6 1, 3) := by decide +kernel
theorem dX2_isKnown_36 : decode cX2_isKnown 36 = .ok (.goto (-28), 3) := by decide +kernel
theorem dX2_isKnown_39 : decode cX2_isKnown 39 = .ok (.lload 4, 2) := by decide +kernel
theorem dX2_isKnown_41 : decode cX2_isKnown 41 = .ok (.ldc2_w 44, 3) := by decide +kernel
theorem dX2_isKnown_44 : decode cX2_isKnown 44 = .ok (.lmul, 1) := by decide +kernel
theorem dX2_isKnown_45 : decode cX2_isKnown 45 = .ok (.aload_n 0, 1) := by decide +kernel
theorem dX2_isKnown_46 : decode cX2_isKnown 46 = .ok (.getfield 24, 3) := by decide +kernel
theorem dX2_isKnown_49 : decode cX2_isKnown 49 = .ok (.i2l, 1) := by decide +kernel
theorem dX2_isKnown_50 : decode cX2_isKnown 50 = .ok (.lload_n 2, 1) := by decide +kernel
theorem dX2_isKnown_51 : decode cX2_isKnown 51 = .ok (.lmul, 1) := by decide +kernel
theorem dX2_isKnown_52 : decode cX2_isKnown 52 = .ok (.lcmp, 1) := by decide +kernel
theorem dX2_isKnown_53 : decode cX2_isKnown 53 = .ok (.ifCond .lt 7, 3) := by decide +kernel
theorem dX2_isKnown_56 : decode cX2_isKnown 56 = .ok (.iconst 1, 1) := by decide +kernel
theorem dX2_isKnown_57 : decode cX2_isKnown 57 = .ok (.goto 4, 3) := by decide +kernel
theorem dX2_isKnown_60 : decode cX2_isKnown 60 = .ok (.iconst 0, 1) := by decide +kernel
theorem dX2_isKnown_61 : decode cX2_isKnown 61 = .ok (.ireturn, 1) := by decide +kernel
theorem dX2_fewestFrom_0 : decode cX2_fewestFrom 0 = .ok (.iload_n 3, 1) := by decide +kernel
theorem dX2_fewestFrom_1 : decode cX2_fewestFrom 1 = .ok (.iconst 0, 1) := by decide +kernel
theorem dX2_fewestFrom_2 : decode cX2_fewestFrom 2 = .ok (.bipush 6, 2) := by decide +kernel
theorem dX2_fewestFrom_4 : decode cX2_fewestFrom 4 = .ok (.invokestatic 46, 3) := by decide +kernel
theorem dX2_fewestFrom_7 : decode cX2_fewestFrom 7 = .ok (.ifCond .eq 10, 3) := by decide +kernel
theorem dX2_fewestFrom_10 : decode cX2_fewestFrom 10 = .ok (.aload_n 0, 1) := by decide +kernel
theorem dX2_fewestFrom_11 : decode cX2_fewestFrom 11 = .ok (.getfield 20, 3) := by decide +kernel
theorem dX2_fewestFrom_14 : decode cX2_fewestFrom 14 = .ok (.ifnonnull 5, 3) := by decide +kernel
theorem dX2_fewestFrom_17 : decode cX2_fewestFrom 17 = .ok (.iconst (-1), 1) := by decide +kernel
theorem dX2_fewestFrom_18 : decode cX2_fewestFrom 18 = .ok (.ireturn, 1) := by decide +kernel
theorem dX2_fewestFrom_19 : decode cX2_fewestFrom 19 = .ok (.aload_n 0, 1) := by decide +kernel
theorem dX2_fewestFrom_20 : decode cX2_fewestFrom 20 = .ok (.aload_n 0, 1) := by decide +kernel
theorem dX2_fewestFrom_21 : decode cX2_fewestFrom 21 = .ok (.getfield 11, 3) := by decide +kernel
theorem dX2_fewestFrom_24 : decode cX2_fewestFrom 24 = .ok (.iload_n 3, 1) := by decide +kernel
theorem dX2_fewestFrom_25 : decode cX2_fewestFrom 25 = .ok (.aaload, 1) := by decide +kernel
theorem dX2_fewestFrom_26 : decode cX2_fewestFrom 26 = .ok (.invokevirtual 50, 3) := by decide +kernel
theorem dX2_fewestFrom_29 : decode cX2_fewestFrom 29 = .ok (.ifCond .eq 5, 3) := by decide +kernel
theorem dX2_fewestFrom_32 : decode cX2_fewestFrom 32 = .ok (.iconst 0, 1) := by decide +kernel
theorem dX2_fewestFrom_33 : decode cX2_fewestFrom 33 = .ok (.ireturn, 1) := by decide +kernel
theorem dX2_fewestFrom_34 : decode cX2_fewestFrom 34 = .ok (.iconst (-1), 1) := by decide +kernel
theorem dX2_fewestFrom_35 : decode cX2_fewestFrom 35 = .ok (.istore 4, 2) := by decide +kernel
theorem dX2_fewestFrom_37 : decode cX2_fewestFrom 37 = .ok (.iconst 0, 1) := by decide +kernel
theorem dX2_fewestFrom_38 : decode cX2_fewestFrom 38 = .ok (.istore 5, 2) := by decide +kernel
theorem dX2_fewestFrom_40 : decode cX2_fewestFrom 40 = .ok (.iload 5, 2) := by decide +kernel
theorem dX2_fewestFrom_42 : decode cX2_fewestFrom 42 = .ok (.aload_n 0, 1) := by decide +kernel
theorem dX2_fewestFrom_43 : decode cX2_fewestFrom 43 = .ok (.getfield 20, 3) := by decide +kernel
theorem dX2_fewestFrom_46 : decode cX2_fewestFrom 46 = .ok (.getfield 54, 3) := by decide +kernel
theorem dX2_fewestFrom_49 : decode cX2_fewestFrom 49 = .ok (.if_icmp .ge 101, 3) := by decide +kernel
theorem dX2_fewestFrom_52 : decode cX2_fewestFrom 52 = .ok (.iload_n 2, 1) := by decide +kernel
theorem dX2_fewestFrom_53 : decode cX2_fewestFrom 53 = .ok (.iload 5, 2) := by decide +kernel
theorem dX2_fewestFrom_55 : decode cX2_fewestFrom 55 = .ok (.ishr, 1) := by decide +kernel
theorem dX2_fewestFrom_56 : decode cX2_fewestFrom 56 = .ok (.iconst 1, 1) := by decide +kernel
theorem dX2_fewestFrom_57 : decode cX2_fewestFrom 57 = .ok (.iand, 1) := by decide +kernel
theorem dX2_fewestFrom_58 : decode cX2_fewestFrom 58 = .ok (.iconst 1, 1) := by decide +kernel
theorem dX2_fewestFrom_59 : decode cX2_fewestFrom 59 = .ok (.if_icmp .ne 6, 3) := by decide +kernel
theorem dX2_fewestFrom_62 : decode cX2_fewestFrom 62 = .ok (.goto 82, 3) := by decide +kernel
theorem dX2_fewestFrom_65 : decode cX2_fewestFrom 65 = .ok (.aload_n 0, 1) := by decide +kernel
theorem dX2_fewestFrom_66 : decode cX2_fewestFrom 66 = .ok (.iload_n 1, 1) := by decide +kernel
theorem dX2_fewestFrom_67 : decode cX2_fewestFrom 67 = .ok (.iload_n 2, 1) := by decide +kernel
theorem dX2_fewestFrom_68 : decode cX2_fewestFrom 68 = .ok (.iload_n 3, 1) := by decide +kernel
theorem dX2_fewestFrom_69 : decode cX2_fewestFrom 69 = .ok (.iload 5, 2) := by decide +kernel
theorem dX2_fewestFrom_71 : decode cX2_fewestFrom 71 = .ok (.iconst 1, 1) := by decide +kernel
theorem dX2_fewestFrom_72 : decode cX2_fewestFrom 72 = .ok (.invokevirtual 59, 3) := by decide +kernel
theorem dX2_fewestFrom_75 : decode cX2_fewestFrom 75 = .ok (.istore 6, 2) := by decide +kernel
theorem dX2_fewestFrom_77 : decode cX2_fewestFrom 77 = .ok (.iload 6, 2) := by decide +kernel
theorem dX2_fewestFrom_79 : decode cX2_fewestFrom 79 = .ok (.iconst (-1), 1) := by decide +kernel
theorem dX2_fewestFrom_80 : decode cX2_fewestFrom 80 = .ok (.if_icmp .ne 6, 3) := by decide +kernel
theorem dX2_fewestFrom_83 : decode cX2_fewestFrom 83 = .ok (.goto 61, 3) := by decide +kernel
theorem dX2_fewestFrom_86 : decode cX2_fewestFrom 86 = .ok (.aload_n 0, 1) := by decide +kernel
theorem dX2_fewestFrom_87 : decode cX2_fewestFrom 87 = .ok (.iload_n 1, 1) := by decide +kernel
theorem dX2_fewestFrom_88 : decode cX2_fewestFrom 88 = .ok (.iload_n 2, 1) := by decide +kernel
theorem dX2_fewestFrom_89 : decode cX2_fewestFrom 89 = .ok (.iload_n 3, 1) := by decide +kernel
theorem dX2_fewestFrom_90 : decode cX2_fewestFrom 90 = .ok (.iload 5, 2) := by decide +kernel
theorem dX2_fewestFrom_92 : decode cX2_fewestFrom 92 = .ok (.iconst 0, 1) := by decide +kernel
theorem dX2_fewestFrom_93 : decode cX2_fewestFrom 93 = .ok (.invokevirtual 59, 3) := by decide +kernel
theorem dX2_fewestFrom_96 : decode cX2_fewestFrom 96 = .ok (.istore 7, 2) := by decide +kernel
theorem dX2_fewestFrom_98 : decode cX2_fewestFrom 98 = .ok (.iload 7, 2) := by decide +kernel
theorem dX2_fewestFrom_100 : decode cX2_fewestFrom 100 = .ok (.iconst (-1), 1) := by decide +kernel
theorem dX2_fewestFrom_101 : decode cX2_fewestFrom 101 = .ok (.if_icmp .ne 6, 3) := by decide +kernel
theorem dX2_fewestFrom_104 : decode cX2_fewestFrom 104 = .ok (.goto 40, 3) := by decide +kernel
theorem dX2_fewestFrom_107 : decode cX2_fewestFrom 107 = .ok (.aload_n 0, 1) := by decide +kernel
theorem dX2_fewestFrom_108 : decode cX2_fewestFrom 108 = .ok (.getfield 20, 3) := by decide +kernel
theorem dX2_fewestFrom_111 : decode cX2_fewestFrom 111 = .ok (.getfield 63, 3) := by decide +kernel
theorem dX2_fewestFrom_114 : decode cX2_fewestFrom 114 = .ok (.iload 5, 2) := by decide +kernel
theorem dX2_fewestFrom_116 : decode cX2_fewestFrom 116 = .ok (.iaload, 1) := by decide +kernel
theorem dX2_fewestFrom_117 : decode cX2_fewestFrom 117 = .ok (.iload 6, 2) := by decide +kernel
theorem dX2_fewestFrom_119 : decode cX2_fewestFrom 119 = .ok (.iload 7, 2) := by decide +kernel
theorem dX2_fewestFrom_121 : decode cX2_fewestFrom 121 = .ok (.invokestatic 66, 3) := by decide +kernel
theorem dX2_fewestFrom_124 : decode cX2_fewestFrom 124 = .ok (.iadd, 1) := by decide +kernel
theorem dX2_fewestFrom_125 : decode cX2_fewestFrom 125 = .ok (.istore 8, 2) := by decide +kernel
theorem dX2_fewestFrom_127 : decode cX2_fewestFrom 127 = .ok (.iload 4, 2) := by decide +kernel
theorem dX2_fewestFrom_129 : decode cX2_fewestFrom 129 = .ok (.iconst (-1), 1) := by decide +kernel
theorem dX2_fewestFrom_130 : decode cX2_fewestFrom 130 = .ok (.if_icmp .eq 10, 3) := by decide +kernel
theorem dX2_fewestFrom_133 : decode cX2_fewestFrom 133 = .ok (.iload 8, 2) := by decide +kernel
theorem dX2_fewestFrom_135 : decode cX2_fewestFrom 135 = .ok (.iload 4, 2) := by decide +kernel
theorem dX2_fewestFrom_137 : decode cX2_fewestFrom 137 = .ok (.if_icmp .ge 7, 3) := by decide +kernel
theorem dX2_fewestFrom_140 : decode cX2_fewestFrom 140 = .ok (.iload 8, 2) := by decide +kernel
theorem dX2_fewestFrom_142 : decode cX2_fewestFrom 142 = .ok (.istore 4, 2) := by decide +kernel
theorem dX2_fewestFrom_144 : decode cX2_fewestFrom 144 = .ok (.iinc 5 1, 3) := by decide +kernel
theorem dX2_fewestFrom_147 : decode cX2_fewestFrom 147 = .ok (.goto (-107), 3) := by decide +kernel
theorem dX2_fewestFrom_150 : decode cX2_fewestFrom 150 = .ok (.iload 4, 2) := by decide +kernel
theorem dX2_fewestFrom_152 : decode cX2_fewestFrom 152 = .ok (.ireturn, 1) := by decide +kernel
theorem dX2_fewestAfter_0 : decode cX2_fewestAfter 0 = .ok (.iload_n 1, 1) := by decide +kernel
theorem dX2_fewestAfter_1 : decode cX2_fewestAfter 1 = .ok (.iload 5, 2) := by decide +kernel
theorem dX2_fewestAfter_3 : decode cX2_fewestAfter 3 = .ok (.ifCond .eq 7, 3) := by decide +kernel
theorem dX2_fewestAfter_6 : decode cX2_fewestAfter 6 = .ok (.iconst 1, 1) := by decide +kernel
theorem dX2_fewestAfter_7 : decode cX2_fewestAfter 7 = .ok (.goto 4, 3) := by decide +kernel
theorem dX2_fewestAfter_10 : decode cX2_fewestAfter 10 = .ok (.iconst 2, 1) := by decide +kernel
theorem dX2_fewestAfter_11 : decode cX2_fewestAfter 11 = .ok (.getstatic 69, 3) := by decide +kernel
theorem dX2_fewestAfter_14 : decode cX2_fewestAfter 14 = .ok (.iload 4, 2) := by decide +kernel
theorem dX2_fewestAfter_16 : decode cX2_fewestAfter 16 = .ok (.iaload, 1) := by decide +kernel
theorem dX2_fewestAfter_17 : decode cX2_fewestAfter 17 = .ok (.imul, 1) := by decide +kernel
theorem dX2_fewestAfter_18 : decode cX2_fewestAfter 18 = .ok (.iadd, 1) := by decide +kernel
theorem dX2_fewestAfter_19 : decode cX2_fewestAfter 19 = .ok (.istore 6, 2) := by decide +kernel
theorem dX2_fewestAfter_21 : decode cX2_fewestAfter 21 = .ok (.iload_n 3, 1) := by decide +kernel
theorem dX2_fewestAfter_22 : decode cX2_fewestAfter 22 = .ok (.bipush 6, 2) := by decide +kernel
theorem dX2_fewestAfter_24 : decode cX2_fewestAfter 24 = .ok (.if_icmp .ge 19, 3) := by decide +kernel
theorem dX2_fewestAfter_27 : decode cX2_fewestAfter 27 = .ok (.iload 6, 2) := by decide +kernel
theorem dX2_fewestAfter_29 : decode cX2_fewestAfter 29 = .ok (.iconst 0, 1) := by decide +kernel
theorem dX2_fewestAfter_30 : decode cX2_fewestAfter 30 = .ok (.aload_n 0, 1) := by decide +kernel
theorem dX2_fewestAfter_31 : decode cX2_fewestAfter 31 = .ok (.getfield 16, 3) := by decide +kernel
theorem dX2_fewestAfter_34 : decode cX2_fewestAfter 34 = .ok (.arraylength, 1) := by decide +kernel
theorem dX2_fewestAfter_35 : decode cX2_fewestAfter 35 = .ok (.iconst 1, 1) := by decide +kernel
theorem dX2_fewestAfter_36 : decode cX2_fewestAfter 36 = .ok (.isub, 1) := by decide +kernel
theorem dX2_fewestAfter_37 : decode cX2_fewestAfter 37 = .ok (.invokestatic 46, 3) := by decide +kernel
theorem dX2_fewestAfter_40 : decode cX2_fewestAfter 40 = .ok (.ifCond .ne 5, 3) := by decide +kernel
theorem dX2_fewestAfter_43 : decode cX2_fewestAfter 43 = .ok (.iconst (-1), 1) := by decide +kernel
theorem dX2_fewestAfter_44 : decode cX2_fewestAfter 44 = .ok (.ireturn, 1) := by decide +kernel
theorem dX2_fewestAfter_45 : decode cX2_fewestAfter 45 = .ok (.aload_n 0, 1) := by decide +kernel
theorem dX2_fewestAfter_46 : decode cX2_fewestAfter 46 = .ok (.getfield 16, 3) := by decide +kernel
theorem dX2_fewestAfter_49 : decode cX2_fewestAfter 49 = .ok (.iload 6, 2) := by decide +kernel
theorem dX2_fewestAfter_51 : decode cX2_fewestAfter 51 = .ok (.iaload, 1) := by decide +kernel
theorem dX2_fewestAfter_52 : decode cX2_fewestAfter 52 = .ok (.bipush (-2), 2) := by decide +kernel
theorem dX2_fewestAfter_54 : decode cX2_fewestAfter 54 = .ok (.if_icmp .ne 36, 3) := by decide +kernel
theorem dX2_fewestAfter_57 : decode cX2_fewestAfter 57 = .ok (.aload_n 0, 1) := by decide +kernel
theorem dX2_fewestAfter_58 : decode cX2_fewestAfter 58 = .ok (.iload_n 3, 1) := by decide +kernel
theorem dX2_fewestAfter_59 : decode cX2_fewestAfter 59 = .ok (.iconst 1, 1) := by decide +kernel
theorem dX2_fewestAfter_60 : decode cX2_fewestAfter 60 = .ok (.iadd, 1) := by decide +kernel
theorem dX2_fewestAfter_61 : decode cX2_fewestAfter 61 = .ok (.iload 4, 2) := by decide +kernel
theorem dX2_fewestAfter_63 : decode cX2_fewestAfter 63 = .ok (.iload 5, 2) := by decide +kernel
theorem dX2_fewestAfter_65 : decode cX2_fewestAfter 65 = .ok (.invokevirtual 72, 3) := by decide +kernel
theorem dX2_fewestAfter_68 : decode cX2_fewestAfter 68 = .ok (.aload_n 0, 1) := by decide +kernel
theorem dX2_fewestAfter_69 : decode cX2_fewestAfter 69 = .ok (.getfield 16, 3) := by decide +kernel
theorem dX2_fewestAfter_72 : decode cX2_fewestAfter 72 = .ok (.iload 6, 2) := by decide +kernel
theorem dX2_fewestAfter_74 : decode cX2_fewestAfter 74 = .ok (.aload_n 0, 1) := by decide +kernel
theorem dX2_fewestAfter_75 : decode cX2_fewestAfter 75 = .ok (.iload 6, 2) := by decide +kernel
theorem dX2_fewestAfter_77 : decode cX2_fewestAfter 77 = .ok (.iload_n 2, 1) := by decide +kernel
theorem dX2_fewestAfter_78 : decode cX2_fewestAfter 78 = .ok (.iconst 1, 1) := by decide +kernel
theorem dX2_fewestAfter_79 : decode cX2_fewestAfter 79 = .ok (.iload 4, 2) := by decide +kernel
theorem dX2_fewestAfter_81 : decode cX2_fewestAfter 81 = .ok (.ishl, 1) := by decide +kernel
theorem dX2_fewestAfter_82 : decode cX2_fewestAfter 82 = .ok (.ior, 1) := by decide +kernel
theorem dX2_fewestAfter_83 : decode cX2_fewestAfter 83 = .ok (.iload_n 3, 1) := by decide +kernel
theorem dX2_fewestAfter_84 : decode cX2_fewestAfter 84 = .ok (.iconst 1, 1) := by decide +kernel
theorem dX2_fewestAfter_85 : decode cX2_fewestAfter 85 = .ok (.iadd, 1) := by decide +kernel
theorem dX2_fewestAfter_86 : decode cX2_fewestAfter 86 = .ok (.invokevirtual 34, 3) := by decide +kernel
theorem dX2_fewestAfter_89 : decode cX2_fewestAfter 89 = .ok (.iastore, 1) := by decide +kernel
theorem dX2_fewestAfter_90 : decode cX2_fewestAfter 90 = .ok (.aload_n 0, 1) := by decide +kernel
theorem dX2_fewestAfter_91 : decode cX2_fewestAfter 91 = .ok (.getfield 16, 3) := by decide +kernel
theorem dX2_fewestAfter_94 : decode cX2_fewestAfter 94 = .ok (.iload 6, 2) := by decide +kernel
theorem dX2_fewestAfter_96 : decode cX2_fewestAfter 96 = .ok (.iaload, 1) := by decide +kernel
theorem dX2_fewestAfter_97 : decode cX2_fewestAfter 97 = .ok (.ireturn, 1) := by decide +kernel
theorem dX2_fillOdds_0 : decode cX2_fillOdds 0 = .ok (.iload_n 1, 1) := by decide +kernel
theorem dX2_fillOdds_1 : decode cX2_fillOdds 1 = .ok (.iconst 1, 1) := by decide +kernel
theorem dX2_fillOdds_2 : decode cX2_fillOdds 2 = .ok (.bipush 6, 2) := by decide +kernel
theorem dX2_fillOdds_4 : decode cX2_fillOdds 4 = .ok (.invokestatic 46, 3) := by decide +kernel
theorem dX2_fillOdds_7 : decode cX2_fillOdds 7 = .ok (.ifCond .eq 10, 3) := by decide +kernel
theorem dX2_fillOdds_10 : decode cX2_fillOdds 10 = .ok (.aload_n 0, 1) := by decide +kernel
theorem dX2_fillOdds_11 : decode cX2_fillOdds 11 = .ok (.getfield 20, 3) := by decide +kernel
theorem dX2_fillOdds_14 : decode cX2_fillOdds 14 = .ok (.ifnonnull 4, 3) := by decide +kernel
theorem dX2_fillOdds_17 : decode cX2_fillOdds 17 = .ok (.return_, 1) := by decide +kernel
theorem dX2_fillOdds_18 : decode cX2_fillOdds 18 = .ok (.aload_n 0, 1) := by decide +kernel
theorem dX2_fillOdds_19 : decode cX2_fillOdds 19 = .ok (.getfield 20, 3) := by decide +kernel
theorem dX2_fillOdds_22 : decode cX2_fillOdds 22 = .ok (.iload_n 2, 1) := by decide +kernel
theorem dX2_fillOdds_23 : decode cX2_fillOdds 23 = .ok (.iconst 0, 1) := by decide +kernel
theorem dX2_fillOdds_24 : decode cX2_fillOdds 24 = .ok (.iload_n 3, 1) := by decide +kernel
theorem dX2_fillOdds_25 : decode cX2_fillOdds 25 = .ok (.invokevirtual 76, 3) := by decide +kernel
theorem dX2_fillOdds_28 : decode cX2_fillOdds 28 = .ok (.istore 4, 2) := by decide +kernel
theorem dX2_fillOdds_30 : decode cX2_fillOdds 30 = .ok (.aload_n 0, 1) := by decide +kernel
theorem dX2_fillOdds_31 : decode cX2_fillOdds 31 = .ok (.getfield 20, 3) := by decide +kernel
theorem dX2_fillOdds_34 : decode cX2_fillOdds 34 = .ok (.iload_n 2, 1) := by decide +kernel
theorem dX2_fillOdds_35 : decode cX2_fillOdds 35 = .ok (.bipush 15, 2) := by decide +kernel
theorem dX2_fillOdds_37 : decode cX2_fillOdds 37 = .ok (.iload_n 3, 1) := by decide +kernel
theorem dX2_fillOdds_38 : decode cX2_fillOdds 38 = .ok (.invokevirtual 76, 3) := by decide +kernel
theorem dX2_fillOdds_41 : decode cX2_fillOdds 41 = .ok (.istore 5, 2) := by decide +kernel
theorem dX2_fillOdds_43 : decode cX2_fillOdds 43 = .ok (.aload_n 0, 1) := by decide +kernel
theorem dX2_fillOdds_44 : decode cX2_fillOdds 44 = .ok (.getfield 20, 3) := by decide +kernel
theorem dX2_fillOdds_47 : decode cX2_fillOdds 47 = .ok (.getfield 80, 3) := by decide +kernel
theorem dX2_fillOdds_50 : decode cX2_fillOdds 50 = .ok (.iload_n 2, 1) := by decide +kernel
theorem dX2_fillOdds_51 : decode cX2_fillOdds 51 = .ok (.iaload, 1) := by decide +kernel
theorem dX2_fillOdds_52 : decode cX2_fillOdds 52 = .ok (.istore 6, 2) := by decide +kernel
theorem dX2_fillOdds_54 : decode cX2_fillOdds 54 = .ok (.aload_n 0, 1) := by decide +kernel
theorem dX2_fillOdds_55 : decode cX2_fillOdds 55 = .ok (.getfield 11, 3) := by decide +kernel
theorem dX2_fillOdds_58 : decode cX2_fillOdds 58 = .ok (.iload_n 1, 1) := by decide +kernel
theorem dX2_fillOdds_59 : decode cX2_fillOdds 59 = .ok (.iconst 1, 1) := by decide +kernel
theorem dX2_fillOdds_60 : decode cX2_fillOdds 60 = .ok (.isub, 1) := by decide +kernel
theorem dX2_fillOdds_61 : decode cX2_fillOdds 61 = .ok (.aaload, 1) := by decide +kernel
theorem dX2_fillOdds_62 : decode cX2_fillOdds 62 = .ok (.astore 7, 2) := by decide +kernel
theorem dX2_fillOdds_64 : decode cX2_fillOdds 64 = .ok (.aload_n 0, 1) := by decide +kernel
theorem dX2_fillOdds_65 : decode cX2_fillOdds 65 = .ok (.getfield 11, 3) := by decide +kernel
theorem dX2_fillOdds_68 : decode cX2_fillOdds 68 = .ok (.iload_n 1, 1) := by decide +kernel
theorem dX2_fillOdds_69 : decode cX2_fillOdds 69 = .ok (.aaload, 1) := by decide +kernel
theorem dX2_fillOdds_70 : decode cX2_fillOdds 70 = .ok (.astore 8, 2) := by decide +kernel
theorem dX2_fillOdds_72 : decode cX2_fillOdds 72 = .ok (.iconst 0, 1) := by decide +kernel
theorem dX2_fillOdds_73 : decode cX2_fillOdds 73 = .ok (.istore 9, 2) := by decide +kernel
theorem dX2_fillOdds_75 : decode cX2_fillOdds 75 = .ok (.iload 9, 2) := by decide +kernel
theorem dX2_fillOdds_77 : decode cX2_fillOdds 77 = .ok (.bipush 16, 2) := by decide +kernel
theorem dX2_fillOdds_79 : decode cX2_fillOdds 79 = .ok (.if_icmp .ge 36, 3) := by decide +kernel
theorem dX2_fillOdds_82 : decode cX2_fillOdds 82 = .ok (.aload 8, 2) := by decide +kernel
theorem dX2_fillOdds_84 : decode cX2_fillOdds 84 = .ok (.iload 9, 2) := by decide +kernel
theorem dX2_fillOdds_86 : decode cX2_fillOdds 86 = .ok (.aload 7, 2) := by decide +kernel
theorem dX2_fillOdds_88 : decode cX2_fillOdds 88 = .ok (.iload 9, 2) := by decide +kernel
theorem dX2_fillOdds_90 : decode cX2_fillOdds 90 = .ok (.laload, 1) := by decide +kernel
theorem dX2_fillOdds_91 : decode cX2_fillOdds 91 = .ok (.iload 6, 2) := by decide +kernel
theorem dX2_fillOdds_93 : decode cX2_fillOdds 93 = .ok (.iload 9, 2) := by decide +kernel
theorem dX2_fillOdds_95 : decode cX2_fillOdds 95 = .ok (.iand, 1) := by decide +kernel
theorem dX2_fillOdds_96 : decode cX2_fillOdds 96 = .ok (.ifCond .ne 8, 3) := by decide +kernel
theorem dX2_fillOdds_99 : decode cX2_fillOdds 99 = .ok (.iload 4, 2) := by decide +kernel
theorem dX2_fillOdds_101 : decode cX2_fillOdds 101 = .ok (.goto 5, 3) := by decide +kernel
theorem dX2_fillOdds_104 : decode cX2_fillOdds 104 = .ok (.iload 5, 2) := by decide +kernel
theorem dX2_fillOdds_106 : decode cX2_fillOdds 106 = .ok (.i2l, 1) := by decide +kernel
theorem dX2_fillOdds_107 : decode cX2_fillOdds 107 = .ok (.lmul, 1) := by decide +kernel
theorem dX2_fillOdds_108 : decode cX2_fillOdds 108 = .ok (.lastore, 1) := by decide +kernel
theorem dX2_fillOdds_109 : decode cX2_fillOdds 109 = .ok (.iinc 9 1, 3) := by decide +kernel
theorem dX2_fillOdds_112 : decode cX2_fillOdds 112 = .ok (.goto (-37), 3) := by decide +kernel
theorem dX2_fillOdds_115 : decode cX2_fillOdds 115 = .ok (.return_, 1) := by decide +kernel
theorem dX3_init_0 : decode cX3_init 0 = .ok (.aload_n 0, 1) := by decide +kernel
theorem dX3_init_1 : decode cX3_init 1 = .ok (.invokespecial 3, 3) := by decide +kernel
theorem dX3_init_4 : decode cX3_init 4 = .ok (.aload_n 0, 1) := by decide +kernel
theorem dX3_init_5 : decode cX3_init 5 = .ok (.iconst 0, 1) := by decide +kernel
theorem dX3_init_6 : decode cX3_init 6 = .ok (.putfield 9, 3) := by decide +kernel
theorem dX3_init_9 : decode cX3_init 9 = .ok (.aload_n 0, 1) := by decide +kernel
theorem dX3_init_10 : decode cX3_init 10 = .ok (.iconst 0, 1) := by decide +kernel
theorem dX3_init_11 : decode cX3_init 11 = .ok (.putfield 15, 3) := by decide +kernel
theorem dX3_init_14 : decode cX3_init 14 = .ok (.aload_n 0, 1) := by decide +kernel
theorem dX3_init_15 : decode cX3_init 15 = .ok (.iconst 0, 1) := by decide +kernel
theorem dX3_init_16 : decode cX3_init 16 = .ok (.putfield 18, 3) := by decide +kernel
theorem dX3_init_19 : decode cX3_init 19 = .ok (.aload_n 0, 1) := by decide +kernel
theorem dX3_init_20 : decode cX3_init 20 = .ok (.iconst 0, 1) := by decide +kernel
theorem dX3_init_21 : decode cX3_init 21 = .ok (.putfield 21, 3) := by decide +kernel
theorem dX3_init_24 : decode cX3_init 24 = .ok (.aload_n 0, 1) := by decide +kernel
theorem dX3_init_25 : decode cX3_init 25 = .ok (.iconst 1, 1) := by decide +kernel
theorem dX3_init_26 : decode cX3_init 26 = .ok (.putfield 24, 3) := by decide +kernel
theorem dX3_init_29 : decode cX3_init 29 = .ok (.aload_n 0, 1) := by decide +kernel
theorem dX3_init_30 : decode cX3_init 30 = .ok (.iconst 0, 1) := by decide +kernel
theorem dX3_init_31 : decode cX3_init 31 = .ok (.putfield 27, 3) := by decide +kernel
theorem dX3_init_34 : decode cX3_init 34 = .ok (.aload_n 0, 1) := by decide +kernel
theorem dX3_init_35 : decode cX3_init 35 = .ok (.iconst 0, 1) := by decide +kernel
theorem dX3_init_36 : decode cX3_init 36 = .ok (.putfield 30, 3) := by decide +kernel
theorem dX3_init_39 : decode cX3_init 39 = .ok (.aload_n 0, 1) := by decide +kernel
theorem dX3_init_40 : decode cX3_init 40 = .ok (.iconst 0, 1) := by decide +kernel
theorem dX3_init_41 : decode cX3_init 41 = .ok (.putfield 33, 3) := by decide +kernel
theorem dX3_init_44 : decode cX3_init 44 = .ok (.return_, 1) := by decide +kernel
theorem dX3_readFrom_0 : decode cX3_readFrom 0 = .ok (.aload_n 0, 1) := by decide +kernel
theorem dX3_readFrom_1 : decode cX3_readFrom 1 = .ok (.aload_n 1, 1) := by decide +kernel
theorem dX3_readFrom_2 : decode cX3_readFrom 2 = .ok (.ldc 36, 2) := by decide +kernel
theorem dX3_readFrom_4 : decode cX3_readFrom 4 = .ok (.invokevirtual 38, 3) := by decide +kernel
theorem dX3_readFrom_7 : decode cX3_readFrom 7 = .ok (.putfield 9, 3) := by decide +kernel
theorem dX3_readFrom_10 : decode cX3_readFrom 10 = .ok (.aload_n 0, 1) := by decide +kernel
theorem dX3_readFrom_11 : decode cX3_readFrom 11 = .ok (.aload_n 1, 1) := by decide +kernel
theorem dX3_readFrom_12 : decode cX3_readFrom 12 = .ok (.iconst 0, 1) := by decide +kernel
theorem dX3_readFrom_13 : decode cX3_readFrom 13 = .ok (.bipush 99, 2) := by decide +kernel
theorem dX3_readFrom_15 : decode cX3_readFrom 15 = .ok (.invokevirtual 44, 3) := by decide +kernel
theorem dX3_readFrom_18 : decode cX3_readFrom 18 = .ok (.putfield 15, 3) := by decide +kernel
theorem dX3_readFrom_21 : decode cX3_readFrom 21 = .ok (.aload_n 0, 1) := by decide +kernel
theorem dX3_readFrom_22 : decode cX3_readFrom 22 = .ok (.aload_n 1, 1) := by decide +kernel
theorem dX3_readFrom_23 : decode cX3_readFrom 23 = .ok (.iconst 0, 1) := by decide +kernel
theorem dX3_readFrom_24 : decode cX3_readFrom 24 = .ok (.bipush 99, 2) := by decide +kernel
theorem dX3_readFrom_26 : decode cX3_readFrom 26 = .ok (.invokevirtual 44, 3) := by decide +kernel
theorem dX3_readFrom_29 : decode cX3_readFrom 29 = .ok (.bipush 50, 2) := by decide +kernel
theorem dX3_readFrom_31 : decode cX3_readFrom 31 = .ok (.isub, 1) := by decide +kernel
theorem dX3_readFrom_32 : decode cX3_readFrom 32 = .ok (.putfield 18, 3) := by decide +kernel
theorem dX3_readFrom_35 : decode cX3_readFrom 35 = .ok (.aload_n 0, 1) := by decide +kernel
theorem dX3_readFrom_36 : decode cX3_readFrom 36 = .ok (.aload_n 1, 1) := by decide +kernel
theorem dX3_readFrom_37 : decode cX3_readFrom 37 = .ok (.iconst 0, 1) := by decide +kernel
theorem dX3_readFrom_38 : decode cX3_readFrom 38 = .ok (.bipush 99, 2) := by decide +kernel
theorem dX3_readFrom_40 : decode cX3_readFrom 40 = .ok (.invokevirtual 44, 3) := by decide +kernel
theorem dX3_readFrom_43 : decode cX3_readFrom 43 = .ok (.putfield 21, 3) := by decide +kernel
theorem dX3_readFrom_46 : decode cX3_readFrom 46 = .ok (.aload_n 0, 1) := by decide +kernel
theorem dX3_readFrom_47 : decode cX3_readFrom 47 = .ok (.aload_n 1, 1) := by decide +kernel
theorem dX3_readFrom_48 : decode cX3_readFrom 48 = .ok (.iconst 1, 1) := by decide +kernel
theorem dX3_readFrom_49 : decode cX3_readFrom 49 = .ok (.bipush 40, 2) := by decide +kernel
theorem dX3_readFrom_51 : decode cX3_readFrom 51 = .ok (.invokevirtual 44, 3) := by decide +kernel
theorem dX3_readFrom_54 : decode cX3_readFrom 54 = .ok (.putfield 24, 3) := by decide +kernel
theorem dX3_readFrom_57 : decode cX3_readFrom 57 = .ok (.aload_n 0, 1) := by decide +kernel
theorem dX3_readFrom_58 : decode cX3_readFrom 58 = .ok (.aload_n 1, 1) := by decide +kernel
theorem dX3_readFrom_59 : decode cX3_readFrom 59 = .ok (.iconst 0, 1) := by decide +kernel
theorem dX3_readFrom_60 : decode cX3_readFrom 60 = .ok (.bipush 36, 2) := by decide +kernel
theorem dX3_readFrom_62 : decode cX3_readFrom 62 = .ok (.invokevirtual 44, 3) := by decide +kernel
theorem dX3_readFrom_65 : decode cX3_readFrom 65 = .ok (.putfield 27, 3) := by decide +kernel
theorem dX3_readFrom_68 : decode cX3_readFrom 68 = .ok (.aload_n 0, 1) := by decide +kernel
theorem dX3_readFrom_69 : decode cX3_readFrom 69 = .ok (.aload_n 1, 1) := by decide +kernel
theorem dX3_readFrom_70 : decode cX3_readFrom 70 = .ok (.iconst 0, 1) := by decide +kernel
theorem dX3_readFrom_71 : decode cX3_readFrom 71 = .ok (.bipush 36, 2) := by decide +kernel
theorem dX3_readFrom_73 : decode cX3_readFrom 73 = .ok (.invokevirtual 44, 3) := by decide +kernel
theorem dX3_readFrom_76 : decode cX3_readFrom 76 = .ok (.putfield 30, 3) := by decide +kernel
theorem dX3_readFrom_79 : decode cX3_readFrom 79 = .ok (.aload_n 0, 1) := by decide +kernel
theorem dX3_readFrom_80 : decode cX3_readFrom 80 = .ok (.getfield 30, 3) := by decide +kernel
theorem dX3_readFrom_83 : decode cX3_readFrom 83 = .ok (.aload_n 0, 1) := by decide +kernel
theorem dX3_readFrom_84 : decode cX3_readFrom 84 = .ok (.getfield 27, 3) := by decide +kernel
theorem dX3_readFrom_87 : decode cX3_readFrom 87 = .ok (.if_icmp .ge 8, 3) := by decide +kernel
theorem dX3_readFrom_90 : decode cX3_readFrom 90 = .ok (.aload_n 1, 1) := by decide +kernel
theorem dX3_readFrom_91 : decode cX3_readFrom 91 = .ok (.iconst 4, 1) := by decide +kernel
theorem dX3_readFrom_92 : decode cX3_readFrom 92 = .ok (.invokevirtual 48, 3) := by decide +kernel
theorem dX3_readFrom_95 : decode cX3_readFrom 95 = .ok (.aload_n 0, 1) := by decide +kernel
theorem dX3_readFrom_96 : decode cX3_readFrom 96 = .ok (.aload_n 1, 1) := by decide +kernel
theorem dX3_readFrom_97 : decode cX3_readFrom 97 = .ok (.iconst 0, 1) := by decide +kernel
theorem dX3_readFrom_98 : decode cX3_readFrom 98 = .ok (.bipush 40, 2) := by decide +kernel
theorem dX3_readFrom_100 : decode cX3_readFrom 100 = .ok (.invokevirtual 44, 3) := by decide +kernel
theorem dX3_readFrom_103 : decode cX3_readFrom 103 = .ok (.bipush 20, 2) := by decide +kernel
theorem dX3_readFrom_105 : decode cX3_readFrom 105 = .ok (.isub, 1) := by decide +kernel
theorem dX3_readFrom_106 : decode cX3_readFrom 106 = .ok (.putfield 33, 3) := by decide +kernel
theorem dX3_readFrom_109 : decode cX3_readFrom 109 = .ok (.aload_n 1, 1) := by decide +kernel
theorem dX3_readFrom_110 : decode cX3_readFrom 110 = .ok (.bipush 59, 2) := by decide +kernel
theorem dX3_readFrom_112 : decode cX3_readFrom 112 = .ok (.invokevirtual 52, 3) := by decide +kernel
theorem dX3_readFrom_115 : decode cX3_readFrom 115 = .ok (.return_, 1) := by decide +kernel
theorem dX3_copyFrom_0 : decode cX3_copyFrom 0 = .ok (.aload_n 0, 1) := by decide +kernel
theorem dX3_copyFrom_1 : decode cX3_copyFrom 1 = .ok (.aload_n 1, 1) := by decide +kernel
theorem dX3_copyFrom_2 : decode cX3_copyFrom 2 = .ok (.getfield 9, 3) := by decide +kernel
theorem dX3_copyFrom_5 : decode cX3_copyFrom 5 = .ok (.putfield 9, 3) := by decide +kernel
theorem dX3_copyFrom_8 : decode cX3_copyFrom 8 = .ok (.aload_n 0, 1) := by decide +kernel
theorem dX3_copyFrom_9 : decode cX3_copyFrom 9 = .ok (.aload_n 1, 1) := by decide +kernel
theorem dX3_copyFrom_10 : decode cX3_copyFrom 10 = .ok (.getfield 15, 3) := by decide +kernel
theorem dX3_copyFrom_13 : decode cX3_copyFrom 13 = .ok (.putfield 15, 3) := by decide +kernel
theorem dX3_copyFrom_16 : decode cX3_copyFrom 16 = .ok (.aload_n 0, 1) := by decide +kernel
theorem dX3_copyFrom_17 : decode cX3_copyFrom 17 = .ok (.aload_n 1, 1) := by decide +kernel
theorem dX3_copyFrom_18 : decode cX3_copyFrom 18 = .ok (.getfield 18, 3) := by decide +kernel
theorem dX3_copyFrom_21 : decode cX3_copyFrom 21 = .ok (.putfield 18, 3) := by decide +kernel
theorem dX3_copyFrom_24 : decode cX3_copyFrom 24 = .ok (.aload_n 0, 1) := by decide +kernel
theorem dX3_copyFrom_25 : decode cX3_copyFrom 25 = .ok (.aload_n 1, 1) := by decide +kernel
theorem dX3_copyFrom_26 : decode cX3_copyFrom 26 = .ok (.getfield 21, 3) := by decide +kernel
theorem dX3_copyFrom_29 : decode cX3_copyFrom 29 = .ok (.putfield 21, 3) := by decide +kernel
theorem dX3_copyFrom_32 : decode cX3_copyFrom 32 = .ok (.aload_n 0, 1) := by decide +kernel
theorem dX3_copyFrom_33 : decode cX3_copyFrom 33 = .ok (.aload_n 1, 1) := by decide +kernel
theorem dX3_copyFrom_34 : decode cX3_copyFrom 34 = .ok (.getfield 24, 3) := by decide +kernel
theorem dX3_copyFrom_37 : decode cX3_copyFrom 37 = .ok (.putfield 24, 3) := by decide +kernel
theorem dX3_copyFrom_40 : decode cX3_copyFrom 40 = .ok (.aload_n 0, 1) := by decide +kernel
theorem dX3_copyFrom_41 : decode cX3_copyFrom 41 = .ok (.aload_n 1, 1) := by decide +kernel
theorem dX3_copyFrom_42 : decode cX3_copyFrom 42 = .ok (.getfield 27, 3) := by decide +kernel
theorem dX3_copyFrom_45 : decode cX3_copyFrom 45 = .ok (.putfield 27, 3) := by decide +kernel
theorem dX3_copyFrom_48 : decode cX3_copyFrom 48 = .ok (.aload_n 0, 1) := by decide +kernel
theorem dX3_copyFrom_49 : decode cX3_copyFrom 49 = .ok (.aload_n 1, 1) := by decide +kernel
theorem dX3_copyFrom_50 : decode cX3_copyFrom 50 = .ok (.getfield 30, 3) := by decide +kernel
theorem dX3_copyFrom_53 : decode cX3_copyFrom 53 = .ok (.putfield 30, 3) := by decide +kernel
theorem dX3_copyFrom_56 : decode cX3_copyFrom 56 = .ok (.aload_n 0, 1) := by decide +kernel
theorem dX3_copyFrom_57 : decode cX3_copyFrom 57 = .ok (.aload_n 1, 1) := by decide +kernel
theorem dX3_copyFrom_58 : decode cX3_copyFrom 58 = .ok (.getfield 33, 3) := by decide +kernel
theorem dX3_copyFrom_61 : decode cX3_copyFrom 61 = .ok (.putfield 33, 3) := by decide +kernel
theorem dX3_copyFrom_64 : decode cX3_copyFrom 64 = .ok (.return_, 1) := by decide +kernel
theorem dX3_learn_0 : decode cX3_learn 0 = .ok (.iload_n 1, 1) := by decide +kernel
theorem dX3_learn_1 : decode cX3_learn 1 = .ok (.ifCond .ne 27, 3) := by decide +kernel
theorem dX3_learn_4 : decode cX3_learn 4 = .ok (.aload_n 0, 1) := by decide +kernel
theorem dX3_learn_5 : decode cX3_learn 5 = .ok (.iconst 0, 1) := by decide +kernel
theorem dX3_learn_6 : decode cX3_learn 6 = .ok (.aload_n 0, 1) := by decide +kernel
theorem dX3_learn_7 : decode cX3_learn 7 = .ok (.getfield 15, 3) := by decide +kernel
theorem dX3_learn_10 : decode cX3_learn 10 = .ok (.aload_n 0, 1) := by decide +kernel
theorem dX3_learn_11 : decode cX3_learn 11 = .ok (.getfield 15, 3) := by decide +kernel
theorem dX3_learn_14 : decode cX3_learn 14 = .ok (.iconst 4, 1) := by decide +kernel
theorem dX3_learn_15 : decode cX3_learn 15 = .ok (.idiv, 1) := by decide +kernel
theorem dX3_learn_16 : decode cX3_learn 16 = .ok (.iconst 1, 1) := by decide +kernel
theorem dX3_learn_17 : decode cX3_learn 17 = .ok (.iadd, 1) := by decide +kernel
theorem dX3_learn_18 : decode cX3_learn 18 = .ok (.isub, 1) := by decide +kernel
theorem dX3_learn_19 : decode cX3_learn 19 = .ok (.invokestatic 56, 3) := by decide +kernel
theorem dX3_learn_22 : decode cX3_learn 22 = .ok (.putfield 15, 3) := by decide +kernel
theorem dX3_learn_25 : decode cX3_learn 25 = .ok (.goto 93, 3) := by decide +kernel
theorem dX3_learn_28 : decode cX3_learn 28 = .ok (.iload_n 1, 1) := by decide +kernel
theorem dX3_learn_29 : decode cX3_learn 29 = .ok (.iconst 1, 1) := by decide +kernel
theorem dX3_learn_30 : decode cX3_learn 30 = .ok (.if_icmp .ne 36, 3) := by decide +kernel
theorem dX3_learn_33 : decode cX3_learn 33 = .ok (.aload_n 0, 1) := by decide +kernel
theorem dX3_learn_34 : decode cX3_learn 34 = .ok (.dup, 1) := by decide +kernel
theorem dX3_learn_35 : decode cX3_learn 35 = .ok (.getfield 18, 3) := by decide +kernel
theorem dX3_learn_38 : decode cX3_learn 38 = .ok (.aload_n 0, 1) := by decide +kernel
theorem dX3_learn_39 : decode cX3_learn 39 = .ok (.getfield 18, 3) := by decide +kernel
theorem dX3_learn_42 : decode cX3_learn 42 = .ok (.iconst 3, 1) := by decide +kernel
theorem dX3_learn_43 : decode cX3_learn 43 = .ok (.idiv, 1) := by decide +kernel
theorem dX3_learn_44 : decode cX3_learn 44 = .ok (.isub, 1) := by decide +kernel
theorem dX3_learn_45 : decode cX3_learn 45 = .ok (.putfield 18, 3) := by decide +kernel
theorem dX3_learn_48 : decode cX3_learn 48 = .ok (.aload_n 0, 1) := by decide +kernel
theorem dX3_learn_49 : decode cX3_learn 49 = .ok (.dup, 1) := by decide +kernel
theorem dX3_learn_50 : decode cX3_learn 50 = .ok (.getfield 21, 3) := by decide +kernel
theorem dX3_learn_53 : decode cX3_learn 53 = .ok (.aload_n 0, 1) := by decide +kernel
theorem dX3_learn_54 : decode cX3_learn 54 = .ok (.getfield 21, 3) := by decide +kernel
theorem dX3_learn_57 : decode cX3_learn 57 = .ok (.iconst 3, 1) := by decide +kernel
theorem dX3_learn_58 : decode cX3_learn 58 = .ok (.idiv, 1) := by decide +kernel
theorem dX3_learn_59 : decode cX3_learn 59 = .ok (.isub, 1) := by decide +kernel
theorem dX3_learn_60 : decode cX3_learn 60 = .ok (.putfield 21, 3) := by decide +kernel
theorem dX3_learn_63 : decode cX3_learn 63 = .ok (.goto 55, 3) := by decide +kernel
theorem dX3_learn_66 : decode cX3_learn 66 = .ok (.iload_n 1, 1) := by decide +kernel
theorem dX3_learn_67 : decode cX3_learn 67 = .ok (.iconst 2, 1) := by decide +kernel
theorem dX3_learn_68 : decode cX3_learn 68 = .ok (.if_icmp .ne 21, 3) := by decide +kernel
theorem dX3_learn_71 : decode cX3_learn 71 = .ok (.aload_n 0, 1) := by decide +kernel
theorem dX3_learn_72 : decode cX3_learn 72 = .ok (.bipush 40, 2) := by decide +kernel
theorem dX3_learn_74 : decode cX3_learn 74 = .ok (.aload_n 0, 1) := by decide +kernel
theorem dX3_learn_75 : decode cX3_learn 75 = .ok (.getfield 24, 3) := by decide +kernel
theorem dX3_learn_78 : decode cX3_learn 78 = .ok (.iconst 2, 1) := by decide +kernel
theorem dX3_learn_79 : decode cX3_learn 79 = .ok (.iadd, 1) := by decide +kernel
theorem dX3_learn_80 : decode cX3_learn 80 = .ok (.invokestatic 61, 3) := by decide +kernel
theorem dX3_learn_83 : decode cX3_learn 83 = .ok (.putfield 24, 3) := by decide +kernel
theorem dX3_learn_86 : decode cX3_learn 86 = .ok (.goto 32, 3) := by decide +kernel
theorem dX3_learn_89 : decode cX3_learn 89 = .ok (.aload_n 0, 1) := by decide +kernel
theorem dX3_learn_90 : decode cX3_learn 90 = .ok (.bipush 36, 2) := by decide +kernel
theorem dX3_learn_92 : decode cX3_learn 92 = .ok (.aload_n 0, 1) := by decide +kernel
theorem dX3_learn_93 : decode cX3_learn 93 = .ok (.getfield 30, 3) := by decide +kernel
theorem dX3_learn_96 : decode cX3_learn 96 = .ok (.iconst 1, 1) := by decide +kernel
theorem dX3_learn_97 : decode cX3_learn 97 = .ok (.iadd, 1) := by decide +kernel
theorem dX3_learn_98 : decode cX3_learn 98 = .ok (.invokestatic 61, 3) := by decide +kernel
theorem dX3_learn_101 : decode cX3_learn 101 = .ok (.putfield 30, 3) := by decide +kernel
theorem dX3_learn_104 : decode cX3_learn 104 = .ok (.aload_n 0, 1) := by decide +kernel
theorem dX3_learn_105 : decode cX3_learn 105 = .ok (.iconst 0, 1) := by decide +kernel
theorem dX3_learn_106 : decode cX3_learn 106 = .ok (.aload_n 0, 1) := by decide +kernel
theorem dX3_learn_107 : decode cX3_learn 107 = .ok (.getfield 27, 3) := by decide +kernel
theorem dX3_learn_110 : decode cX3_learn 110 = .ok (.iconst 1, 1) := by decide +kernel
theorem dX3_learn_111 : decode cX3_learn 111 = .ok (.isub, 1) := by decide +kernel
theorem dX3_learn_112 : decode cX3_learn 112 = .ok (.invokestatic 56, 3) := by decide +kernel
theorem dX3_learn_115 : decode cX3_learn 115 = .ok (.putfield 27, 3) := by decide +kernel
theorem dX3_learn_118 : decode cX3_learn 118 = .ok (.return_, 1) := by decide +kernel
theorem dX3_leanSung_0 : decode cX3_leanSung 0 = .ok (.aload_n 0, 1) := by decide +kernel
theorem dX3_leanSung_1 : decode cX3_leanSung 1 = .ok (.getfield 9, 3) := by decide +kernel
theorem dX3_leanSung_4 : decode cX3_leanSung 4 = .ok (.iconst 1, 1) := by decide +kernel
theorem dX3_leanSung_5 : decode cX3_leanSung 5 = .ok (.if_icmp .ne 7, 3) := by decide +kernel
theorem dX3_leanSung_8 : decode cX3_leanSung 8 = .ok (.iconst 0, 1) := by decide +kernel
theorem dX3_leanSung_9 : decode cX3_leanSung 9 = .ok (.goto 7, 3) := by decide +kernel
theorem dX3_leanSung_12 : decode cX3_leanSung 12 = .ok (.aload_n 0, 1) := by decide +kernel
theorem dX3_leanSung_13 : decode cX3_leanSung 13 = .ok (.getfield 18, 3) := by decide +kernel
theorem dX3_leanSung_16 : decode cX3_leanSung 16 = .ok (.ireturn, 1) := by decide +kernel
theorem dX3_driftSung_0 : decode cX3_driftSung 0 = .ok (.aload_n 0, 1) := by decide +kernel
theorem dX3_driftSung_1 : decode cX3_driftSung 1 = .ok (.getfield 9, 3) := by decide +kernel
theorem dX3_driftSung_4 : decode cX3_driftSung 4 = .ok (.iconst 1, 1) := by decide +kernel
theorem dX3_driftSung_5 : decode cX3_driftSung 5 = .ok (.if_icmp .ne 5, 3) := by decide +kernel
theorem dX3_driftSung_8 : decode cX3_driftSung 8 = .ok (.iconst 0, 1) := by decide +kernel
theorem dX3_driftSung_9 : decode cX3_driftSung 9 = .ok (.ireturn, 1) := by decide +kernel
theorem dX3_driftSung_10 : decode cX3_driftSung 10 = .ok (.aload_n 0, 1) := by decide +kernel
theorem dX3_driftSung_11 : decode cX3_driftSung 11 = .ok (.getfield 9, 3) := by decide +kernel
theorem dX3_driftSung_14 : decode cX3_driftSung 14 = .ok (.iconst 2, 1) := by decide +kernel
theorem dX3_driftSung_15 : decode cX3_driftSung 15 = .ok (.if_icmp .ne 12, 3) := by decide +kernel
theorem dX3_driftSung_18 : decode cX3_driftSung 18 = .ok (.iconst 2, 1) := by decide +kernel
theorem dX3_driftSung_19 : decode cX3_driftSung 19 = .ok (.aload_n 0, 1) := by decide +kernel
theorem dX3_driftSung_20 : decode cX3_driftSung 20 = .ok (.getfield 33, 3) := by decide +kernel
theorem dX3_driftSung_23 : decode cX3_driftSung 23 = .ok (.imul, 1) := by decide +kernel
theorem dX3_driftSung_24 : decode cX3_driftSung 24 = .ok (.goto 7, 3) := by decide +kernel
theorem dX3_driftSung_27 : decode cX3_driftSung 27 = .ok (.aload_n 0, 1) := by decide +kernel
theorem dX3_driftSung_28 : decode cX3_driftSung 28 = .ok (.getfield 33, 3) := by decide +kernel
theorem dX3_driftSung_31 : decode cX3_driftSung 31 = .ok (.ireturn, 1) := by decide +kernel
theorem dX3_highSung_0 : decode cX3_highSung 0 = .ok (.aload_n 0, 1) := by decide +kernel
theorem dX3_highSung_1 : decode cX3_highSung 1 = .ok (.getfield 9, 3) := by decide +kernel
theorem dX3_highSung_4 : decode cX3_highSung 4 = .ok (.iconst 3, 1) := by decide +kernel
theorem dX3_highSung_5 : decode cX3_highSung 5 = .ok (.if_icmp .ne 19, 3) := by decide +kernel
theorem dX3_highSung_8 : decode cX3_highSung 8 = .ok (.aload_n 0, 1) := by decide +kernel
theorem dX3_highSung_9 : decode cX3_highSung 9 = .ok (.getfield 30, 3) := by decide +kernel
theorem dX3_highSung_12 : decode cX3_highSung 12 = .ok (.aload_n 0, 1) := by decide +kernel
theorem dX3_highSung_13 : decode cX3_highSung 13 = .ok (.getfield 27, 3) := by decide +kernel
theorem dX3_highSung_16 : decode cX3_highSung 16 = .ok (.iconst 5, 1) := by decide +kernel
theorem dX3_highSung_17 : decode cX3_highSung 17 = .ok (.iadd, 1) := by decide +kernel
theorem dX3_highSung_18 : decode cX3_highSung 18 = .ok (.invokestatic 61, 3) := by decide +kernel
theorem dX3_highSung_21 : decode cX3_highSung 21 = .ok (.goto 7, 3) := by decide +kernel
theorem dX3_highSung_24 : decode cX3_highSung 24 = .ok (.aload_n 0, 1) := by decide +kernel
theorem dX3_highSung_25 : decode cX3_highSung 25 = .ok (.getfield 30, 3) := by decide +kernel
theorem dX3_highSung_28 : decode cX3_highSung 28 = .ok (.ireturn, 1) := by decide +kernel
theorem dX3_isPastMemory_0 : decode cX3_isPastMemory 0 = .ok (.aload_n 0, 1) := by decide +kernel
theorem dX3_isPastMemory_1 : decode cX3_isPastMemory 1 = .ok (.getfield 9, 3) := by decide +kernel
theorem dX3_isPastMemory_4 : decode cX3_isPastMemory 4 = .ok (.iconst 1, 1) := by decide +kernel
theorem dX3_isPastMemory_5 : decode cX3_isPastMemory 5 = .ok (.if_icmp .ne 5, 3) := by decide +kernel
theorem dX3_isPastMemory_8 : decode cX3_isPastMemory 8 = .ok (.iconst 0, 1) := by decide +kernel
theorem dX3_isPastMemory_9 : decode cX3_isPastMemory 9 = .ok (.ireturn, 1) := by decide +kernel
theorem dX3_isPastMemory_10 : decode cX3_isPastMemory 10 = .ok (.iload_n 1, 1) := by decide +kernel
theorem dX3_isPastMemory_11 : decode cX3_isPastMemory 11 = .ok (.aload_n 0, 1) := by decide +kernel
theorem dX3_isPastMemory_12 : decode cX3_isPastMemory 12 = .ok (.getfield 9, 3) := by decide +kernel
theorem dX3_isPastMemory_15 : decode cX3_isPastMemory 15 = .ok (.iconst 5, 1) := by decide +kernel
theorem dX3_isPastMemory_16 : decode cX3_isPastMemory 16 = .ok (.if_icmp .ne 14, 3) := by decide +kernel
theorem dX3_isPastMemory_19 : decode cX3_isPastMemory 19 = .ok (.aload_n 0, 1) := by decide +kernel
theorem dX3_isPastMemory_20 : decode cX3_isPastMemory 20 = .ok (.getfield 24, 3) := by decide +kernel
theorem dX3_isPastMemory_23 : decode cX3_isPastMemory 23 = .ok (.iconst 3, 1) := by decide +kernel
theorem dX3_isPastMemory_24 : decode cX3_isPastMemory 24 = .ok (.invokestatic 61, 3) := by decide +kernel
theorem dX3_isPastMemory_27 : decode cX3_isPastMemory 27 = .ok (.goto 7, 3) := by decide +kernel
theorem dX3_isPastMemory_30 : decode cX3_isPastMemory 30 = .ok (.aload_n 0, 1) := by decide +kernel
theorem dX3_isPastMemory_31 : decode cX3_isPastMemory 31 = .ok (.getfield 24, 3) := by decide +kernel
theorem dX3_isPastMemory_34 : decode cX3_isPastMemory 34 = .ok (.if_icmp .lt 7, 3) := by decide +kernel
theorem dX3_isPastMemory_37 : decode cX3_isPastMemory 37 = .ok (.iconst 1, 1) := by decide +kernel
theorem dX3_isPastMemory_38 : decode cX3_isPastMemory 38 = .ok (.goto 4, 3) := by decide +kernel
theorem dX3_isPastMemory_41 : decode cX3_isPastMemory 41 = .ok (.iconst 0, 1) := by decide +kernel
theorem dX3_isPastMemory_42 : decode cX3_isPastMemory 42 = .ok (.ireturn, 1) := by decide +kernel
theorem dX3_hears_0 : decode cX3_hears 0 = .ok (.aload_n 0, 1) := by decide +kernel
theorem dX3_hears_1 : decode cX3_hears 1 = .ok (.getfield 9, 3) := by decide +kernel
theorem dX3_hears_4 : decode cX3_hears 4 = .ok (.iconst 1, 1) := by decide +kernel
theorem dX3_hears_5 : decode cX3_hears 5 = .ok (.if_icmp .ne 5, 3) := by decide +kernel
theorem dX3_hears_8 : decode cX3_hears 8 = .ok (.iconst 1, 1) := by decide +kernel
theorem dX3_hears_9 : decode cX3_hears 9 = .ok (.ireturn, 1) := by decide +kernel
theorem dX3_hears_10 : decode cX3_hears 10 = .ok (.iload_n 1, 1) := by decide +kernel
theorem dX3_hears_11 : decode cX3_hears 11 = .ok (.invokestatic 64, 3) := by decide +kernel
theorem dX3_hears_14 : decode cX3_hears 14 = .ok (.aload_n 0, 1) := by decide +kernel
theorem dX3_hears_15 : decode cX3_hears 15 = .ok (.getfield 9, 3) := by decide +kernel
theorem dX3_hears_18 : decode cX3_hears 18 = .ok (.bipush 6, 2) := by decide +kernel
theorem dX3_hears_20 : decode cX3_hears 20 = .ok (.if_icmp .ne 12, 3) := by decide +kernel
theorem dX3_hears_23 : decode cX3_hears 23 = .ok (.iconst 2, 1) := by decide +kernel
theorem dX3_hears_24 : decode cX3_hears 24 = .ok (.aload_n 0, 1) := by decide +kernel
theorem dX3_hears_25 : decode cX3_hears 25 = .ok (.getfield 15, 3) := by decide +kernel
theorem dX3_hears_28 : decode cX3_hears 28 = .ok (.imul, 1) := by decide +kernel
theorem dX3_hears_29 : decode cX3_hears 29 = .ok (.goto 7, 3) := by decide +kernel
theorem dX3_hears_32 : decode cX3_hears 32 = .ok (.aload_n 0, 1) := by decide +kernel
theorem dX3_hears_33 : decode cX3_hears 33 = .ok (.getfield 15, 3) := by decide +kernel
theorem dX3_hears_36 : decode cX3_hears 36 = .ok (.bipush 50, 2) := by decide +kernel
theorem dX3_hears_38 : decode cX3_hears 38 = .ok (.iadd, 1) := by decide +kernel
theorem dX3_hears_39 : decode cX3_hears 39 = .ok (.if_icmp .le 7, 3) := by decide +kernel
theorem dX3_hears_42 : decode cX3_hears 42 = .ok (.iconst 1, 1) := by decide +kernel
theorem dX3_hears_43 : decode cX3_hears 43 = .ok (.goto 4, 3) := by decide +kernel
theorem dX3_hears_46 : decode cX3_hears 46 = .ok (.iconst 0, 1) := by decide +kernel
theorem dX3_hears_47 : decode cX3_hears 47 = .ok (.ireturn, 1) := by decide +kernel
theorem dX3_moveOfAim_0 : decode cX3_moveOfAim 0 = .ok (.aload_n 0, 1) := by decide +kernel
theorem dX3_moveOfAim_1 : decode cX3_moveOfAim 1 = .ok (.iload_n 2, 1) := by decide +kernel
theorem dX3_moveOfAim_2 : decode cX3_moveOfAim 2 = .ok (.invokevirtual 68, 3) := by decide +kernel
theorem dX3_moveOfAim_5 : decode cX3_moveOfAim 5 = .ok (.ifCond .eq 5, 3) := by decide +kernel
theorem dX3_moveOfAim_8 : decode cX3_moveOfAim 8 = .ok (.iconst 0, 1) := by decide +kernel
theorem dX3_moveOfAim_9 : decode cX3_moveOfAim 9 = .ok (.ireturn, 1) := by decide +kernel
theorem dX3_moveOfAim_10 : decode cX3_moveOfAim 10 = .ok (.aload_n 0, 1) := by decide +kernel
theorem dX3_moveOfAim_11 : decode cX3_moveOfAim 11 = .ok (.iload_n 1, 1) := by decide +kernel
theorem dX3_moveOfAim_12 : decode cX3_moveOfAim 12 = .ok (.invokevirtual 72, 3) := by decide +kernel
theorem dX3_moveOfAim_15 : decode cX3_moveOfAim 15 = .ok (.ifCond .eq 7, 3) := by decide +kernel
theorem dX3_moveOfAim_18 : decode cX3_moveOfAim 18 = .ok (.iload_n 1, 1) := by decide +kernel
theorem dX3_moveOfAim_19 : decode cX3_moveOfAim 19 = .ok (.goto 4, 3) := by decide +kernel
theorem dX3_moveOfAim_22 : decode cX3_moveOfAim 22 = .ok (.iconst 0, 1) := by decide +kernel
theorem dX3_moveOfAim_23 : decode cX3_moveOfAim 23 = .ok (.aload_n 0, 1) := by decide +kernel
theorem dX3_moveOfAim_24 : decode cX3_moveOfAim 24 = .ok (.invokevirtual 75, 3) := by decide +kernel
theorem dX3_moveOfAim_27 : decode cX3_moveOfAim 27 = .ok (.iadd, 1) := by decide +kernel
theorem dX3_moveOfAim_28 : decode cX3_moveOfAim 28 = .ok (.ireturn, 1) := by decide +kernel
theorem dX3_heldToRange_0 : decode cX3_heldToRange 0 = .ok (.bipush 100, 2) := by decide +kernel
theorem dX3_heldToRange_2 : decode cX3_heldToRange 2 = .ok (.aload_n 0, 1) := by decide +kernel
theorem dX3_heldToRange_3 : decode cX3_heldToRange 3 = .ok (.getfield 27, 3) := by decide +kernel
theorem dX3_heldToRange_6 : decode cX3_heldToRange 6 = .ok (.imul, 1) := by decide +kernel
theorem dX3_heldToRange_7 : decode cX3_heldToRange 7 = .ok (.bipush 100, 2) := by decide +kernel
theorem dX3_heldToRange_9 : decode cX3_heldToRange 9 = .ok (.aload_n 0, 1) := by decide +kernel
theorem dX3_heldToRange_10 : decode cX3_heldToRange 10 = .ok (.invokevirtual 79, 3) := by decide +kernel
theorem dX3_heldToRange_13 : decode cX3_heldToRange 13 = .ok (.imul, 1) := by decide +kernel
theorem dX3_heldToRange_14 : decode cX3_heldToRange 14 = .ok (.iload_n 1, 1) := by decide +kernel
theorem dX3_heldToRange_15 : decode cX3_heldToRange 15 = .ok (.invokestatic 61, 3) := by decide +kernel
theorem dX3_heldToRange_18 : decode cX3_heldToRange 18 = .ok (.invokestatic 56, 3) := by decide +kernel
theorem dX3_heldToRange_21 : decode cX3_heldToRange 21 = .ok (.ireturn, 1) := by decide +kernel
theorem dX4_init_0 : decode cX4_init 0 = .ok (.aload_n 0, 1) := by decide +kernel
theorem dX4_init_1 : decode cX4_init 1 = .ok (.invokespecial 3, 3) := by decide +kernel
theorem dX4_init_4 : decode cX4_init 4 = .ok (.aload_n 0, 1) := by decide +kernel
theorem dX4_init_5 : decode cX4_init 5 = .ok (.bipush 40, 2) := by decide +kernel
theorem dX4_init_7 : decode cX4_init 7 = .ok (.newarray .int, 2) := by decide +kernel
theorem dX4_init_9 : decode cX4_init 9 = .ok (.putfield 9, 3) := by decide +kernel
theorem dX4_init_12 : decode cX4_init 12 = .ok (.aload_n 0, 1) := by decide +kernel
theorem dX4_init_13 : decode cX4_init 13 = .ok (.iconst 0, 1) := by decide +kernel
theorem dX4_init_14 : decode cX4_init 14 = .ok (.putfield 15, 3) := by decide +kernel
theorem dX4_init_17 : decode cX4_init 17 = .ok (.aload_n 0, 1) := by decide +kernel
theorem dX4_init_18 : decode cX4_init 18 = .ok (.iconst (-1), 1) := by decide +kernel
theorem dX4_init_19 : decode cX4_init 19 = .ok (.putfield 19, 3) := by decide +kernel
theorem dX4_init_22 : decode cX4_init 22 = .ok (.return_, 1) := by decide +kernel
theorem dX4_clear_0 : decode cX4_clear 0 = .ok (.aload_n 0, 1) := by decide +kernel
theorem dX4_clear_1 : decode cX4_clear 1 = .ok (.iconst 0, 1) := by decide +kernel
theorem dX4_clear_2 : decode cX4_clear 2 = .ok (.putfield 15, 3) := by decide +kernel
theorem dX4_clear_5 : decode cX4_clear 5 = .ok (.aload_n 0, 1) := by decide +kernel
theorem dX4_clear_6 : decode cX4_clear 6 = .ok (.iconst (-1), 1) := by decide +kernel
theorem dX4_clear_7 : decode cX4_clear 7 = .ok (.putfield 19, 3) := by decide +kernel
theorem dX4_clear_10 : decode cX4_clear 10 = .ok (.return_, 1) := by decide +kernel
theorem dX4_copyFrom_0 : decode cX4_copyFrom 0 = .ok (.aload_n 1, 1) := by decide +kernel
theorem dX4_copyFrom_1 : decode cX4_copyFrom 1 = .ok (.getfield 9, 3) := by decide +kernel
theorem dX4_copyFrom_4 : decode cX4_copyFrom 4 = .ok (.iconst 0, 1) := by decide +kernel
theorem dX4_copyFrom_5 : decode cX4_copyFrom 5 = .ok (.aload_n 0, 1) := by decide +kernel
theorem dX4_copyFrom_6 : decode cX4_copyFrom 6 = .ok (.getfield 9, 3) := by decide +kernel
theorem dX4_copyFrom_9 : decode cX4_copyFrom 9 = .ok (.iconst 0, 1) := by decide +kernel
theorem dX4_copyFrom_10 : decode cX4_copyFrom 10 = .ok (.bipush 40, 2) := by decide +kernel
theorem dX4_copyFrom_12 : decode cX4_copyFrom 12 = .ok (.invokestatic 22, 3) := by decide +kernel
theorem dX4_copyFrom_15 : decode cX4_copyFrom 15 = .ok (.aload_n 0, 1) := by decide +kernel
theorem dX4_copyFrom_16 : decode cX4_copyFrom 16 = .ok (.aload_n 1, 1) := by decide +kernel
theorem dX4_copyFrom_17 : decode cX4_copyFrom 17 = .ok (.getfield 15, 3) := by decide +kernel
theorem dX4_copyFrom_20 : decode cX4_copyFrom 20 = .ok (.putfield 15, 3) := by decide +kernel
theorem dX4_copyFrom_23 : decode cX4_copyFrom 23 = .ok (.aload_n 0, 1) := by decide +kernel
theorem dX4_copyFrom_24 : decode cX4_copyFrom 24 = .ok (.aload_n 1, 1) := by decide +kernel
theorem dX4_copyFrom_25 : decode cX4_copyFrom 25 = .ok (.getfield 19, 3) := by decide +kernel
theorem dX4_copyFrom_28 : decode cX4_copyFrom 28 = .ok (.putfield 19, 3) := by decide +kernel
theorem dX4_copyFrom_31 : decode cX4_copyFrom 31 = .ok (.return_, 1) := by decide +kernel
theorem dX4_heightAt_0 : decode cX4_heightAt 0 = .ok (.iload_n 1, 1) := by decide +kernel
theorem dX4_heightAt_1 : decode cX4_heightAt 1 = .ok (.iconst 0, 1) := by decide +kernel
theorem dX4_heightAt_2 : decode cX4_heightAt 2 = .ok (.aload_n 0, 1) := by decide +kernel
theorem dX4_heightAt_3 : decode cX4_heightAt 3 = .ok (.getfield 15, 3) := by decide +kernel
theorem dX4_heightAt_6 : decode cX4_heightAt 6 = .ok (.iconst 1, 1) := by decide +kernel
theorem dX4_heightAt_7 : decode cX4_heightAt 7 = .ok (.isub, 1) := by decide +kernel
theorem dX4_heightAt_8 : decode cX4_heightAt 8 = .ok (.invokestatic 28, 3) := by decide +kernel
theorem dX4_heightAt_11 : decode cX4_heightAt 11 = .ok (.ifCond .eq 12, 3) := by decide +kernel
theorem dX4_heightAt_14 : decode cX4_heightAt 14 = .ok (.aload_n 0, 1) := by decide +kernel
theorem dX4_heightAt_15 : decode cX4_heightAt 15 = .ok (.getfield 9, 3) := by decide +kernel
theorem dX4_heightAt_18 : decode cX4_heightAt 18 = .ok (.iload_n 1, 1) := by decide +kernel
theorem dX4_heightAt_19 : decode cX4_heightAt 19 = .ok (.iaload, 1) := by decide +kernel
theorem dX4_heightAt_20 : decode cX4_heightAt 20 = .ok (.goto 4, 3) := by decide +kernel
theorem dX4_heightAt_23 : decode cX4_heightAt 23 = .ok (.iconst (-1), 1) := by decide +kernel
theorem dX4_heightAt_24 : decode cX4_heightAt 24 = .ok (.ireturn, 1) := by decide +kernel
theorem dX4_isHeard_0 : decode cX4_isHeard 0 = .ok (.aload_n 0, 1) := by decide +kernel
theorem dX4_isHeard_1 : decode cX4_isHeard 1 = .ok (.iconst 0, 1) := by decide +kernel
theorem dX4_isHeard_2 : decode cX4_isHeard 2 = .ok (.invokevirtual 32, 3) := by decide +kernel
theorem dX4_isHeard_5 : decode cX4_isHeard 5 = .ok (.iconst (-1), 1) := by decide +kernel
theorem dX4_isHeard_6 : decode cX4_isHeard 6 = .ok (.if_icmp .eq 7, 3) := by decide +kernel
theorem dX4_isHeard_9 : decode cX4_isHeard 9 = .ok (.iconst 1, 1) := by decide +kernel
theorem dX4_isHeard_10 : decode cX4_isHeard 10 = .ok (.goto 4, 3) := by decide +kernel
theorem dX4_isHeard_13 : decode cX4_isHeard 13 = .ok (.iconst 0, 1) := by decide +kernel
theorem dX4_isHeard_14 : decode cX4_isHeard 14 = .ok (.ireturn, 1) := by decide +kernel
theorem dX4_homeAt_0 : decode cX4_homeAt 0 = .ok (.iload_n 1, 1) := by decide +kernel
theorem dX4_homeAt_1 : decode cX4_homeAt 1 = .ok (.iconst 0, 1) := by decide +kernel
theorem dX4_homeAt_2 : decode cX4_homeAt 2 = .ok (.aload_n 0, 1) := by decide +kernel
theorem dX4_homeAt_3 : decode cX4_homeAt 3 = .ok (.getfield 15, 3) := by decide +kernel
theorem dX4_homeAt_6 : decode cX4_homeAt 6 = .ok (.iconst 1, 1) := by decide +kernel
theorem dX4_homeAt_7 : decode cX4_homeAt 7 = .ok (.isub, 1) := by decide +kernel
theorem dX4_homeAt_8 : decode cX4_homeAt 8 = .ok (.invokestatic 28, 3) := by decide +kernel
theorem dX4_homeAt_11 : decode cX4_homeAt 11 = .ok (.ifCond .eq 19, 3) := by decide +kernel
theorem dX4_homeAt_14 : decode cX4_homeAt 14 = .ok (.aload_n 0, 1) := by decide +kernel
theorem dX4_homeAt_15 : decode cX4_homeAt 15 = .ok (.getfield 9, 3) := by decide +kernel
theorem dX4_homeAt_18 : decode cX4_homeAt 18 = .ok (.iload_n 1, 1) := by decide +kernel
theorem dX4_homeAt_19 : decode cX4_homeAt 19 = .ok (.iaload, 1) := by decide +kernel
theorem dX4_homeAt_20 : decode cX4_homeAt 20 = .ok (.aload_n 2, 1) := by decide +kernel
theorem dX4_homeAt_21 : decode cX4_homeAt 21 = .ok (.getfield 36, 3) := by decide +kernel
theorem dX4_homeAt_24 : decode cX4_homeAt 24 = .ok (.iload_n 1, 1) := by decide +kernel
theorem dX4_homeAt_25 : decode cX4_homeAt 25 = .ok (.iaload, 1) := by decide +kernel
theorem dX4_homeAt_26 : decode cX4_homeAt 26 = .ok (.isub, 1) := by decide +kernel
theorem dX4_homeAt_27 : decode cX4_homeAt 27 = .ok (.goto 4, 3) := by decide +kernel
theorem dX4_homeAt_30 : decode cX4_homeAt 30 = .ok (.iconst 0, 1) := by decide +kernel
theorem dX4_homeAt_31 : decode cX4_homeAt 31 = .ok (.ireturn, 1) := by decide +kernel
theorem dX4_slide_0 : decode cX4_slide 0 = .ok (.aload_n 0, 1) := by decide +kernel
theorem dX4_slide_1 : decode cX4_slide 1 = .ok (.invokevirtual 41, 3) := by decide +kernel
theorem dX4_slide_4 : decode cX4_slide 4 = .ok (.ifCond .eq 24, 3) := by decide +kernel
theorem dX4_slide_7 : decode cX4_slide 7 = .ok (.aload_n 0, 1) := by decide +kernel
theorem dX4_slide_8 : decode cX4_slide 8 = .ok (.aload_n 0, 1) := by decide +kernel
theorem dX4_slide_9 : decode cX4_slide 9 = .ok (.getfield 15, 3) := by decide +kernel
theorem dX4_slide_12 : decode cX4_slide 12 = .ok (.iconst 1, 1) := by decide +kernel
theorem dX4_slide_13 : decode cX4_slide 13 = .ok (.isub, 1) := by decide +kernel
theorem dX4_slide_14 : decode cX4_slide 14 = .ok (.aload_n 1, 1) := by decide +kernel
theorem dX4_slide_15 : decode cX4_slide 15 = .ok (.invokevirtual 45, 3) := by decide +kernel
theorem dX4_slide_18 : decode cX4_slide 18 = .ok (.aload_n 0, 1) := by decide +kernel
theorem dX4_slide_19 : decode cX4_slide 19 = .ok (.iconst 0, 1) := by decide +kernel
theorem dX4_slide_20 : decode cX4_slide 20 = .ok (.aload_n 1, 1) := by decide +kernel
theorem dX4_slide_21 : decode cX4_slide 21 = .ok (.invokevirtual 45, 3) := by decide +kernel
theorem dX4_slide_24 : decode cX4_slide 24 = .ok (.isub, 1) := by decide +kernel
theorem dX4_slide_25 : decode cX4_slide 25 = .ok (.goto 4, 3) := by decide +kernel
theorem dX4_slide_28 : decode cX4_slide 28 = .ok (.iconst 0, 1) := by decide +kernel
theorem dX4_slide_29 : decode cX4_slide 29 = .ok (.ireturn, 1) := by decide +kernel
theorem dX4_points_0 : decode cX4_points 0 = .ok (.aload_n 0, 1) := by decide +kernel
theorem dX4_points_1 : decode cX4_points 1 = .ok (.invokevirtual 41, 3) := by decide +kernel
theorem dX4_points_4 : decode cX4_points 4 = .ok (.ifCond .ne 5, 3) := by decide +kernel
theorem dX4_points_7 : decode cX4_points 7 = .ok (.iconst 0, 1) := by decide +kernel
theorem dX4_points_8 : decode cX4_points 8 = .ok (.ireturn, 1) := by decide +kernel
theorem dX4_points_9 : decode cX4_points 9 = .ok (.iload_n 1, 1) := by decide +kernel
theorem dX4_points_10 : decode cX4_points 10 = .ok (.ifCond .ne 9, 3) := by decide +kernel
theorem dX4_points_13 : decode cX4_points 13 = .ok (.aload_n 0, 1) := by decide +kernel
theorem dX4_points_14 : decode cX4_points 14 = .ok (.aload_n 2, 1) := by decide +kernel
theorem dX4_points_15 : decode cX4_points 15 = .ok (.invokevirtual 49, 3) := by decide +kernel
theorem dX4_points_18 : decode cX4_points 18 = .ok (.ireturn, 1) := by decide +kernel
theorem dX4_points_19 : decode cX4_points 19 = .ok (.iload_n 1, 1) := by decide +kernel
theorem dX4_points_20 : decode cX4_points 20 = .ok (.iconst 1, 1) := by decide +kernel
theorem dX4_points_21 : decode cX4_points 21 = .ok (.if_icmp .ne 9, 3) := by decide +kernel
theorem dX4_points_24 : decode cX4_points 24 = .ok (.aload_n 0, 1) := by decide +kernel
theorem dX4_points_25 : decode cX4_points 25 = .ok (.aload_n 2, 1) := by decide +kernel
theorem dX4_points_26 : decode cX4_points 26 = .ok (.invokevirtual 53, 3) := by decide +kernel
theorem dX4_points_29 : decode cX4_points 29 = .ok (.ireturn, 1) := by decide +kernel
theorem dX4_points_30 : decode cX4_points 30 = .ok (.iload_n 1, 1) := by decide +kernel
theorem dX4_points_31 : decode cX4_points 31 = .ok (.iconst 2, 1) := by decide +kernel
theorem dX4_points_32 : decode cX4_points 32 = .ok (.if_icmp .ne 12, 3) := by decide +kernel
theorem dX4_points_35 : decode cX4_points 35 = .ok (.aload_n 0, 1) := by decide +kernel
theorem dX4_points_36 : decode cX4_points 36 = .ok (.iconst 0, 1) := by decide +kernel
theorem dX4_points_37 : decode cX4_points 37 = .ok (.aload_n 2, 1) := by decide +kernel
theorem dX4_points_38 : decode cX4_points 38 = .ok (.invokevirtual 45, 3) := by decide +kernel
theorem dX4_points_41 : decode cX4_points 41 = .ok (.goto 8, 3) := by decide +kernel
theorem dX4_points_44 : decode cX4_points 44 = .ok (.aload_n 0, 1) := by decide +kernel
theorem dX4_points_45 : decode cX4_points 45 = .ok (.aload_n 2, 1) := by decide +kernel
theorem dX4_points_46 : decode cX4_points 46 = .ok (.invokevirtual 56, 3) := by decide +kernel
theorem dX4_points_49 : decode cX4_points 49 = .ok (.invokestatic 59, 3) := by decide +kernel
theorem dX4_points_52 : decode cX4_points 52 = .ok (.ifCond .eq 7, 3) := by decide +kernel
theorem dX4_points_55 : decode cX4_points 55 = .ok (.iconst 1, 1) := by decide +kernel
theorem dX4_points_56 : decode cX4_points 56 = .ok (.goto 4, 3) := by decide +kernel
theorem dX4_points_59 : decode cX4_points 59 = .ok (.iconst 0, 1) := by decide +kernel
theorem dX4_points_60 : decode cX4_points 60 = .ok (.ireturn, 1) := by decide +kernel
theorem dX4_stepsRight_0 : decode cX4_stepsRight 0 = .ok (.iconst 0, 1) := by decide +kernel
theorem dX4_stepsRight_1 : decode cX4_stepsRight 1 = .ok (.istore_n 2, 1) := by decide +kernel
theorem dX4_stepsRight_2 : decode cX4_stepsRight 2 = .ok (.iconst 1, 1) := by decide +kernel
theorem dX4_stepsRight_3 : decode cX4_stepsRight 3 = .ok (.istore_n 3, 1) := by decide +kernel
theorem dX4_stepsRight_4 : decode cX4_stepsRight 4 = .ok (.iload_n 3, 1) := by decide +kernel
theorem dX4_stepsRight_5 : decode cX4_stepsRight 5 = .ok (.aload_n 0, 1) := by decide +kernel
theorem dX4_stepsRight_6 : decode cX4_stepsRight 6 = .ok (.getfield 15, 3) := by decide +kernel
theorem dX4_stepsRight_9 : decode cX4_stepsRight 9 = .ok (.if_icmp .ge 33, 3) := by decide +kernel
theorem dX4_stepsRight_12 : decode cX4_stepsRight 12 = .ok (.aload_n 0, 1) := by decide +kernel
theorem dX4_stepsRight_13 : decode cX4_stepsRight 13 = .ok (.iload_n 3, 1) := by decide +kernel
theorem dX4_stepsRight_14 : decode cX4_stepsRight 14 = .ok (.aload_n 1, 1) := by decide +kernel
theorem dX4_stepsRight_15 : decode cX4_stepsRight 15 = .ok (.invokevirtual 45, 3) := by decide +kernel
theorem dX4_stepsRight_18 : decode cX4_stepsRight 18 = .ok (.aload_n 0, 1) := by decide +kernel
theorem dX4_stepsRight_19 : decode cX4_stepsRight 19 = .ok (.iload_n 3, 1) := by decide +kernel
theorem dX4_stepsRight_20 : decode cX4_stepsRight 20 = .ok (.iconst 1, 1) := by decide +kernel
theorem dX4_stepsRight_21 : decode cX4_stepsRight 21 = .ok (.isub, 1) := by decide +kernel
theorem dX4_stepsRight_22 : decode cX4_stepsRight 22 = .ok (.aload_n 1, 1) := by decide +kernel
theorem dX4_stepsRight_23 : decode cX4_stepsRight 23 = .ok (.invokevirtual 45, 3) := by decide +kernel
theorem dX4_stepsRight_26 : decode cX4_stepsRight 26 = .ok (.isub, 1) := by decide +kernel
theorem dX4_stepsRight_27 : decode cX4_stepsRight 27 = .ok (.invokestatic 59, 3) := by decide +kernel
theorem dX4_stepsRight_30 : decode cX4_stepsRight 30 = .ok (.ifCond .eq 6, 3) := by decide +kernel
theorem dX4_stepsRight_33 : decode cX4_stepsRight 33 = .ok (.iinc 2 1, 3) := by decide +kernel
theorem dX4_stepsRight_36 : decode cX4_stepsRight 36 = .ok (.iinc 3 1, 3) := by decide +kernel
theorem dX4_stepsRight_39 : decode cX4_stepsRight 39 = .ok (.goto (-35), 3) := by decide +kernel
theorem dX4_stepsRight_42 : decode cX4_stepsRight 42 = .ok (.iload_n 2, 1) := by decide +kernel
theorem dX4_stepsRight_43 : decode cX4_stepsRight 43 = .ok (.ireturn, 1) := by decide +kernel
theorem dX4_homesRight_0 : decode cX4_homesRight 0 = .ok (.iconst 0, 1) := by decide +kernel
theorem dX4_homesRight_1 : decode cX4_homesRight 1 = .ok (.istore_n 2, 1) := by decide +kernel
theorem dX4_homesRight_2 : decode cX4_homesRight 2 = .ok (.iconst 0, 1) := by decide +kernel
theorem dX4_homesRight_3 : decode cX4_homesRight 3 = .ok (.istore_n 3, 1) := by decide +kernel
theorem dX4_homesRight_4 : decode cX4_homesRight 4 = .ok (.iload_n 3, 1) := by decide +kernel
theorem dX4_homesRight_5 : decode cX4_homesRight 5 = .ok (.aload_n 0, 1) := by decide +kernel
theorem dX4_homesRight_6 : decode cX4_homesRight 6 = .ok (.getfield 15, 3) := by decide +kernel
theorem dX4_homesRight_9 : decode cX4_homesRight 9 = .ok (.if_icmp .ge 24, 3) := by decide +kernel
theorem dX4_homesRight_12 : decode cX4_homesRight 12 = .ok (.aload_n 0, 1) := by decide +kernel
theorem dX4_homesRight_13 : decode cX4_homesRight 13 = .ok (.iload_n 3, 1) := by decide +kernel
theorem dX4_homesRight_14 : decode cX4_homesRight 14 = .ok (.aload_n 1, 1) := by decide +kernel
theorem dX4_homesRight_15 : decode cX4_homesRight 15 = .ok (.invokevirtual 45, 3) := by decide +kernel
theorem dX4_homesRight_18 : decode cX4_homesRight 18 = .ok (.invokestatic 59, 3) := by decide +kernel
theorem dX4_homesRight_21 : decode cX4_homesRight 21 = .ok (.ifCond .eq 6, 3) := by decide +kernel
theorem dX4_homesRight_24 : decode cX4_homesRight 24 = .ok (.iinc 2 1, 3) := by decide +kernel
theorem dX4_homesRight_27 : decode cX4_homesRight 27 = .ok (.iinc 3 1, 3) := by decide +kernel
theorem dX4_homesRight_30 : decode cX4_homesRight 30 = .ok (.goto (-26), 3) := by decide +kernel
theorem dX4_homesRight_33 : decode cX4_homesRight 33 = .ok (.iload_n 2, 1) := by decide +kernel
theorem dX4_homesRight_34 : decode cX4_homesRight 34 = .ok (.ireturn, 1) := by decide +kernel
theorem dX4_wrongBy_0 : decode cX4_wrongBy 0 = .ok (.iconst 0, 1) := by decide +kernel
theorem dX4_wrongBy_1 : decode cX4_wrongBy 1 = .ok (.istore_n 2, 1) := by decide +kernel
theorem dX4_wrongBy_2 : decode cX4_wrongBy 2 = .ok (.iconst 0, 1) := by decide +kernel
theorem dX4_wrongBy_3 : decode cX4_wrongBy 3 = .ok (.istore_n 3, 1) := by decide +kernel
theorem dX4_wrongBy_4 : decode cX4_wrongBy 4 = .ok (.iload_n 3, 1) := by decide +kernel
theorem dX4_wrongBy_5 : decode cX4_wrongBy 5 = .ok (.iconst 3, 1) := by decide +kernel
theorem dX4_wrongBy_6 : decode cX4_wrongBy 6 = .ok (.if_icmp .gt 36, 3) := by decide +kernel
theorem dX4_wrongBy_9 : decode cX4_wrongBy 9 = .ok (.aload_n 0, 1) := by decide +kernel
theorem dX4_wrongBy_10 : decode cX4_wrongBy 10 = .ok (.invokevirtual 41, 3) := by decide +kernel
theorem dX4_wrongBy_13 : decode cX4_wrongBy 13 = .ok (.ifCond .eq 17, 3) := by decide +kernel
theorem dX4_wrongBy_16 : decode cX4_wrongBy 16 = .ok (.aload_n 0, 1) := by decide +kernel
theorem dX4_wrongBy_17 : decode cX4_wrongBy 17 = .ok (.iload_n 3, 1) := by decide +kernel
theorem dX4_wrongBy_18 : decode cX4_wrongBy 18 = .ok (.aload_n 1, 1) := by decide +kernel
theorem dX4_wrongBy_19 : decode cX4_wrongBy 19 = .ok (.invokevirtual 63, 3) := by decide +kernel
theorem dX4_wrongBy_22 : decode cX4_wrongBy 22 = .ok (.aload_n 0, 1) := by decide +kernel
theorem dX4_wrongBy_23 : decode cX4_wrongBy 23 = .ok (.iload_n 3, 1) := by decide +kernel
theorem dX4_wrongBy_24 : decode cX4_wrongBy 24 = .ok (.invokevirtual 66, 3) := by decide +kernel
theorem dX4_wrongBy_27 : decode cX4_wrongBy 27 = .ok (.if_icmp .eq 9, 3) := by decide +kernel
theorem dX4_wrongBy_30 : decode cX4_wrongBy 30 = .ok (.iload_n 2, 1) := by decide +kernel
theorem dX4_wrongBy_31 : decode cX4_wrongBy 31 = .ok (.iconst 1, 1) := by decide +kernel
theorem dX4_wrongBy_32 : decode cX4_wrongBy 32 = .ok (.iload_n 3, 1) := by decide +kernel
theorem dX4_wrongBy_33 : decode cX4_wrongBy 33 = .ok (.ishl, 1) := by decide +kernel
theorem dX4_wrongBy_34 : decode cX4_wrongBy 34 = .ok (.ior, 1) := by decide +kernel
theorem dX4_wrongBy_35 : decode cX4_wrongBy 35 = .ok (.istore_n 2, 1) := by decide +kernel
theorem dX4_wrongBy_36 : decode cX4_wrongBy 36 = .ok (.iinc 3 1, 3) := by decide +kernel
theorem dX4_wrongBy_39 : decode cX4_wrongBy 39 = .ok (.goto (-35), 3) := by decide +kernel
theorem dX4_wrongBy_42 : decode cX4_wrongBy 42 = .ok (.iload_n 2, 1) := by decide +kernel
theorem dX4_wrongBy_43 : decode cX4_wrongBy 43 = .ok (.ireturn, 1) := by decide +kernel
theorem dX4_fullPoints_0 : decode cX4_fullPoints 0 = .ok (.iload_n 1, 1) := by decide +kernel
theorem dX4_fullPoints_1 : decode cX4_fullPoints 1 = .ok (.ifCond .ne 10, 3) := by decide +kernel
theorem dX4_fullPoints_4 : decode cX4_fullPoints 4 = .ok (.aload_n 0, 1) := by decide +kernel
theorem dX4_fullPoints_5 : decode cX4_fullPoints 5 = .ok (.getfield 15, 3) := by decide +kernel
theorem dX4_fullPoints_8 : decode cX4_fullPoints 8 = .ok (.iconst 1, 1) := by decide +kernel
theorem dX4_fullPoints_9 : decode cX4_fullPoints 9 = .ok (.isub, 1) := by decide +kernel
theorem dX4_fullPoints_10 : decode cX4_fullPoints 10 = .ok (.ireturn, 1) := by decide +kernel
theorem dX4_fullPoints_11 : decode cX4_fullPoints 11 = .ok (.iload_n 1, 1) := by decide +kernel
theorem dX4_fullPoints_12 : decode cX4_fullPoints 12 = .ok (.iconst 1, 1) := by decide +kernel
theorem dX4_fullPoints_13 : decode cX4_fullPoints 13 = .ok (.if_icmp .ne 10, 3) := by decide +kernel
theorem dX4_fullPoints_16 : decode cX4_fullPoints 16 = .ok (.aload_n 0, 1) := by decide +kernel
theorem dX4_fullPoints_17 : decode cX4_fullPoints 17 = .ok (.getfield 15, 3) := by decide +kernel
theorem dX4_fullPoints_20 : decode cX4_fullPoints 20 = .ok (.goto 4, 3) := by decide +kernel
theorem dX4_fullPoints_23 : decode cX4_fullPoints 23 = .ok (.iconst 1, 1) := by decide +kernel
theorem dX4_fullPoints_24 : decode cX4_fullPoints 24 = .ok (.ireturn, 1) := by decide +kernel
theorem dX5_init_0 : decode cX5_init 0 = .ok (.aload_n 0, 1) := by decide +kernel
theorem dX5_init_1 : decode cX5_init 1 = .ok (.invokespecial 3, 3) := by decide +kernel
theorem dX5_init_4 : decode cX5_init 4 = .ok (.aload_n 0, 1) := by decide +kernel
theorem dX5_init_5 : decode cX5_init 5 = .ok (.new 9, 3) := by decide +kernel
theorem dX5_init_8 : decode cX5_init 8 = .ok (.dup, 1) := by decide +kernel
theorem dX5_init_9 : decode cX5_init 9 = .ok (.invokespecial 11, 3) := by decide +kernel
theorem dX5_init_12 : decode cX5_init 12 = .ok (.putfield 12, 3) := by decide +kernel
theorem dX5_init_15 : decode cX5_init 15 = .ok (.aload_n 0, 1) := by decide +kernel
theorem dX5_init_16 : decode cX5_init 16 = .ok (.bipush 16, 2) := by decide +kernel
theorem dX5_init_18 : decode cX5_init 18 = .ok (.newarray .int, 2) := by decide +kernel
theorem dX5_init_20 : decode cX5_init 20 = .ok (.putfield 18, 3) := by decide +kernel
theorem dX5_init_23 : decode cX5_init 23 = .ok (.aload_n 0, 1) := by decide +kernel
theorem dX5_init_24 : decode cX5_init 24 = .ok (.invokestatic 22, 3) := by decide +kernel
theorem dX5_init_27 : decode cX5_init 27 = .ok (.putfield 26, 3) := by decide +kernel
theorem dX5_init_30 : decode cX5_init 30 = .ok (.aload_n 0, 1) := by decide +kernel
theorem dX5_init_31 : decode cX5_init 31 = .ok (.iconst 0, 1) := by decide +kernel
theorem dX5_init_32 : decode cX5_init 32 = .ok (.putfield 30, 3) := by decide +kernel
theorem dX5_init_35 : decode cX5_init 35 = .ok (.aload_n 0, 1) := by decide +kernel
theorem dX5_init_36 : decode cX5_init 36 = .ok (.iconst 0, 1) := by decide +kernel
theorem dX5_init_37 : decode cX5_init 37 = .ok (.putfield 34, 3) := by decide +kernel
theorem dX5_init_40 : decode cX5_init 40 = .ok (.aload_n 0, 1) := by decide +kernel
theorem dX5_init_41 : decode cX5_init 41 = .ok (.iconst 0, 1) := by decide +kernel
theorem dX5_init_42 : decode cX5_init 42 = .ok (.putfield 37, 3) := by decide +kernel
theorem dX5_init_45 : decode cX5_init 45 = .ok (.aload_n 0, 1) := by decide +kernel
theorem dX5_init_46 : decode cX5_init 46 = .ok (.iconst 0, 1) := by decide +kernel
theorem dX5_init_47 : decode cX5_init 47 = .ok (.putfield 40, 3) := by decide +kernel
theorem dX5_init_50 : decode cX5_init 50 = .ok (.aload_n 0, 1) := by decide +kernel
theorem dX5_init_51 : decode cX5_init 51 = .ok (.iconst 0, 1) := by decide +kernel
theorem dX5_init_52 : decode cX5_init 52 = .ok (.putfield 43, 3) := by decide +kernel
theorem dX5_init_55 : decode cX5_init 55 = .ok (.aload_n 0, 1) := by decide +kernel
theorem dX5_init_56 : decode cX5_init 56 = .ok (.getfield 18, 3) := by decide +kernel
theorem dX5_init_59 : decode cX5_init 59 = .ok (.iconst 1, 1) := by decide +kernel
theorem dX5_init_60 : decode cX5_init 60 = .ok (.invokestatic 47, 3) := by decide +kernel
theorem dX5_init_63 : decode cX5_init 63 = .ok (.return_, 1) := by decide +kernel
theorem dX5_copyFrom_0 : decode cX5_copyFrom 0 = .ok (.aload_n 0, 1) := by decide +kernel
theorem dX5_copyFrom_1 : decode cX5_copyFrom 1 = .ok (.getfield 12, 3) := by decide +kernel
theorem dX5_copyFrom_4 : decode cX5_copyFrom 4 = .ok (.aload_n 1, 1) := by decide +kernel
theorem dX5_copyFrom_5 : decode cX5_copyFrom 5 = .ok (.getfield 12, 3) := by decide +kernel
theorem dX5_copyFrom_8 : decode cX5_copyFrom 8 = .ok (.invokevirtual 53, 3) := by decide +kernel
theorem dX5_copyFrom_11 : decode cX5_copyFrom 11 = .ok (.aload_n 1, 1) := by decide +kernel
theorem dX5_copyFrom_12 : decode cX5_copyFrom 12 = .ok (.getfield 18, 3) := by decide +kernel
theorem dX5_copyFrom_15 : decode cX5_copyFrom 15 = .ok (.iconst 0, 1) := by decide +kernel
theorem dX5_copyFrom_16 : decode cX5_copyFrom 16 = .ok (.aload_n 0, 1) := by decide +kernel
theorem dX5_copyFrom_17 : decode cX5_copyFrom 17 = .ok (.getfield 18, 3) := by decide +kernel
theorem dX5_copyFrom_20 : decode cX5_copyFrom 20 = .ok (.iconst 0, 1) := by decide +kernel
theorem dX5_copyFrom_21 : decode cX5_copyFrom 21 = .ok (.bipush 16, 2) := by decide +kernel
theorem dX5_copyFrom_23 : decode cX5_copyFrom 23 = .ok (.invokestatic 57, 3) := by decide +kernel
theorem dX5_copyFrom_26 : decode cX5_copyFrom 26 = .ok (.iconst 0, 1) := by decide +kernel
theorem dX5_copyFrom_27 : decode cX5_copyFrom 27 = .ok (.istore_n 2, 1) := by decide +kernel
theorem dX5_copyFrom_28 : decode cX5_copyFrom 28 = .ok (.iload_n 2, 1) := by decide +kernel
theorem dX5_copyFrom_29 : decode cX5_copyFrom 29 = .ok (.bipush 12, 2) := by decide +kernel
theorem dX5_copyFrom_31 : decode cX5_copyFrom 31 = .ok (.if_icmp .ge 24, 3) := by decide +kernel
theorem dX5_copyFrom_34 : decode cX5_copyFrom 34 = .ok (.aload_n 0, 1) := by decide +kernel
theorem dX5_copyFrom_35 : decode cX5_copyFrom 35 = .ok (.getfield 26, 3) := by decide +kernel
theorem dX5_copyFrom_38 : decode cX5_copyFrom 38 = .ok (.iload_n 2, 1) := by decide +kernel
theorem dX5_copyFrom_39 : decode cX5_copyFrom 39 = .ok (.aaload, 1) := by decide +kernel
theorem dX5_copyFrom_40 : decode cX5_copyFrom 40 = .ok (.aload_n 1, 1) := by decide +kernel
theorem dX5_copyFrom_41 : decode cX5_copyFrom 41 = .ok (.getfield 26, 3) := by decide +kernel
theorem dX5_copyFrom_44 : decode cX5_copyFrom 44 = .ok (.iload_n 2, 1) := by decide +kernel
theorem dX5_copyFrom_45 : decode cX5_copyFrom 45 = .ok (.aaload, 1) := by decide +kernel
theorem dX5_copyFrom_46 : decode cX5_copyFrom 46 = .ok (.invokevirtual 63, 3) := by decide +kernel
theorem dX5_copyFrom_49 : decode cX5_copyFrom 49 = .ok (.iinc 2 1, 3) := by decide +kernel
theorem dX5_copyFrom_52 : decode cX5_copyFrom 52 = .ok (.goto (-24), 3) := by decide +kernel
theorem dX5_copyFrom_55 : decode cX5_copyFrom 55 = .ok (.aload_n 0, 1) := by decide +kernel
theorem dX5_copyFrom_56 : decode cX5_copyFrom 56 = .ok (.aload_n 1, 1) := by decide +kernel
theorem dX5_copyFrom_57 : decode cX5_copyFrom 57 = .ok (.getfield 30, 3) := by decide +kernel
theorem dX5_copyFrom_60 : decode cX5_copyFrom 60 = .ok (.putfield 30, 3) := by decide +kernel
theorem dX5_copyFrom_63 : decode cX5_copyFrom 63 = .ok (.aload_n 0, 1) := by decide +kernel
theorem dX5_copyFrom_64 : decode cX5_copyFrom 64 = .ok (.aload_n 1, 1) := by decide +kernel
theorem dX5_copyFrom_65 : decode cX5_copyFrom 65 = .ok (.getfield 34, 3) := by decide +kernel
theorem dX5_copyFrom_68 : decode cX5_copyFrom 68 = .ok (.putfield 34, 3) := by decide +kernel
theorem dX5_copyFrom_71 : decode cX5_copyFrom 71 = .ok (.aload_n 0, 1) := by decide +kernel
theorem dX5_copyFrom_72 : decode cX5_copyFrom 72 = .ok (.aload_n 1, 1) := by decide +kernel
theorem dX5_copyFrom_73 : decode cX5_copyFrom 73 = .ok (.getfield 37, 3) := by decide +kernel
theorem dX5_copyFrom_76 : decode cX5_copyFrom 76 = .ok (.putfield 37, 3) := by decide +kernel
theorem dX5_copyFrom_79 : decode cX5_copyFrom 79 = .ok (.aload_n 0, 1) := by decide +kernel
theorem dX5_copyFrom_80 : decode cX5_copyFrom 80 = .ok (.aload_n 1, 1) := by decide +kernel
theorem dX5_copyFrom_81 : decode cX5_copyFrom 81 = .ok (.getfield 40, 3) := by decide +kernel
theorem dX5_copyFrom_84 : decode cX5_copyFrom 84 = .ok (.putfield 40, 3) := by decide +kernel
theorem dX5_copyFrom_87 : decode cX5_copyFrom 87 = .ok (.return_, 1) := by decide +kernel
theorem dX5_isDone_0 : decode cX5_isDone 0 = .ok (.aload_n 0, 1) := by decide +kernel
theorem dX5_isDone_1 : decode cX5_isDone 1 = .ok (.getfield 34, 3) := by decide +kernel
theorem dX5_isDone_4 : decode cX5_isDone 4 = .ok (.iload_n 1, 1) := by decide +kernel
theorem dX5_isDone_5 : decode cX5_isDone 5 = .ok (.ishr, 1) := by decide +kernel
theorem dX5_isDone_6 : decode cX5_isDone 6 = .ok (.iconst 1, 1) := by decide +kernel
theorem dX5_isDone_7 : decode cX5_isDone 7 = .ok (.iand, 1) := by decide +kernel
theorem dX5_isDone_8 : decode cX5_isDone 8 = .ok (.iconst 1, 1) := by decide +kernel
theorem dX5_isDone_9 : decode cX5_isDone 9 = .ok (.if_icmp .ne 7, 3) := by decide +kernel
theorem dX5_isDone_12 : decode cX5_isDone 12 = .ok (.iconst 1, 1) := by decide +kernel
theorem dX5_isDone_13 : decode cX5_isDone 13 = .ok (.goto 4, 3) := by decide +kernel
theorem dX5_isDone_16 : decode cX5_isDone 16 = .ok (.iconst 0, 1) := by decide +kernel
theorem dX5_isDone_17 : decode cX5_isDone 17 = .ok (.ireturn, 1) := by decide +kernel
theorem dX5_isPassed_0 : decode cX5_isPassed 0 = .ok (.aload_n 0, 1) := by decide +kernel
theorem dX5_isPassed_1 : decode cX5_isPassed 1 = .ok (.getfield 37, 3) := by decide +kernel
theorem dX5_isPassed_4 : decode cX5_isPassed 4 = .ok (.iload_n 1, 1) := by decide +kernel
theorem dX5_isPassed_5 : decode cX5_isPassed 5 = .ok (.ishr, 1) := by decide +kernel
theorem dX5_isPassed_6 : decode cX5_isPassed 6 = .ok (.iconst 1, 1) := by decide +kernel
theorem dX5_isPassed_7 : decode cX5_isPassed 7 = .ok (.iand, 1) := by decide +kernel
theorem dX5_isPassed_8 : decode cX5_isPassed 8 = .ok (.iconst 1, 1) := by decide +kernel
theorem dX5_isPassed_9 : decode cX5_isPassed 9 = .ok (.if_icmp .ne 7, 3) := by decide +kernel
theorem dX5_isPassed_12 : decode cX5_isPassed 12 = .ok (.iconst 1, 1) := by decide +kernel
theorem dX5_isPassed_13 : decode cX5_isPassed 13 = .ok (.goto 4, 3) := by decide +kernel
theorem dX5_isPassed_16 : decode cX5_isPassed 16 = .ok (.iconst 0, 1) := by decide +kernel
theorem dX5_isPassed_17 : decode cX5_isPassed 17 = .ok (.ireturn, 1) := by decide +kernel
theorem dX5_draw_0 : decode cX5_draw 0 = .ok (.aload_n 0, 1) := by decide +kernel
theorem dX5_draw_1 : decode cX5_draw 1 = .ok (.aload_n 0, 1) := by decide +kernel
theorem dX5_draw_2 : decode cX5_draw 2 = .ok (.getfield 40, 3) := by decide +kernel
theorem dX5_draw_5 : decode cX5_draw 5 = .ok (.i2l, 1) := by decide +kernel
theorem dX5_draw_6 : decode cX5_draw 6 = .ok (.ldc2_w 68, 3) := by decide +kernel
theorem dX5_draw_9 : decode cX5_draw 9 = .ok (.lmul, 1) := by decide +kernel
theorem dX5_draw_10 : decode cX5_draw 10 = .ok (.ldc2_w 70, 3) := by decide +kernel
theorem dX5_draw_13 : decode cX5_draw 13 = .ok (.ladd, 1) := by decide +kernel
theorem dX5_draw_14 : decode cX5_draw 14 = .ok (.ldc2_w 72, 3) := by decide +kernel
theorem dX5_draw_17 : decode cX5_draw 17 = .ok (.land, 1) := by decide +kernel
theorem dX5_draw_18 : decode cX5_draw 18 = .ok (.l2i, 1) := by decide +kernel
theorem dX5_draw_19 : decode cX5_draw 19 = .ok (.putfield 40, 3) := by decide +kernel
theorem dX5_draw_22 : decode cX5_draw 22 = .ok (.iload_n 1, 1) := by decide +kernel
theorem dX5_draw_23 : decode cX5_draw 23 = .ok (.ifCond .le 15, 3) := by decide +kernel
theorem dX5_draw_26 : decode cX5_draw 26 = .ok (.aload_n 0, 1) := by decide +kernel
theorem dX5_draw_27 : decode cX5_draw 27 = .ok (.getfield 40, 3) := by decide +kernel
theorem dX5_draw_30 : decode cX5_draw 30 = .ok (.ldc 74, 2) := by decide +kernel
theorem dX5_draw_32 : decode cX5_draw 32 = .ok (.idiv, 1) := by decide +kernel
theorem dX5_draw_33 : decode cX5_draw 33 = .ok (.iload_n 1, 1) := by decide +kernel
theorem dX5_draw_34 : decode cX5_draw 34 = .ok (.irem, 1) := by decide +kernel
theorem dX5_draw_35 : decode cX5_draw 35 = .ok (.goto 4, 3) := by decide +kernel
theorem dX5_draw_38 : decode cX5_draw 38 = .ok (.iconst 0, 1) := by decide +kernel
theorem dX5_draw_39 : decode cX5_draw 39 = .ok (.ireturn, 1) := by decide +kernel
theorem dX6_init_0 : decode cX6_init 0 = .ok (.aload_n 0, 1) := by decide +kernel
theorem dX6_init_1 : decode cX6_init 1 = .ok (.invokespecial 3, 3) := by decide +kernel
theorem dX6_init_4 : decode cX6_init 4 = .ok (.aload_n 0, 1) := by decide +kernel
theorem dX6_init_5 : decode cX6_init 5 = .ok (.sipush 400, 3) := by decide +kernel
theorem dX6_init_8 : decode cX6_init 8 = .ok (.newarray .byte, 2) := by decide +kernel
theorem dX6_init_10 : decode cX6_init 10 = .ok (.putfield 9, 3) := by decide +kernel
theorem dX6_init_13 : decode cX6_init 13 = .ok (.aload_n 0, 1) := by decide +kernel
theorem dX6_init_14 : decode cX6_init 14 = .ok (.iconst 0, 1) := by decide +kernel
theorem dX6_init_15 : decode cX6_init 15 = .ok (.putfield 15, 3) := by decide +kernel
theorem dX6_init_18 : decode cX6_init 18 = .ok (.aload_n 0, 1) := by decide +kernel
theorem dX6_init_19 : decode cX6_init 19 = .ok (.iconst 0, 1) := by decide +kernel
theorem dX6_init_20 : decode cX6_init 20 = .ok (.putfield 19, 3) := by decide +kernel
theorem dX6_init_23 : decode cX6_init 23 = .ok (.aload_n 0, 1) := by decide +kernel
theorem dX6_init_24 : decode cX6_init 24 = .ok (.iconst 0, 1) := by decide +kernel
theorem dX6_init_25 : decode cX6_init 25 = .ok (.putfield 22, 3) := by decide +kernel
theorem dX6_init_28 : decode cX6_init 28 = .ok (.aload_n 0, 1) := by decide +kernel
theorem dX6_init_29 : decode cX6_init 29 = .ok (.iconst 0, 1) := by decide +kernel
theorem dX6_init_30 : decode cX6_init 30 = .ok (.putfield 25, 3) := by decide +kernel
theorem dX6_init_33 : decode cX6_init 33 = .ok (.aload_n 0, 1) := by decide +kernel
theorem dX6_init_34 : decode cX6_init 34 = .ok (.iconst (-1), 1) := by decide +kernel
theorem dX6_init_35 : decode cX6_init 35 = .ok (.putfield 28, 3) := by decide +kernel
theorem dX6_init_38 : decode cX6_init 38 = .ok (.return_, 1) := by decide +kernel
theorem dX6_add_0 : decode cX6_add 0 = .ok (.aload_n 0, 1) := by decide +kernel
theorem dX6_add_1 : decode cX6_add 1 = .ok (.getfield 15, 3) := by decide +kernel
theorem dX6_add_4 : decode cX6_add 4 = .ok (.sipush 400, 3) := by decide +kernel
theorem dX6_add_7 : decode cX6_add 7 = .ok (.if_icmp .lt 4, 3) := by decide +kernel
theorem dX6_add_10 : decode cX6_add 10 = .ok (.return_, 1) := by decide +kernel
theorem dX6_add_11 : decode cX6_add 11 = .ok (.aload_n 0, 1) := by decide +kernel
theorem dX6_add_12 : decode cX6_add 12 = .ok (.getfield 9, 3) := by decide +kernel
theorem dX6_add_15 : decode cX6_add 15 = .ok (.aload_n 0, 1) := by decide +kernel
theorem dX6_add_16 : decode cX6_add 16 = .ok (.getfield 15, 3) := by decide +kernel
theorem dX6_add_19 : decode cX6_add 19 = .ok (.iload_n 1, 1) := by decide +kernel
theorem dX6_add_20 : decode cX6_add 20 = .ok (.bastore, 1) := by decide +kernel
theorem dX6_add_21 : decode cX6_add 21 = .ok (.aload_n 0, 1) := by decide +kernel
theorem dX6_add_22 : decode cX6_add 22 = .ok (.dup, 1) := by decide +kernel
theorem dX6_add_23 : decode cX6_add 23 = .ok (.getfield 15, 3) := by decide +kernel
theorem dX6_add_26 : decode cX6_add 26 = .ok (.iconst 1, 1) := by decide +kernel
theorem dX6_add_27 : decode cX6_add 27 = .ok (.iadd, 1) := by decide +kernel
theorem dX6_add_28 : decode cX6_add 28 = .ok (.putfield 15, 3) := by decide +kernel
theorem dX6_add_31 : decode cX6_add 31 = .ok (.return_, 1) := by decide +kernel
theorem dX6_clear_0 : decode cX6_clear 0 = .ok (.aload_n 0, 1) := by decide +kernel
theorem dX6_clear_1 : decode cX6_clear 1 = .ok (.iconst 0, 1) := by decide +kernel
theorem dX6_clear_2 : decode cX6_clear 2 = .ok (.putfield 15, 3) := by decide +kernel
theorem dX6_clear_5 : decode cX6_clear 5 = .ok (.return_, 1) := by decide +kernel
theorem dX6_open_0 : decode cX6_open 0 = .ok (.aload_n 0, 1) := by decide +kernel
theorem dX6_open_1 : decode cX6_open 1 = .ok (.iconst 0, 1) := by decide +kernel
theorem dX6_open_2 : decode cX6_open 2 = .ok (.putfield 19, 3) := by decide +kernel
theorem dX6_open_5 : decode cX6_open 5 = .ok (.aload_n 0, 1) := by decide +kernel
theorem dX6_open_6 : decode cX6_open 6 = .ok (.iconst 0, 1) := by decide +kernel
theorem dX6_open_7 : decode cX6_open 7 = .ok (.putfield 22, 3) := by decide +kernel
theorem dX6_open_10 : decode cX6_open 10 = .ok (.aload_n 0, 1) := by decide +kernel
theorem dX6_open_11 : decode cX6_open 11 = .ok (.iconst 0, 1) := by decide +kernel
theorem dX6_open_12 : decode cX6_open 12 = .ok (.putfield 25, 3) := by decide +kernel
theorem dX6_open_15 : decode cX6_open 15 = .ok (.aload_n 0, 1) := by decide +kernel
theorem dX6_open_16 : decode cX6_open 16 = .ok (.iconst (-1), 1) := by decide +kernel
theorem dX6_open_17 : decode cX6_open 17 = .ok (.putfield 28, 3) := by decide +kernel
theorem dX6_open_20 : decode cX6_open 20 = .ok (.return_, 1) := by decide +kernel
theorem dX6_hasFault_0 : decode cX6_hasFault 0 = .ok (.aload_n 0, 1) := by decide +kernel
theorem dX6_hasFault_1 : decode cX6_hasFault 1 = .ok (.getfield 25, 3) := by decide +kernel
theorem dX6_hasFault_4 : decode cX6_hasFault 4 = .ok (.ifCond .eq 7, 3) := by decide +kernel
theorem dX6_hasFault_7 : decode cX6_hasFault 7 = .ok (.iconst 1, 1) := by decide +kernel
theorem dX6_hasFault_8 : decode cX6_hasFault 8 = .ok (.goto 4, 3) := by decide +kernel
theorem dX6_hasFault_11 : decode cX6_hasFault 11 = .ok (.iconst 0, 1) := by decide +kernel
theorem dX6_hasFault_12 : decode cX6_hasFault 12 = .ok (.ireturn, 1) := by decide +kernel
theorem dX6_blame_0 : decode cX6_blame 0 = .ok (.aload_n 0, 1) := by decide +kernel
theorem dX6_blame_1 : decode cX6_blame 1 = .ok (.invokevirtual 31, 3) := by decide +kernel
theorem dX6_blame_4 : decode cX6_blame 4 = .ok (.ifCond .eq 4, 3) := by decide +kernel
theorem dX6_blame_7 : decode cX6_blame 7 = .ok (.return_, 1) := by decide +kernel
theorem dX6_blame_8 : decode cX6_blame 8 = .ok (.aload_n 0, 1) := by decide +kernel
theorem dX6_blame_9 : decode cX6_blame 9 = .ok (.iload_n 1, 1) := by decide +kernel
theorem dX6_blame_10 : decode cX6_blame 10 = .ok (.putfield 25, 3) := by decide +kernel
theorem dX6_blame_13 : decode cX6_blame 13 = .ok (.aload_n 0, 1) := by decide +kernel
theorem dX6_blame_14 : decode cX6_blame 14 = .ok (.aload_n 0, 1) := by decide +kernel
theorem dX6_blame_15 : decode cX6_blame 15 = .ok (.getfield 22, 3) := by decide +kernel
theorem dX6_blame_18 : decode cX6_blame 18 = .ok (.putfield 28, 3) := by decide +kernel
theorem dX6_blame_21 : decode cX6_blame 21 = .ok (.return_, 1) := by decide +kernel
theorem dX6_isOver_0 : decode cX6_isOver 0 = .ok (.aload_n 0, 1) := by decide +kernel
theorem dX6_isOver_1 : decode cX6_isOver 1 = .ok (.invokevirtual 35, 3) := by decide +kernel
theorem dX6_isOver_4 : decode cX6_isOver 4 = .ok (.aload_n 0, 1) := by decide +kernel
theorem dX6_isOver_5 : decode cX6_isOver 5 = .ok (.invokevirtual 31, 3) := by decide +kernel
theorem dX6_isOver_8 : decode cX6_isOver 8 = .ok (.ifCond .ne 14, 3) := by decide +kernel
theorem dX6_isOver_11 : decode cX6_isOver 11 = .ok (.aload_n 0, 1) := by decide +kernel
theorem dX6_isOver_12 : decode cX6_isOver 12 = .ok (.getfield 19, 3) := by decide +kernel
theorem dX6_isOver_15 : decode cX6_isOver 15 = .ok (.aload_n 0, 1) := by decide +kernel
theorem dX6_isOver_16 : decode cX6_isOver 16 = .ok (.getfield 15, 3) := by decide +kernel
theorem dX6_isOver_19 : decode cX6_isOver 19 = .ok (.if_icmp .lt 7, 3) := by decide +kernel
theorem dX6_isOver_22 : decode cX6_isOver 22 = .ok (.iconst 1, 1) := by decide +kernel
theorem dX6_isOver_23 : decode cX6_isOver 23 = .ok (.goto 4, 3) := by decide +kernel
theorem dX6_isOver_26 : decode cX6_isOver 26 = .ok (.iconst 0, 1) := by decide +kernel
theorem dX6_isOver_27 : decode cX6_isOver 27 = .ok (.ireturn, 1) := by decide +kernel
theorem dX6_findToken_0 : decode cX6_findToken 0 = .ok (.aload_n 0, 1) := by decide +kernel
theorem dX6_findToken_1 : decode cX6_findToken 1 = .ok (.getfield 19, 3) := by decide +kernel
theorem dX6_findToken_4 : decode cX6_findToken 4 = .ok (.aload_n 0, 1) := by decide +kernel
theorem dX6_findToken_5 : decode cX6_findToken 5 = .ok (.getfield 15, 3) := by decide +kernel
theorem dX6_findToken_8 : decode cX6_findToken 8 = .ok (.if_icmp .ge 30, 3) := by decide +kernel
theorem dX6_findToken_11 : decode cX6_findToken 11 = .ok (.aload_n 0, 1) := by decide +kernel
theorem dX6_findToken_12 : decode cX6_findToken 12 = .ok (.getfield 9, 3) := by decide +kernel
theorem dX6_findToken_15 : decode cX6_findToken 15 = .ok (.aload_n 0, 1) := by decide +kernel
theorem dX6_findToken_16 : decode cX6_findToken 16 = .ok (.getfield 19, 3) := by decide +kernel
theorem dX6_findToken_19 : decode cX6_findToken 19 = .ok (.baload, 1) := by decide +kernel
theorem dX6_findToken_20 : decode cX6_findToken 20 = .ok (.bipush 32, 2) := by decide +kernel
theorem dX6_findToken_22 : decode cX6_findToken 22 = .ok (.if_icmp .ne 16, 3) := by decide +kernel
theorem dX6_findToken_25 : decode cX6_findToken 25 = .ok (.aload_n 0, 1) := by decide +kernel
theorem dX6_findToken_26 : decode cX6_findToken 26 = .ok (.dup, 1) := by decide +kernel
theorem dX6_findToken_27 : decode cX6_findToken 27 = .ok (.getfield 19, 3) := by decide +kernel
theorem dX6_findToken_30 : decode cX6_findToken 30 = .ok (.iconst 1, 1) := by decide +kernel
theorem dX6_findToken_31 : decode cX6_findToken 31 = .ok (.iadd, 1) := by decide +kernel
theorem dX6_findToken_32 : decode cX6_findToken 32 = .ok (.putfield 19, 3) := by decide +kernel
theorem dX6_findToken_35 : decode cX6_findToken 35 = .ok (.goto (-35), 3) := by decide +kernel
theorem dX6_findToken_38 : decode cX6_findToken 38 = .ok (.aload_n 0, 1) := by decide +kernel
theorem dX6_findToken_39 : decode cX6_findToken 39 = .ok (.aload_n 0, 1) := by decide +kernel
theorem dX6_findToken_40 : decode cX6_findToken 40 = .ok (.getfield 19, 3) := by decide +kernel
theorem dX6_findToken_43 : decode cX6_findToken 43 = .ok (.putfield 22, 3) := by decide +kernel
theorem dX6_findToken_46 : decode cX6_findToken 46 = .ok (.return_, 1) := by decide +kernel
theorem dX6_stepOver_0 : decode cX6_stepOver 0 = .ok (.aload_n 0, 1) := by decide +kernel
theorem dX6_stepOver_1 : decode cX6_stepOver 1 = .ok (.getfield 19, 3) := by decide +kernel
theorem dX6_stepOver_4 : decode cX6_stepOver 4 = .ok (.aload_n 0, 1) := by decide +kernel
theorem dX6_stepOver_5 : decode cX6_stepOver 5 = .ok (.getfield 15, 3) := by decide +kernel
theorem dX6_stepOver_8 : decode cX6_stepOver 8 = .ok (.if_icmp .ge 33, 3) := by decide +kernel
theorem dX6_stepOver_11 : decode cX6_stepOver 11 = .ok (.aload_n 0, 1) := by decide +kernel
theorem dX6_stepOver_12 : decode cX6_stepOver 12 = .ok (.getfield 9, 3) := by decide +kernel
theorem dX6_stepOver_15 : decode cX6_stepOver 15 = .ok (.aload_n 0, 1) := by decide +kernel
theorem dX6_stepOver_16 : decode cX6_stepOver 16 = .ok (.getfield 19, 3) := by decide +kernel
theorem dX6_stepOver_19 : decode cX6_stepOver 19 = .ok (.baload, 1) := by decide +kernel
theorem dX6_stepOver_20 : decode cX6_stepOver 20 = .ok (.iload_n 1, 1) := by decide +kernel
theorem dX6_stepOver_21 : decode cX6_stepOver 21 = .ok (.iload_n 2, 1) := by decide +kernel
theorem dX6_stepOver_22 : decode cX6_stepOver 22 = .ok (.invokestatic 38, 3) := by decide +kernel
theorem dX6_stepOver_25 : decode cX6_stepOver 25 = .ok (.ifCond .eq 16, 3) := by decide +kernel
theorem dX6_stepOver_28 : decode cX6_stepOver 28 = .ok (.aload_n 0, 1) := by decide +kernel
theorem dX6_stepOver_29 : decode cX6_stepOver 29 = .ok (.dup, 1) := by decide +kernel
theorem dX6_stepOver_30 : decode cX6_stepOver 30 = .ok (.getfield 19, 3) := by decide +kernel
theorem dX6_stepOver_33 : decode cX6_stepOver 33 = .ok (.iconst 1, 1) := by decide +kernel
theorem dX6_stepOver_34 : decode cX6_stepOver 34 = .ok (.iadd, 1) := by decide +kernel
theorem dX6_stepOver_35 : decode cX6_stepOver 35 = .ok (.putfield 19, 3) := by decide +kernel
theorem dX6_stepOver_38 : decode cX6_stepOver 38 = .ok (.goto (-38), 3) := by decide +kernel
theorem dX6_stepOver_41 : decode cX6_stepOver 41 = .ok (.aload_n 0, 1) := by decide +kernel
theorem dX6_stepOver_42 : decode cX6_stepOver 42 = .ok (.getfield 19, 3) := by decide +kernel
theorem dX6_stepOver_45 : decode cX6_stepOver 45 = .ok (.aload_n 0, 1) := by decide +kernel
theorem dX6_stepOver_46 : decode cX6_stepOver 46 = .ok (.getfield 22, 3) := by decide +kernel
theorem dX6_stepOver_49 : decode cX6_stepOver 49 = .ok (.isub, 1) := by decide +kernel
theorem dX6_stepOver_50 : decode cX6_stepOver 50 = .ok (.ireturn, 1) := by decide +kernel
theorem dX6_readWord_0 : decode cX6_readWord 0 = .ok (.aload_n 0, 1) := by decide +kernel
theorem dX6_readWord_1 : decode cX6_readWord 1 = .ok (.invokevirtual 31, 3) := by decide +kernel
theorem dX6_readWord_4 : decode cX6_readWord 4 = .ok (.ifCond .eq 5, 3) := by decide +kernel
theorem dX6_readWord_7 : decode cX6_readWord 7 = .ok (.iconst (-1), 1) := by decide +kernel
theorem dX6_readWord_8 : decode cX6_readWord 8 = .ok (.ireturn, 1) := by decide +kernel
theorem dX6_readWord_9 : decode cX6_readWord 9 = .ok (.aload_n 0, 1) := by decide +kernel
theorem dX6_readWord_10 : decode cX6_readWord 10 = .ok (.invokevirtual 35, 3) := by decide +kernel
theorem dX6_readWord_13 : decode cX6_readWord 13 = .ok (.aload_n 0, 1) := by decide +kernel
theorem dX6_readWord_14 : decode cX6_readWord 14 = .ok (.bipush 97, 2) := by decide +kernel
theorem dX6_readWord_16 : decode cX6_readWord 16 = .ok (.bipush 122, 2) := by decide +kernel
theorem dX6_readWord_18 : decode cX6_readWord 18 = .ok (.invokevirtual 42, 3) := by decide +kernel
theorem dX6_readWord_21 : decode cX6_readWord 21 = .ok (.pop, 1) := by decide +kernel
theorem dX6_readWord_22 : decode cX6_readWord 22 = .ok (.aload_n 0, 1) := by decide +kernel
theorem dX6_readWord_23 : decode cX6_readWord 23 = .ok (.aload_n 1, 1) := by decide +kernel
theorem dX6_readWord_24 : decode cX6_readWord 24 = .ok (.invokevirtual 46, 3) := by decide +kernel
theorem dX6_readWord_27 : decode cX6_readWord 27 = .ok (.istore_n 2, 1) := by decide +kernel
theorem dX6_readWord_28 : decode cX6_readWord 28 = .ok (.iload_n 2, 1) := by decide +kernel
theorem dX6_readWord_29 : decode cX6_readWord 29 = .ok (.iconst (-1), 1) := by decide +kernel
theorem dX6_readWord_30 : decode cX6_readWord 30 = .ok (.if_icmp .ne 8, 3) := by decide +kernel
theorem dX6_readWord_33 : decode cX6_readWord 33 = .ok (.aload_n 0, 1) := by decide +kernel
theorem dX6_readWord_34 : decode cX6_readWord 34 = .ok (.iconst 1, 1) := by decide +kernel
theorem dX6_readWord_35 : decode cX6_readWord 35 = .ok (.invokevirtual 50, 3) := by decide +kernel
theorem dX6_readWord_38 : decode cX6_readWord 38 = .ok (.iload_n 2, 1) := by decide +kernel
theorem dX6_readWord_39 : decode cX6_readWord 39 = .ok (.ireturn, 1) := by decide +kernel
theorem dX6_numberInList_0 : decode cX6_numberInList 0 = .ok (.iconst 0, 1) := by decide +kernel
theorem dX6_numberInList_1 : decode cX6_numberInList 1 = .ok (.istore_n 2, 1) := by decide +kernel
theorem dX6_numberInList_2 : decode cX6_numberInList 2 = .ok (.iconst 0, 1) := by decide +kernel
theorem dX6_numberInList_3 : decode cX6_numberInList 3 = .ok (.istore_n 3, 1) := by decide +kernel
theorem dX6_numberInList_4 : decode cX6_numberInList 4 = .ok (.iconst 0, 1) := by decide +kernel
theorem dX6_numberInList_5 : decode cX6_numberInList 5 = .ok (.istore 4, 2) := by decide +kernel
theorem dX6_numberInList_7 : decode cX6_numberInList 7 = .ok (.iload 4, 2) := by decide +kernel
theorem dX6_numberInList_9 : decode cX6_numberInList 9 = .ok (.aload_n 1, 1) := by decide +kernel
theorem dX6_numberInList_10 : decode cX6_numberInList 10 = .ok (.invokevirtual 54, 3) := by decide +kernel
theorem dX6_numberInList_13 : decode cX6_numberInList 13 = .ok (.if_icmp .ge 44, 3) := by decide +kernel
theorem dX6_numberInList_16 : decode cX6_numberInList 16 = .ok (.aload_n 1, 1) := by decide +kernel
theorem dX6_numberInList_17 : decode cX6_numberInList 17 = .ok (.iload 4, 2) := by decide +kernel
theorem dX6_numberInList_19 : decode cX6_numberInList 19 = .ok (.invokevirtual 59, 3) := by decide +kernel
theorem dX6_numberInList_22 : decode cX6_numberInList 22 = .ok (.bipush 32, 2) := by decide +kernel
theorem dX6_numberInList_24 : decode cX6_numberInList 24 = .ok (.if_icmp .eq 6, 3) := by decide +kernel
theorem dX6_numberInList_27 : decode cX6_numberInList 27 = .ok (.goto 24, 3) := by decide +kernel
theorem dX6_numberInList_30 : decode cX6_numberInList 30 = .ok (.aload_n 0, 1) := by decide +kernel
theorem dX6_numberInList_31 : decode cX6_numberInList 31 = .ok (.aload_n 1, 1) := by decide +kernel
theorem dX6_numberInList_32 : decode cX6_numberInList 32 = .ok (.iload_n 3, 1) := by decide +kernel
theorem dX6_numberInList_33 : decode cX6_numberInList 33 = .ok (.iload 4, 2) := by decide +kernel
theorem dX6_numberInList_35 : decode cX6_numberInList 35 = .ok (.invokevirtual 63, 3) := by decide +kernel
theorem dX6_numberInList_38 : decode cX6_numberInList 38 = .ok (.ifCond .eq 5, 3) := by decide +kernel
theorem dX6_numberInList_41 : decode cX6_numberInList 41 = .ok (.iload_n 2, 1) := by decide +kernel
theorem dX6_numberInList_42 : decode cX6_numberInList 42 = .ok (.ireturn, 1) := by decide +kernel
theorem dX6_numberInList_43 : decode cX6_numberInList 43 = .ok (.iinc 2 1, 3) := by decide +kernel
theorem dX6_numberInList_46 : decode cX6_numberInList 46 = .ok (.iload 4, 2) := by decide +kernel
theorem dX6_numberInList_48 : decode cX6_numberInList 48 = .ok (.iconst 1, 1) := by decide +kernel
theorem dX6_numberInList_49 : decode cX6_numberInList 49 = .ok (.iadd, 1) := by decide +kernel
theorem dX6_numberInList_50 : decode cX6_numberInList 50 = .ok (.istore_n 3, 1) := by decide +kernel
theorem dX6_numberInList_51 : decode cX6_numberInList 51 = .ok (.iinc 4 1, 3) := by decide +kernel
theorem dX6_numberInList_54 : decode cX6_numberInList 54 = .ok (.goto (-47), 3) := by decide +kernel
theorem dX6_numberInList_57 : decode cX6_numberInList 57 = .ok (.iconst (-1), 1) := by decide +kernel
theorem dX6_numberInList_58 : decode cX6_numberInList 58 = .ok (.ireturn, 1) := by decide +kernel
theorem dX6_isToken_0 : decode cX6_isToken 0 = .ok (.iload_n 3, 1) := by decide +kernel
theorem dX6_isToken_1 : decode cX6_isToken 1 = .ok (.iload_n 2, 1) := by decide +kernel
theorem dX6_isToken_2 : decode cX6_isToken 2 = .ok (.isub, 1) := by decide +kernel
theorem dX6_isToken_3 : decode cX6_isToken 3 = .ok (.aload_n 0, 1) := by decide +kernel
theorem dX6_isToken_4 : decode cX6_isToken 4 = .ok (.getfield 19, 3) := by decide +kernel
theorem dX6_isToken_7 : decode cX6_isToken 7 = .ok (.aload_n 0, 1) := by decide +kernel
theorem dX6_isToken_8 : decode cX6_isToken 8 = .ok (.getfield 22, 3) := by decide +kernel
theorem dX6_isToken_11 : decode cX6_isToken 11 = .ok (.isub, 1) := by decide +kernel
theorem dX6_isToken_12 : decode cX6_isToken 12 = .ok (.if_icmp .eq 5, 3) := by decide +kernel
theorem dX6_isToken_15 : decode cX6_isToken 15 = .ok (.iconst 0, 1) := by decide +kernel
theorem dX6_isToken_16 : decode cX6_isToken 16 = .ok (.ireturn, 1) := by decide +kernel
theorem dX6_isToken_17 : decode cX6_isToken 17 = .ok (.iload_n 2, 1) := by decide +kernel
theorem dX6_isToken_18 : decode cX6_isToken 18 = .ok (.istore 4, 2) := by decide +kernel
theorem dX6_isToken_20 : decode cX6_isToken 20 = .ok (.iload 4, 2) := by decide +kernel
theorem dX6_isToken_22 : decode cX6_isToken 22 = .ok (.iload_n 3, 1) := by decide +kernel
theorem dX6_isToken_23 : decode cX6_isToken 23 = .ok (.if_icmp .ge 34, 3) := by decide +kernel
theorem dX6_isToken_26 : decode cX6_isToken 26 = .ok (.aload_n 1, 1) := by decide +kernel
theorem dX6_isToken_27 : decode cX6_isToken 27 = .ok (.iload 4, 2) := by decide +kernel
theorem dX6_isToken_29 : decode cX6_isToken 29 = .ok (.invokevirtual 59, 3) := by decide +kernel
theorem dX6_isToken_32 : decode cX6_isToken 32 = .ok (.aload_n 0, 1) := by decide +kernel
theorem dX6_isToken_33 : decode cX6_isToken 33 = .ok (.getfield 9, 3) := by decide +kernel
theorem dX6_isToken_36 : decode cX6_isToken 36 = .ok (.aload_n 0, 1) := by decide +kernel
theorem dX6_isToken_37 : decode cX6_isToken 37 = .ok (.getfield 22, 3) := by decide +kernel
theorem dX6_isToken_40 : decode cX6_isToken 40 = .ok (.iload 4, 2) := by decide +kernel
theorem dX6_isToken_42 : decode cX6_isToken 42 = .ok (.iadd, 1) := by decide +kernel
theorem dX6_isToken_43 : decode cX6_isToken 43 = .ok (.iload_n 2, 1) := by decide +kernel
theorem dX6_isToken_44 : decode cX6_isToken 44 = .ok (.isub, 1) := by decide +kernel
theorem dX6_isToken_45 : decode cX6_isToken 45 = .ok (.baload, 1) := by decide +kernel
theorem dX6_isToken_46 : decode cX6_isToken 46 = .ok (.if_icmp .eq 5, 3) := by decide +kernel
theorem dX6_isToken_49 : decode cX6_isToken 49 = .ok (.iconst 0, 1) := by decide +kernel
theorem dX6_isToken_50 : decode cX6_isToken 50 = .ok (.ireturn, 1) := by decide +kernel
theorem dX6_isToken_51 : decode cX6_isToken 51 = .ok (.iinc 4 1, 3) := by decide +kernel
theorem dX6_isToken_54 : decode cX6_isToken 54 = .ok (.goto (-34), 3) := by decide +kernel
theorem dX6_isToken_57 : decode cX6_isToken 57 = .ok (.iconst 1, 1) := by decide +kernel
theorem dX6_isToken_58 : decode cX6_isToken 58 = .ok (.ireturn, 1) := by decide +kernel
theorem dX6_readNumber_0 : decode cX6_readNumber 0 = .ok (.aload_n 0, 1) := by decide +kernel
theorem dX6_readNumber_1 : decode cX6_readNumber 1 = .ok (.invokevirtual 31, 3) := by decide +kernel
theorem dX6_readNumber_4 : decode cX6_readNumber 4 = .ok (.ifCond .eq 5, 3) := by decide +kernel
theorem dX6_readNumber_7 : decode cX6_readNumber 7 = .ok (.iload_n 1, 1) := by decide +kernel
theorem dX6_readNumber_8 : decode cX6_readNumber 8 = .ok (.ireturn, 1) := by decide +kernel
theorem dX6_readNumber_9 : decode cX6_readNumber 9 = .ok (.aload_n 0, 1) := by decide +kernel
theorem dX6_readNumber_10 : decode cX6_readNumber 10 = .ok (.invokevirtual 35, 3) := by decide +kernel
theorem dX6_readNumber_13 : decode cX6_readNumber 13 = .ok (.aload_n 0, 1) := by decide +kernel
theorem dX6_readNumber_14 : decode cX6_readNumber 14 = .ok (.bipush 48, 2) := by decide +kernel
theorem dX6_readNumber_16 : decode cX6_readNumber 16 = .ok (.bipush 57, 2) := by decide +kernel
theorem dX6_readNumber_18 : decode cX6_readNumber 18 = .ok (.invokevirtual 42, 3) := by decide +kernel
theorem dX6_readNumber_21 : decode cX6_readNumber 21 = .ok (.istore_n 3, 1) := by decide +kernel
theorem dX6_readNumber_22 : decode cX6_readNumber 22 = .ok (.iload_n 3, 1) := by decide +kernel
theorem dX6_readNumber_23 : decode cX6_readNumber 23 = .ok (.ifCond .ne 10, 3) := by decide +kernel
theorem dX6_readNumber_26 : decode cX6_readNumber 26 = .ok (.aload_n 0, 1) := by decide +kernel
theorem dX6_readNumber_27 : decode cX6_readNumber 27 = .ok (.iconst 1, 1) := by decide +kernel
theorem dX6_readNumber_28 : decode cX6_readNumber 28 = .ok (.invokevirtual 50, 3) := by decide +kernel
theorem dX6_readNumber_31 : decode cX6_readNumber 31 = .ok (.iload_n 1, 1) := by decide +kernel
theorem dX6_readNumber_32 : decode cX6_readNumber 32 = .ok (.ireturn, 1) := by decide +kernel
theorem dX6_readNumber_33 : decode cX6_readNumber 33 = .ok (.iload_n 3, 1) := by decide +kernel
theorem dX6_readNumber_34 : decode cX6_readNumber 34 = .ok (.iconst 3, 1) := by decide +kernel
theorem dX6_readNumber_35 : decode cX6_readNumber 35 = .ok (.if_icmp .le 7, 3) := by decide +kernel
theorem dX6_readNumber_38 : decode cX6_readNumber 38 = .ok (.iconst (-1), 1) := by decide +kernel
theorem dX6_readNumber_39 : decode cX6_readNumber 39 = .ok (.goto 7, 3) := by decide +kernel
theorem dX6_readNumber_42 : decode cX6_readNumber 42 = .ok (.aload_n 0, 1) := by decide +kernel
theorem dX6_readNumber_43 : decode cX6_readNumber 43 = .ok (.invokevirtual 67, 3) := by decide +kernel
theorem dX6_readNumber_46 : decode cX6_readNumber 46 = .ok (.istore 4, 2) := by decide +kernel
theorem dX6_readNumber_48 : decode cX6_readNumber 48 = .ok (.iload 4, 2) := by decide +kernel
theorem dX6_readNumber_50 : decode cX6_readNumber 50 = .ok (.iload_n 1, 1) := by decide +kernel
theorem dX6_readNumber_51 : decode cX6_readNumber 51 = .ok (.iload_n 2, 1) := by decide +kernel
theorem dX6_readNumber_52 : decode cX6_readNumber 52 = .ok (.invokestatic 38, 3) := by decide +kernel
theorem dX6_readNumber_55 : decode cX6_readNumber 55 = .ok (.ifCond .eq 6, 3) := by decide +kernel
theorem dX6_readNumber_58 : decode cX6_readNumber 58 = .ok (.iload 4, 2) := by decide +kernel
theorem dX6_readNumber_60 : decode cX6_readNumber 60 = .ok (.ireturn, 1) := by decide +kernel
theorem dX6_readNumber_61 : decode cX6_readNumber 61 = .ok (.aload_n 0, 1) := by decide +kernel
theorem dX6_readNumber_62 : decode cX6_readNumber 62 = .ok (.iconst 2, 1) := by decide +kernel
theorem dX6_readNumber_63 : decode cX6_readNumber 63 = .ok (.invokevirtual 50, 3) := by decide +kernel
theorem dX6_readNumber_66 : decode cX6_readNumber 66 = .ok (.iload_n 1, 1) := by decide +kernel
theorem dX6_readNumber_67 : decode cX6_readNumber 67 = .ok (.ireturn, 1) := by decide +kernel
theorem dX6_valueOfToken_0 : decode cX6_valueOfToken 0 = .ok (.iconst 0, 1) := by decide +kernel
theorem dX6_valueOfToken_1 : decode cX6_valueOfToken 1 = .ok (.istore_n 1, 1) := by decide +kernel
theorem dX6_valueOfToken_2 : decode cX6_valueOfToken 2 = .ok (.aload_n 0, 1) := by decide +kernel
theorem dX6_valueOfToken_3 : decode cX6_valueOfToken 3 = .ok (.getfield 22, 3) := by decide +kernel
theorem dX6_valueOfToken_6 : decode cX6_valueOfToken 6 = .ok (.istore_n 2, 1) := by decide +kernel
theorem dX6_valueOfToken_7 : decode cX6_valueOfToken 7 = .ok (.iload_n 2, 1) := by decide +kernel
theorem dX6_valueOfToken_8 : decode cX6_valueOfToken 8 = .ok (.aload_n 0, 1) := by decide +kernel
theorem dX6_valueOfToken_9 : decode cX6_valueOfToken 9 = .ok (.getfield 19, 3) := by decide +kernel
theorem dX6_valueOfToken_12 : decode cX6_valueOfToken 12 = .ok (.if_icmp .ge 24, 3) := by decide +kernel
theorem dX6_valueOfToken_15 : decode cX6_valueOfToken 15 = .ok (.bipush 10, 2) := by decide +kernel
theorem dX6_valueOfToken_17 : decode cX6_valueOfToken 17 = .ok (.iload_n 1, 1) := by decide +kernel
theorem dX6_valueOfToken_18 : decode cX6_valueOfToken 18 = .ok (.imul, 1) := by decide +kernel
theorem dX6_valueOfToken_19 : decode cX6_valueOfToken 19 = .ok (.aload_n 0, 1) := by decide +kernel
theorem dX6_valueOfToken_20 : decode cX6_valueOfToken 20 = .ok (.getfield 9, 3) := by decide +kernel
theorem dX6_valueOfToken_23 : decode cX6_valueOfToken 23 = .ok (.iload_n 2, 1) := by decide +kernel
end
section
theorem dX6_valueOfToken_24 : decode cX6_valueOfToken 24 = .ok (.baload, 1) := by decide +kernel
theorem dX6_valueOfToken_25 : decode cX6_valueOfToken 25 = .ok (.iadd, 1) := by decide +kernel
theorem dX6_valueOfToken_26 : decode cX6_valueOfToken 26 = .ok (.bipush 48, 2) := by decide +kernel
theorem dX6_valueOfToken_28 : decode cX6_valueOfToken 28 = .ok (.isub, 1) := by decide +kernel
theorem dX6_valueOfToken_29 : decode cX6_valueOfToken 29 = .ok (.istore_n 1, 1) := by decide +kernel
theorem dX6_valueOfToken_30 : decode cX6_valueOfToken 30 = .ok (.iinc 2 1, 3) := by decide +kernel
theorem dX6_valueOfToken_33 : decode cX6_valueOfToken 33 = .ok (.goto (-26), 3) := by decide +kernel
theorem dX6_valueOfToken_36 : decode cX6_valueOfToken 36 = .ok (.iload_n 1, 1) := by decide +kernel
theorem dX6_valueOfToken_37 : decode cX6_valueOfToken 37 = .ok (.ireturn, 1) := by decide +kernel
theorem dX6_isLetterNext_0 : decode cX6_isLetterNext 0 = .ok (.aload_n 0, 1) := by decide +kernel
theorem dX6_isLetterNext_1 : decode cX6_isLetterNext 1 = .ok (.invokevirtual 35, 3) := by decide +kernel
theorem dX6_isLetterNext_4 : decode cX6_isLetterNext 4 = .ok (.aload_n 0, 1) := by decide +kernel
theorem dX6_isLetterNext_5 : decode cX6_isLetterNext 5 = .ok (.getfield 19, 3) := by decide +kernel
theorem dX6_isLetterNext_8 : decode cX6_isLetterNext 8 = .ok (.aload_n 0, 1) := by decide +kernel
theorem dX6_isLetterNext_9 : decode cX6_isLetterNext 9 = .ok (.getfield 15, 3) := by decide +kernel
theorem dX6_isLetterNext_12 : decode cX6_isLetterNext 12 = .ok (.if_icmp .ge 26, 3) := by decide +kernel
theorem dX6_isLetterNext_15 : decode cX6_isLetterNext 15 = .ok (.aload_n 0, 1) := by decide +kernel
theorem dX6_isLetterNext_16 : decode cX6_isLetterNext 16 = .ok (.getfield 9, 3) := by decide +kernel
theorem dX6_isLetterNext_19 : decode cX6_isLetterNext 19 = .ok (.aload_n 0, 1) := by decide +kernel
theorem dX6_isLetterNext_20 : decode cX6_isLetterNext 20 = .ok (.getfield 19, 3) := by decide +kernel
theorem dX6_isLetterNext_23 : decode cX6_isLetterNext 23 = .ok (.baload, 1) := by decide +kernel
theorem dX6_isLetterNext_24 : decode cX6_isLetterNext 24 = .ok (.bipush 97, 2) := by decide +kernel
theorem dX6_isLetterNext_26 : decode cX6_isLetterNext 26 = .ok (.bipush 122, 2) := by decide +kernel
theorem dX6_isLetterNext_28 : decode cX6_isLetterNext 28 = .ok (.invokestatic 38, 3) := by decide +kernel
theorem dX6_isLetterNext_31 : decode cX6_isLetterNext 31 = .ok (.ifCond .eq 7, 3) := by decide +kernel
theorem dX6_isLetterNext_34 : decode cX6_isLetterNext 34 = .ok (.iconst 1, 1) := by decide +kernel
theorem dX6_isLetterNext_35 : decode cX6_isLetterNext 35 = .ok (.goto 4, 3) := by decide +kernel
theorem dX6_isLetterNext_38 : decode cX6_isLetterNext 38 = .ok (.iconst 0, 1) := by decide +kernel
theorem dX6_isLetterNext_39 : decode cX6_isLetterNext 39 = .ok (.ireturn, 1) := by decide +kernel
theorem dX6_readIf_0 : decode cX6_readIf 0 = .ok (.aload_n 0, 1) := by decide +kernel
theorem dX6_readIf_1 : decode cX6_readIf 1 = .ok (.invokevirtual 31, 3) := by decide +kernel
theorem dX6_readIf_4 : decode cX6_readIf 4 = .ok (.ifCond .eq 5, 3) := by decide +kernel
theorem dX6_readIf_7 : decode cX6_readIf 7 = .ok (.iconst 0, 1) := by decide +kernel
theorem dX6_readIf_8 : decode cX6_readIf 8 = .ok (.ireturn, 1) := by decide +kernel
theorem dX6_readIf_9 : decode cX6_readIf 9 = .ok (.aload_n 0, 1) := by decide +kernel
theorem dX6_readIf_10 : decode cX6_readIf 10 = .ok (.invokevirtual 35, 3) := by decide +kernel
theorem dX6_readIf_13 : decode cX6_readIf 13 = .ok (.aload_n 0, 1) := by decide +kernel
theorem dX6_readIf_14 : decode cX6_readIf 14 = .ok (.getfield 19, 3) := by decide +kernel
theorem dX6_readIf_17 : decode cX6_readIf 17 = .ok (.aload_n 0, 1) := by decide +kernel
theorem dX6_readIf_18 : decode cX6_readIf 18 = .ok (.getfield 15, 3) := by decide +kernel
theorem dX6_readIf_21 : decode cX6_readIf 21 = .ok (.if_icmp .ge 16, 3) := by decide +kernel
theorem dX6_readIf_24 : decode cX6_readIf 24 = .ok (.aload_n 0, 1) := by decide +kernel
theorem dX6_readIf_25 : decode cX6_readIf 25 = .ok (.getfield 9, 3) := by decide +kernel
theorem dX6_readIf_28 : decode cX6_readIf 28 = .ok (.aload_n 0, 1) := by decide +kernel
theorem dX6_readIf_29 : decode cX6_readIf 29 = .ok (.getfield 19, 3) := by decide +kernel
theorem dX6_readIf_32 : decode cX6_readIf 32 = .ok (.baload, 1) := by decide +kernel
theorem dX6_readIf_33 : decode cX6_readIf 33 = .ok (.iload_n 1, 1) := by decide +kernel
theorem dX6_readIf_34 : decode cX6_readIf 34 = .ok (.if_icmp .eq 5, 3) := by decide +kernel
theorem dX6_readIf_37 : decode cX6_readIf 37 = .ok (.iconst 0, 1) := by decide +kernel
theorem dX6_readIf_38 : decode cX6_readIf 38 = .ok (.ireturn, 1) := by decide +kernel
theorem dX6_readIf_39 : decode cX6_readIf 39 = .ok (.aload_n 0, 1) := by decide +kernel
theorem dX6_readIf_40 : decode cX6_readIf 40 = .ok (.dup, 1) := by decide +kernel
theorem dX6_readIf_41 : decode cX6_readIf 41 = .ok (.getfield 19, 3) := by decide +kernel
theorem dX6_readIf_44 : decode cX6_readIf 44 = .ok (.iconst 1, 1) := by decide +kernel
theorem dX6_readIf_45 : decode cX6_readIf 45 = .ok (.iadd, 1) := by decide +kernel
theorem dX6_readIf_46 : decode cX6_readIf 46 = .ok (.putfield 19, 3) := by decide +kernel
theorem dX6_readIf_49 : decode cX6_readIf 49 = .ok (.iconst 1, 1) := by decide +kernel
theorem dX6_readIf_50 : decode cX6_readIf 50 = .ok (.ireturn, 1) := by decide +kernel
theorem dX6_readSign_0 : decode cX6_readSign 0 = .ok (.aload_n 0, 1) := by decide +kernel
theorem dX6_readSign_1 : decode cX6_readSign 1 = .ok (.iload_n 1, 1) := by decide +kernel
theorem dX6_readSign_2 : decode cX6_readSign 2 = .ok (.invokevirtual 70, 3) := by decide +kernel
theorem dX6_readSign_5 : decode cX6_readSign 5 = .ok (.ifCond .ne 8, 3) := by decide +kernel
theorem dX6_readSign_8 : decode cX6_readSign 8 = .ok (.aload_n 0, 1) := by decide +kernel
theorem dX6_readSign_9 : decode cX6_readSign 9 = .ok (.iconst 1, 1) := by decide +kernel
theorem dX6_readSign_10 : decode cX6_readSign 10 = .ok (.invokevirtual 50, 3) := by decide +kernel
theorem dX6_readSign_13 : decode cX6_readSign 13 = .ok (.return_, 1) := by decide +kernel
theorem dX7_init_0 : decode cX7_init 0 = .ok (.aload_n 0, 1) := by decide +kernel
theorem dX7_init_1 : decode cX7_init 1 = .ok (.invokespecial 3, 3) := by decide +kernel
theorem dX7_init_4 : decode cX7_init 4 = .ok (.aload_n 0, 1) := by decide +kernel
theorem dX7_init_5 : decode cX7_init 5 = .ok (.bipush 6, 2) := by decide +kernel
theorem dX7_init_7 : decode cX7_init 7 = .ok (.newarray .int, 2) := by decide +kernel
theorem dX7_init_9 : decode cX7_init 9 = .ok (.putfield 9, 3) := by decide +kernel
theorem dX7_init_12 : decode cX7_init 12 = .ok (.aload_n 0, 1) := by decide +kernel
theorem dX7_init_13 : decode cX7_init 13 = .ok (.bipush 6, 2) := by decide +kernel
theorem dX7_init_15 : decode cX7_init 15 = .ok (.newarray .int, 2) := by decide +kernel
theorem dX7_init_17 : decode cX7_init 17 = .ok (.putfield 15, 3) := by decide +kernel
theorem dX7_init_20 : decode cX7_init 20 = .ok (.aload_n 0, 1) := by decide +kernel
theorem dX7_init_21 : decode cX7_init 21 = .ok (.bipush 6, 2) := by decide +kernel
theorem dX7_init_23 : decode cX7_init 23 = .ok (.newarray .int, 2) := by decide +kernel
theorem dX7_init_25 : decode cX7_init 25 = .ok (.putfield 18, 3) := by decide +kernel
theorem dX7_init_28 : decode cX7_init 28 = .ok (.aload_n 0, 1) := by decide +kernel
theorem dX7_init_29 : decode cX7_init 29 = .ok (.bipush 6, 2) := by decide +kernel
theorem dX7_init_31 : decode cX7_init 31 = .ok (.newarray .int, 2) := by decide +kernel
theorem dX7_init_33 : decode cX7_init 33 = .ok (.putfield 21, 3) := by decide +kernel
theorem dX7_init_36 : decode cX7_init 36 = .ok (.aload_n 0, 1) := by decide +kernel
theorem dX7_init_37 : decode cX7_init 37 = .ok (.iconst 0, 1) := by decide +kernel
theorem dX7_init_38 : decode cX7_init 38 = .ok (.putfield 24, 3) := by decide +kernel
theorem dX7_init_41 : decode cX7_init 41 = .ok (.return_, 1) := by decide +kernel
theorem dX7_readFrom_0 : decode cX7_readFrom 0 = .ok (.aload_n 0, 1) := by decide +kernel
theorem dX7_readFrom_1 : decode cX7_readFrom 1 = .ok (.iconst 0, 1) := by decide +kernel
theorem dX7_readFrom_2 : decode cX7_readFrom 2 = .ok (.putfield 24, 3) := by decide +kernel
theorem dX7_readFrom_5 : decode cX7_readFrom 5 = .ok (.aload_n 1, 1) := by decide +kernel
theorem dX7_readFrom_6 : decode cX7_readFrom 6 = .ok (.invokevirtual 28, 3) := by decide +kernel
theorem dX7_readFrom_9 : decode cX7_readFrom 9 = .ok (.iconst 0, 1) := by decide +kernel
theorem dX7_readFrom_10 : decode cX7_readFrom 10 = .ok (.istore_n 2, 1) := by decide +kernel
theorem dX7_readFrom_11 : decode cX7_readFrom 11 = .ok (.iload_n 2, 1) := by decide +kernel
theorem dX7_readFrom_12 : decode cX7_readFrom 12 = .ok (.sipush 400, 3) := by decide +kernel
theorem dX7_readFrom_15 : decode cX7_readFrom 15 = .ok (.if_icmp .ge 128, 3) := by decide +kernel
theorem dX7_readFrom_18 : decode cX7_readFrom 18 = .ok (.aload_n 1, 1) := by decide +kernel
theorem dX7_readFrom_19 : decode cX7_readFrom 19 = .ok (.invokevirtual 33, 3) := by decide +kernel
theorem dX7_readFrom_22 : decode cX7_readFrom 22 = .ok (.ifCond .ne 121, 3) := by decide +kernel
theorem dX7_readFrom_25 : decode cX7_readFrom 25 = .ok (.aload_n 1, 1) := by decide +kernel
theorem dX7_readFrom_26 : decode cX7_readFrom 26 = .ok (.ldc 37, 2) := by decide +kernel
theorem dX7_readFrom_28 : decode cX7_readFrom 28 = .ok (.invokevirtual 39, 3) := by decide +kernel
theorem dX7_readFrom_31 : decode cX7_readFrom 31 = .ok (.pop, 1) := by decide +kernel
theorem dX7_readFrom_32 : decode cX7_readFrom 32 = .ok (.aload_n 0, 1) := by decide +kernel
theorem dX7_readFrom_33 : decode cX7_readFrom 33 = .ok (.getfield 24, 3) := by decide +kernel
theorem dX7_readFrom_36 : decode cX7_readFrom 36 = .ok (.bipush 6, 2) := by decide +kernel
theorem dX7_readFrom_38 : decode cX7_readFrom 38 = .ok (.if_icmp .lt 11, 3) := by decide +kernel
theorem dX7_readFrom_41 : decode cX7_readFrom 41 = .ok (.aload_n 1, 1) := by decide +kernel
theorem dX7_readFrom_42 : decode cX7_readFrom 42 = .ok (.iconst 3, 1) := by decide +kernel
theorem dX7_readFrom_43 : decode cX7_readFrom 43 = .ok (.invokevirtual 43, 3) := by decide +kernel
theorem dX7_readFrom_46 : decode cX7_readFrom 46 = .ok (.goto 85, 3) := by decide +kernel
theorem dX7_readFrom_49 : decode cX7_readFrom 49 = .ok (.aload_n 0, 1) := by decide +kernel
theorem dX7_readFrom_50 : decode cX7_readFrom 50 = .ok (.getfield 9, 3) := by decide +kernel
theorem dX7_readFrom_53 : decode cX7_readFrom 53 = .ok (.aload_n 0, 1) := by decide +kernel
theorem dX7_readFrom_54 : decode cX7_readFrom 54 = .ok (.getfield 24, 3) := by decide +kernel
theorem dX7_readFrom_57 : decode cX7_readFrom 57 = .ok (.aload_n 1, 1) := by decide +kernel
theorem dX7_readFrom_58 : decode cX7_readFrom 58 = .ok (.iconst 1, 1) := by decide +kernel
theorem dX7_readFrom_59 : decode cX7_readFrom 59 = .ok (.bipush 30, 2) := by decide +kernel
theorem dX7_readFrom_61 : decode cX7_readFrom 61 = .ok (.invokevirtual 47, 3) := by decide +kernel
theorem dX7_readFrom_64 : decode cX7_readFrom 64 = .ok (.iastore, 1) := by decide +kernel
theorem dX7_readFrom_65 : decode cX7_readFrom 65 = .ok (.aload_n 0, 1) := by decide +kernel
theorem dX7_readFrom_66 : decode cX7_readFrom 66 = .ok (.getfield 15, 3) := by decide +kernel
theorem dX7_readFrom_69 : decode cX7_readFrom 69 = .ok (.aload_n 0, 1) := by decide +kernel
theorem dX7_readFrom_70 : decode cX7_readFrom 70 = .ok (.getfield 24, 3) := by decide +kernel
theorem dX7_readFrom_73 : decode cX7_readFrom 73 = .ok (.aload_n 1, 1) := by decide +kernel
theorem dX7_readFrom_74 : decode cX7_readFrom 74 = .ok (.iconst 0, 1) := by decide +kernel
theorem dX7_readFrom_75 : decode cX7_readFrom 75 = .ok (.bipush 49, 2) := by decide +kernel
theorem dX7_readFrom_77 : decode cX7_readFrom 77 = .ok (.invokevirtual 47, 3) := by decide +kernel
theorem dX7_readFrom_80 : decode cX7_readFrom 80 = .ok (.iastore, 1) := by decide +kernel
theorem dX7_readFrom_81 : decode cX7_readFrom 81 = .ok (.aload_n 0, 1) := by decide +kernel
theorem dX7_readFrom_82 : decode cX7_readFrom 82 = .ok (.getfield 18, 3) := by decide +kernel
theorem dX7_readFrom_85 : decode cX7_readFrom 85 = .ok (.aload_n 0, 1) := by decide +kernel
theorem dX7_readFrom_86 : decode cX7_readFrom 86 = .ok (.getfield 24, 3) := by decide +kernel
theorem dX7_readFrom_89 : decode cX7_readFrom 89 = .ok (.aload_n 1, 1) := by decide +kernel
theorem dX7_readFrom_90 : decode cX7_readFrom 90 = .ok (.iconst 0, 1) := by decide +kernel
theorem dX7_readFrom_91 : decode cX7_readFrom 91 = .ok (.bipush 49, 2) := by decide +kernel
theorem dX7_readFrom_93 : decode cX7_readFrom 93 = .ok (.invokevirtual 47, 3) := by decide +kernel
theorem dX7_readFrom_96 : decode cX7_readFrom 96 = .ok (.iastore, 1) := by decide +kernel
theorem dX7_readFrom_97 : decode cX7_readFrom 97 = .ok (.aload_n 0, 1) := by decide +kernel
theorem dX7_readFrom_98 : decode cX7_readFrom 98 = .ok (.getfield 21, 3) := by decide +kernel
theorem dX7_readFrom_101 : decode cX7_readFrom 101 = .ok (.aload_n 0, 1) := by decide +kernel
theorem dX7_readFrom_102 : decode cX7_readFrom 102 = .ok (.getfield 24, 3) := by decide +kernel
theorem dX7_readFrom_105 : decode cX7_readFrom 105 = .ok (.aload_n 1, 1) := by decide +kernel
theorem dX7_readFrom_106 : decode cX7_readFrom 106 = .ok (.invokevirtual 51, 3) := by decide +kernel
theorem dX7_readFrom_109 : decode cX7_readFrom 109 = .ok (.ifCond .eq 10, 3) := by decide +kernel
theorem dX7_readFrom_112 : decode cX7_readFrom 112 = .ok (.aload_n 1, 1) := by decide +kernel
theorem dX7_readFrom_113 : decode cX7_readFrom 113 = .ok (.invokestatic 54, 3) := by decide +kernel
theorem dX7_readFrom_116 : decode cX7_readFrom 116 = .ok (.goto 4, 3) := by decide +kernel
theorem dX7_readFrom_119 : decode cX7_readFrom 119 = .ok (.iconst 0, 1) := by decide +kernel
theorem dX7_readFrom_120 : decode cX7_readFrom 120 = .ok (.iastore, 1) := by decide +kernel
theorem dX7_readFrom_121 : decode cX7_readFrom 121 = .ok (.aload_n 0, 1) := by decide +kernel
theorem dX7_readFrom_122 : decode cX7_readFrom 122 = .ok (.dup, 1) := by decide +kernel
theorem dX7_readFrom_123 : decode cX7_readFrom 123 = .ok (.getfield 24, 3) := by decide +kernel
theorem dX7_readFrom_126 : decode cX7_readFrom 126 = .ok (.iconst 1, 1) := by decide +kernel
theorem dX7_readFrom_127 : decode cX7_readFrom 127 = .ok (.iadd, 1) := by decide +kernel
theorem dX7_readFrom_128 : decode cX7_readFrom 128 = .ok (.putfield 24, 3) := by decide +kernel
theorem dX7_readFrom_131 : decode cX7_readFrom 131 = .ok (.aload_n 1, 1) := by decide +kernel
theorem dX7_readFrom_132 : decode cX7_readFrom 132 = .ok (.bipush 59, 2) := by decide +kernel
theorem dX7_readFrom_134 : decode cX7_readFrom 134 = .ok (.invokevirtual 58, 3) := by decide +kernel
theorem dX7_readFrom_137 : decode cX7_readFrom 137 = .ok (.iinc 2 1, 3) := by decide +kernel
theorem dX7_readFrom_140 : decode cX7_readFrom 140 = .ok (.goto (-129), 3) := by decide +kernel
theorem dX7_readFrom_143 : decode cX7_readFrom 143 = .ok (.return_, 1) := by decide +kernel
theorem dX7_readParts_0 : decode cX7_readParts 0 = .ok (.iconst 0, 1) := by decide +kernel
theorem dX7_readParts_1 : decode cX7_readParts 1 = .ok (.istore_n 1, 1) := by decide +kernel
theorem dX7_readParts_2 : decode cX7_readParts 2 = .ok (.iconst 0, 1) := by decide +kernel
theorem dX7_readParts_3 : decode cX7_readParts 3 = .ok (.istore_n 2, 1) := by decide +kernel
theorem dX7_readParts_4 : decode cX7_readParts 4 = .ok (.iload_n 2, 1) := by decide +kernel
theorem dX7_readParts_5 : decode cX7_readParts 5 = .ok (.iconst 4, 1) := by decide +kernel
theorem dX7_readParts_6 : decode cX7_readParts 6 = .ok (.if_icmp .gt 56, 3) := by decide +kernel
theorem dX7_readParts_9 : decode cX7_readParts 9 = .ok (.iload_n 2, 1) := by decide +kernel
theorem dX7_readParts_10 : decode cX7_readParts 10 = .ok (.ifCond .eq 12, 3) := by decide +kernel
theorem dX7_readParts_13 : decode cX7_readParts 13 = .ok (.aload_n 0, 1) := by decide +kernel
theorem dX7_readParts_14 : decode cX7_readParts 14 = .ok (.bipush 44, 2) := by decide +kernel
theorem dX7_readParts_16 : decode cX7_readParts 16 = .ok (.invokevirtual 62, 3) := by decide +kernel
theorem dX7_readParts_19 : decode cX7_readParts 19 = .ok (.ifCond .eq 43, 3) := by decide +kernel
theorem dX7_readParts_22 : decode cX7_readParts 22 = .ok (.aload_n 0, 1) := by decide +kernel
theorem dX7_readParts_23 : decode cX7_readParts 23 = .ok (.ldc 66, 2) := by decide +kernel
theorem dX7_readParts_25 : decode cX7_readParts 25 = .ok (.invokevirtual 39, 3) := by decide +kernel
theorem dX7_readParts_28 : decode cX7_readParts 28 = .ok (.istore_n 3, 1) := by decide +kernel
theorem dX7_readParts_29 : decode cX7_readParts 29 = .ok (.iload_n 3, 1) := by decide +kernel
theorem dX7_readParts_30 : decode cX7_readParts 30 = .ok (.iconst (-1), 1) := by decide +kernel
theorem dX7_readParts_31 : decode cX7_readParts 31 = .ok (.if_icmp .ne 5, 3) := by decide +kernel
theorem dX7_readParts_34 : decode cX7_readParts 34 = .ok (.iload_n 1, 1) := by decide +kernel
theorem dX7_readParts_35 : decode cX7_readParts 35 = .ok (.ireturn, 1) := by decide +kernel
theorem dX7_readParts_36 : decode cX7_readParts 36 = .ok (.iload_n 1, 1) := by decide +kernel
theorem dX7_readParts_37 : decode cX7_readParts 37 = .ok (.iload_n 3, 1) := by decide +kernel
theorem dX7_readParts_38 : decode cX7_readParts 38 = .ok (.ishr, 1) := by decide +kernel
theorem dX7_readParts_39 : decode cX7_readParts 39 = .ok (.iconst 1, 1) := by decide +kernel
theorem dX7_readParts_40 : decode cX7_readParts 40 = .ok (.iand, 1) := by decide +kernel
theorem dX7_readParts_41 : decode cX7_readParts 41 = .ok (.iconst 1, 1) := by decide +kernel
theorem dX7_readParts_42 : decode cX7_readParts 42 = .ok (.if_icmp .ne 8, 3) := by decide +kernel
theorem dX7_readParts_45 : decode cX7_readParts 45 = .ok (.aload_n 0, 1) := by decide +kernel
theorem dX7_readParts_46 : decode cX7_readParts 46 = .ok (.iconst 4, 1) := by decide +kernel
theorem dX7_readParts_47 : decode cX7_readParts 47 = .ok (.invokevirtual 43, 3) := by decide +kernel
theorem dX7_readParts_50 : decode cX7_readParts 50 = .ok (.iload_n 1, 1) := by decide +kernel
theorem dX7_readParts_51 : decode cX7_readParts 51 = .ok (.iconst 1, 1) := by decide +kernel
theorem dX7_readParts_52 : decode cX7_readParts 52 = .ok (.iload_n 3, 1) := by decide +kernel
theorem dX7_readParts_53 : decode cX7_readParts 53 = .ok (.ishl, 1) := by decide +kernel
theorem dX7_readParts_54 : decode cX7_readParts 54 = .ok (.ior, 1) := by decide +kernel
theorem dX7_readParts_55 : decode cX7_readParts 55 = .ok (.istore_n 1, 1) := by decide +kernel
theorem dX7_readParts_56 : decode cX7_readParts 56 = .ok (.iinc 2 1, 3) := by decide +kernel
theorem dX7_readParts_59 : decode cX7_readParts 59 = .ok (.goto (-55), 3) := by decide +kernel
theorem dX7_readParts_62 : decode cX7_readParts 62 = .ok (.iload_n 1, 1) := by decide +kernel
theorem dX7_readParts_63 : decode cX7_readParts 63 = .ok (.ireturn, 1) := by decide +kernel
theorem dX7_isBeyond_0 : decode cX7_isBeyond 0 = .ok (.iload_n 1, 1) := by decide +kernel
theorem dX7_isBeyond_1 : decode cX7_isBeyond 1 = .ok (.iconst 0, 1) := by decide +kernel
theorem dX7_isBeyond_2 : decode cX7_isBeyond 2 = .ok (.aload_n 0, 1) := by decide +kernel
theorem dX7_isBeyond_3 : decode cX7_isBeyond 3 = .ok (.getfield 24, 3) := by decide +kernel
theorem dX7_isBeyond_6 : decode cX7_isBeyond 6 = .ok (.iconst 1, 1) := by decide +kernel
theorem dX7_isBeyond_7 : decode cX7_isBeyond 7 = .ok (.isub, 1) := by decide +kernel
theorem dX7_isBeyond_8 : decode cX7_isBeyond 8 = .ok (.invokestatic 68, 3) := by decide +kernel
theorem dX7_isBeyond_11 : decode cX7_isBeyond 11 = .ok (.ifCond .eq 18, 3) := by decide +kernel
theorem dX7_isBeyond_14 : decode cX7_isBeyond 14 = .ok (.aload_n 0, 1) := by decide +kernel
theorem dX7_isBeyond_15 : decode cX7_isBeyond 15 = .ok (.getfield 21, 3) := by decide +kernel
theorem dX7_isBeyond_18 : decode cX7_isBeyond 18 = .ok (.iload_n 1, 1) := by decide +kernel
theorem dX7_isBeyond_19 : decode cX7_isBeyond 19 = .ok (.iaload, 1) := by decide +kernel
theorem dX7_isBeyond_20 : decode cX7_isBeyond 20 = .ok (.iload_n 2, 1) := by decide +kernel
theorem dX7_isBeyond_21 : decode cX7_isBeyond 21 = .ok (.iand, 1) := by decide +kernel
theorem dX7_isBeyond_22 : decode cX7_isBeyond 22 = .ok (.ifCond .eq 7, 3) := by decide +kernel
theorem dX7_isBeyond_25 : decode cX7_isBeyond 25 = .ok (.iconst 1, 1) := by decide +kernel
theorem dX7_isBeyond_26 : decode cX7_isBeyond 26 = .ok (.goto 4, 3) := by decide +kernel
theorem dX7_isBeyond_29 : decode cX7_isBeyond 29 = .ok (.iconst 0, 1) := by decide +kernel
theorem dX7_isBeyond_30 : decode cX7_isBeyond 30 = .ok (.ireturn, 1) := by decide +kernel
theorem dX7_percent_0 : decode cX7_percent 0 = .ok (.iload_n 1, 1) := by decide +kernel
theorem dX7_percent_1 : decode cX7_percent 1 = .ok (.iconst 0, 1) := by decide +kernel
theorem dX7_percent_2 : decode cX7_percent 2 = .ok (.aload_n 0, 1) := by decide +kernel
theorem dX7_percent_3 : decode cX7_percent 3 = .ok (.getfield 24, 3) := by decide +kernel
theorem dX7_percent_6 : decode cX7_percent 6 = .ok (.iconst 1, 1) := by decide +kernel
theorem dX7_percent_7 : decode cX7_percent 7 = .ok (.isub, 1) := by decide +kernel
theorem dX7_percent_8 : decode cX7_percent 8 = .ok (.invokestatic 68, 3) := by decide +kernel
theorem dX7_percent_11 : decode cX7_percent 11 = .ok (.ifCond .ne 5, 3) := by decide +kernel
theorem dX7_percent_14 : decode cX7_percent 14 = .ok (.iconst 0, 1) := by decide +kernel
theorem dX7_percent_15 : decode cX7_percent 15 = .ok (.ireturn, 1) := by decide +kernel
theorem dX7_percent_16 : decode cX7_percent 16 = .ok (.aload_n 0, 1) := by decide +kernel
theorem dX7_percent_17 : decode cX7_percent 17 = .ok (.iload_n 1, 1) := by decide +kernel
theorem dX7_percent_18 : decode cX7_percent 18 = .ok (.iload_n 2, 1) := by decide +kernel
theorem dX7_percent_19 : decode cX7_percent 19 = .ok (.invokevirtual 72, 3) := by decide +kernel
theorem dX7_percent_22 : decode cX7_percent 22 = .ok (.ifCond .eq 26, 3) := by decide +kernel
theorem dX7_percent_25 : decode cX7_percent 25 = .ok (.iload_n 3, 1) := by decide +kernel
theorem dX7_percent_26 : decode cX7_percent 26 = .ok (.ifCond .eq 12, 3) := by decide +kernel
theorem dX7_percent_29 : decode cX7_percent 29 = .ok (.aload_n 0, 1) := by decide +kernel
theorem dX7_percent_30 : decode cX7_percent 30 = .ok (.getfield 18, 3) := by decide +kernel
theorem dX7_percent_33 : decode cX7_percent 33 = .ok (.iload_n 1, 1) := by decide +kernel
theorem dX7_percent_34 : decode cX7_percent 34 = .ok (.iaload, 1) := by decide +kernel
theorem dX7_percent_35 : decode cX7_percent 35 = .ok (.goto 12, 3) := by decide +kernel
theorem dX7_percent_38 : decode cX7_percent 38 = .ok (.bipush 100, 2) := by decide +kernel
theorem dX7_percent_40 : decode cX7_percent 40 = .ok (.aload_n 0, 1) := by decide +kernel
theorem dX7_percent_41 : decode cX7_percent 41 = .ok (.getfield 18, 3) := by decide +kernel
theorem dX7_percent_44 : decode cX7_percent 44 = .ok (.iload_n 1, 1) := by decide +kernel
theorem dX7_percent_45 : decode cX7_percent 45 = .ok (.iaload, 1) := by decide +kernel
theorem dX7_percent_46 : decode cX7_percent 46 = .ok (.isub, 1) := by decide +kernel
theorem dX7_percent_47 : decode cX7_percent 47 = .ok (.ireturn, 1) := by decide +kernel
theorem dX7_percent_48 : decode cX7_percent 48 = .ok (.iload_n 3, 1) := by decide +kernel
theorem dX7_percent_49 : decode cX7_percent 49 = .ok (.ifCond .eq 15, 3) := by decide +kernel
theorem dX7_percent_52 : decode cX7_percent 52 = .ok (.bipush 100, 2) := by decide +kernel
theorem dX7_percent_54 : decode cX7_percent 54 = .ok (.aload_n 0, 1) := by decide +kernel
theorem dX7_percent_55 : decode cX7_percent 55 = .ok (.getfield 15, 3) := by decide +kernel
theorem dX7_percent_58 : decode cX7_percent 58 = .ok (.iload_n 1, 1) := by decide +kernel
theorem dX7_percent_59 : decode cX7_percent 59 = .ok (.iaload, 1) := by decide +kernel
theorem dX7_percent_60 : decode cX7_percent 60 = .ok (.isub, 1) := by decide +kernel
theorem dX7_percent_61 : decode cX7_percent 61 = .ok (.goto 9, 3) := by decide +kernel
theorem dX7_percent_64 : decode cX7_percent 64 = .ok (.aload_n 0, 1) := by decide +kernel
theorem dX7_percent_65 : decode cX7_percent 65 = .ok (.getfield 15, 3) := by decide +kernel
theorem dX7_percent_68 : decode cX7_percent 68 = .ok (.iload_n 1, 1) := by decide +kernel
theorem dX7_percent_69 : decode cX7_percent 69 = .ok (.iaload, 1) := by decide +kernel
theorem dX7_percent_70 : decode cX7_percent 70 = .ok (.ireturn, 1) := by decide +kernel
theorem dX7_canPart_0 : decode cX7_canPart 0 = .ok (.iconst 0, 1) := by decide +kernel
theorem dX7_canPart_1 : decode cX7_canPart 1 = .ok (.istore_n 3, 1) := by decide +kernel
theorem dX7_canPart_2 : decode cX7_canPart 2 = .ok (.iload_n 3, 1) := by decide +kernel
theorem dX7_canPart_3 : decode cX7_canPart 3 = .ok (.aload_n 0, 1) := by decide +kernel
theorem dX7_canPart_4 : decode cX7_canPart 4 = .ok (.getfield 24, 3) := by decide +kernel
theorem dX7_canPart_7 : decode cX7_canPart 7 = .ok (.if_icmp .ge 26, 3) := by decide +kernel
theorem dX7_canPart_10 : decode cX7_canPart 10 = .ok (.aload_n 0, 1) := by decide +kernel
theorem dX7_canPart_11 : decode cX7_canPart 11 = .ok (.iload_n 3, 1) := by decide +kernel
theorem dX7_canPart_12 : decode cX7_canPart 12 = .ok (.iload_n 1, 1) := by decide +kernel
theorem dX7_canPart_13 : decode cX7_canPart 13 = .ok (.invokevirtual 72, 3) := by decide +kernel
theorem dX7_canPart_16 : decode cX7_canPart 16 = .ok (.aload_n 0, 1) := by decide +kernel
theorem dX7_canPart_17 : decode cX7_canPart 17 = .ok (.iload_n 3, 1) := by decide +kernel
theorem dX7_canPart_18 : decode cX7_canPart 18 = .ok (.iload_n 2, 1) := by decide +kernel
theorem dX7_canPart_19 : decode cX7_canPart 19 = .ok (.invokevirtual 72, 3) := by decide +kernel
theorem dX7_canPart_22 : decode cX7_canPart 22 = .ok (.if_icmp .eq 5, 3) := by decide +kernel
theorem dX7_canPart_25 : decode cX7_canPart 25 = .ok (.iconst 1, 1) := by decide +kernel
theorem dX7_canPart_26 : decode cX7_canPart 26 = .ok (.ireturn, 1) := by decide +kernel
theorem dX7_canPart_27 : decode cX7_canPart 27 = .ok (.iinc 3 1, 3) := by decide +kernel
theorem dX7_canPart_30 : decode cX7_canPart 30 = .ok (.goto (-28), 3) := by decide +kernel
theorem dX7_canPart_33 : decode cX7_canPart 33 = .ok (.iconst 0, 1) := by decide +kernel
theorem dX7_canPart_34 : decode cX7_canPart 34 = .ok (.ireturn, 1) := by decide +kernel
theorem dX8_init_0 : decode cX8_init 0 = .ok (.aload_n 0, 1) := by decide +kernel
theorem dX8_init_1 : decode cX8_init 1 = .ok (.invokespecial 1, 3) := by decide +kernel
theorem dX8_init_4 : decode cX8_init 4 = .ok (.aload_n 0, 1) := by decide +kernel
theorem dX8_init_5 : decode cX8_init 5 = .ok (.new 7, 3) := by decide +kernel
theorem dX8_init_8 : decode cX8_init 8 = .ok (.dup, 1) := by decide +kernel
theorem dX8_init_9 : decode cX8_init 9 = .ok (.invokespecial 9, 3) := by decide +kernel
theorem dX8_init_12 : decode cX8_init 12 = .ok (.putfield 10, 3) := by decide +kernel
theorem dX8_init_15 : decode cX8_init 15 = .ok (.aload_n 0, 1) := by decide +kernel
theorem dX8_init_16 : decode cX8_init 16 = .ok (.new 16, 3) := by decide +kernel
theorem dX8_init_19 : decode cX8_init 19 = .ok (.dup, 1) := by decide +kernel
theorem dX8_init_20 : decode cX8_init 20 = .ok (.invokespecial 18, 3) := by decide +kernel
theorem dX8_init_23 : decode cX8_init 23 = .ok (.putfield 19, 3) := by decide +kernel
theorem dX8_init_26 : decode cX8_init 26 = .ok (.aload_n 0, 1) := by decide +kernel
theorem dX8_init_27 : decode cX8_init 27 = .ok (.new 16, 3) := by decide +kernel
theorem dX8_init_30 : decode cX8_init 30 = .ok (.dup, 1) := by decide +kernel
theorem dX8_init_31 : decode cX8_init 31 = .ok (.invokespecial 18, 3) := by decide +kernel
theorem dX8_init_34 : decode cX8_init 34 = .ok (.putfield 23, 3) := by decide +kernel
theorem dX8_init_37 : decode cX8_init 37 = .ok (.aload_n 0, 1) := by decide +kernel
theorem dX8_init_38 : decode cX8_init 38 = .ok (.new 26, 3) := by decide +kernel
theorem dX8_init_41 : decode cX8_init 41 = .ok (.dup, 1) := by decide +kernel
theorem dX8_init_42 : decode cX8_init 42 = .ok (.invokespecial 28, 3) := by decide +kernel
theorem dX8_init_45 : decode cX8_init 45 = .ok (.putfield 29, 3) := by decide +kernel
theorem dX8_init_48 : decode cX8_init 48 = .ok (.aload_n 0, 1) := by decide +kernel
theorem dX8_init_49 : decode cX8_init 49 = .ok (.new 26, 3) := by decide +kernel
theorem dX8_init_52 : decode cX8_init 52 = .ok (.dup, 1) := by decide +kernel
theorem dX8_init_53 : decode cX8_init 53 = .ok (.invokespecial 28, 3) := by decide +kernel
theorem dX8_init_56 : decode cX8_init 56 = .ok (.putfield 33, 3) := by decide +kernel
theorem dX8_init_59 : decode cX8_init 59 = .ok (.aload_n 0, 1) := by decide +kernel
theorem dX8_init_60 : decode cX8_init 60 = .ok (.invokestatic 36, 3) := by decide +kernel
theorem dX8_init_63 : decode cX8_init 63 = .ok (.putfield 40, 3) := by decide +kernel
theorem dX8_init_66 : decode cX8_init 66 = .ok (.aload_n 0, 1) := by decide +kernel
theorem dX8_init_67 : decode cX8_init 67 = .ok (.new 44, 3) := by decide +kernel
theorem dX8_init_70 : decode cX8_init 70 = .ok (.dup, 1) := by decide +kernel
theorem dX8_init_71 : decode cX8_init 71 = .ok (.invokespecial 46, 3) := by decide +kernel
theorem dX8_init_74 : decode cX8_init 74 = .ok (.putfield 47, 3) := by decide +kernel
theorem dX8_init_77 : decode cX8_init 77 = .ok (.aload_n 0, 1) := by decide +kernel
theorem dX8_init_78 : decode cX8_init 78 = .ok (.iconst 2, 1) := by decide +kernel
theorem dX8_init_79 : decode cX8_init 79 = .ok (.anewarray 44, 3) := by decide +kernel
theorem dX8_init_82 : decode cX8_init 82 = .ok (.dup, 1) := by decide +kernel
theorem dX8_init_83 : decode cX8_init 83 = .ok (.iconst 0, 1) := by decide +kernel
theorem dX8_init_84 : decode cX8_init 84 = .ok (.new 44, 3) := by decide +kernel
theorem dX8_init_87 : decode cX8_init 87 = .ok (.dup, 1) := by decide +kernel
theorem dX8_init_88 : decode cX8_init 88 = .ok (.invokespecial 46, 3) := by decide +kernel
theorem dX8_init_91 : decode cX8_init 91 = .ok (.aastore, 1) := by decide +kernel
theorem dX8_init_92 : decode cX8_init 92 = .ok (.dup, 1) := by decide +kernel
theorem dX8_init_93 : decode cX8_init 93 = .ok (.iconst 1, 1) := by decide +kernel
theorem dX8_init_94 : decode cX8_init 94 = .ok (.new 44, 3) := by decide +kernel
theorem dX8_init_97 : decode cX8_init 97 = .ok (.dup, 1) := by decide +kernel
theorem dX8_init_98 : decode cX8_init 98 = .ok (.invokespecial 46, 3) := by decide +kernel
theorem dX8_init_101 : decode cX8_init 101 = .ok (.aastore, 1) := by decide +kernel
theorem dX8_init_102 : decode cX8_init 102 = .ok (.putfield 51, 3) := by decide +kernel
theorem dX8_init_105 : decode cX8_init 105 = .ok (.aload_n 0, 1) := by decide +kernel
theorem dX8_init_106 : decode cX8_init 106 = .ok (.new 55, 3) := by decide +kernel
theorem dX8_init_109 : decode cX8_init 109 = .ok (.dup, 1) := by decide +kernel
theorem dX8_init_110 : decode cX8_init 110 = .ok (.invokespecial 57, 3) := by decide +kernel
theorem dX8_init_113 : decode cX8_init 113 = .ok (.putfield 58, 3) := by decide +kernel
theorem dX8_init_116 : decode cX8_init 116 = .ok (.aload_n 0, 1) := by decide +kernel
theorem dX8_init_117 : decode cX8_init 117 = .ok (.new 62, 3) := by decide +kernel
theorem dX8_init_120 : decode cX8_init 120 = .ok (.dup, 1) := by decide +kernel
theorem dX8_init_121 : decode cX8_init 121 = .ok (.invokespecial 64, 3) := by decide +kernel
theorem dX8_init_124 : decode cX8_init 124 = .ok (.putfield 65, 3) := by decide +kernel
theorem dX8_init_127 : decode cX8_init 127 = .ok (.aload_n 0, 1) := by decide +kernel
theorem dX8_init_128 : decode cX8_init 128 = .ok (.bipush 40, 2) := by decide +kernel
theorem dX8_init_130 : decode cX8_init 130 = .ok (.newarray .int, 2) := by decide +kernel
theorem dX8_init_132 : decode cX8_init 132 = .ok (.putfield 69, 3) := by decide +kernel
theorem dX8_init_135 : decode cX8_init 135 = .ok (.aload_n 0, 1) := by decide +kernel
theorem dX8_init_136 : decode cX8_init 136 = .ok (.iconst 0, 1) := by decide +kernel
theorem dX8_init_137 : decode cX8_init 137 = .ok (.putfield 73, 3) := by decide +kernel
theorem dX8_init_140 : decode cX8_init 140 = .ok (.aload_n 0, 1) := by decide +kernel
theorem dX8_init_141 : decode cX8_init 141 = .ok (.new 77, 3) := by decide +kernel
theorem dX8_init_144 : decode cX8_init 144 = .ok (.dup, 1) := by decide +kernel
theorem dX8_init_145 : decode cX8_init 145 = .ok (.invokespecial 79, 3) := by decide +kernel
theorem dX8_init_148 : decode cX8_init 148 = .ok (.putfield 80, 3) := by decide +kernel
theorem dX8_init_151 : decode cX8_init 151 = .ok (.aload_n 0, 1) := by decide +kernel
theorem dX8_init_152 : decode cX8_init 152 = .ok (.new 84, 3) := by decide +kernel
theorem dX8_init_155 : decode cX8_init 155 = .ok (.dup, 1) := by decide +kernel
theorem dX8_init_156 : decode cX8_init 156 = .ok (.invokespecial 86, 3) := by decide +kernel
theorem dX8_init_159 : decode cX8_init 159 = .ok (.putfield 87, 3) := by decide +kernel
theorem dX8_init_162 : decode cX8_init 162 = .ok (.return_, 1) := by decide +kernel
theorem dX8_feed_0 : decode cX8_feed 0 = .ok (.iload_n 1, 1) := by decide +kernel
theorem dX8_feed_1 : decode cX8_feed 1 = .ok (.iconst 1, 1) := by decide +kernel
theorem dX8_feed_2 : decode cX8_feed 2 = .ok (.bipush 8, 2) := by decide +kernel
theorem dX8_feed_4 : decode cX8_feed 4 = .ok (.invokestatic 91, 3) := by decide +kernel
theorem dX8_feed_7 : decode cX8_feed 7 = .ok (.ifCond .ne 6, 3) := by decide +kernel
theorem dX8_feed_10 : decode cX8_feed 10 = .ok (.ldc 95, 2) := by decide +kernel
theorem dX8_feed_12 : decode cX8_feed 12 = .ok (.ireturn, 1) := by decide +kernel
theorem dX8_feed_13 : decode cX8_feed 13 = .ok (.aload_n 0, 1) := by decide +kernel
theorem dX8_feed_14 : decode cX8_feed 14 = .ok (.getfield 10, 3) := by decide +kernel
theorem dX8_feed_17 : decode cX8_feed 17 = .ok (.getfield 96, 3) := by decide +kernel
theorem dX8_feed_20 : decode cX8_feed 20 = .ok (.iload_n 1, 1) := by decide +kernel
theorem dX8_feed_21 : decode cX8_feed 21 = .ok (.iadd, 1) := by decide +kernel
theorem dX8_feed_22 : decode cX8_feed 22 = .ok (.sipush 400, 3) := by decide +kernel
theorem dX8_feed_25 : decode cX8_feed 25 = .ok (.if_icmp .le 6, 3) := by decide +kernel
theorem dX8_feed_28 : decode cX8_feed 28 = .ok (.ldc 99, 2) := by decide +kernel
theorem dX8_feed_30 : decode cX8_feed 30 = .ok (.ireturn, 1) := by decide +kernel
theorem dX8_feed_31 : decode cX8_feed 31 = .ok (.iload_n 1, 1) := by decide +kernel
theorem dX8_feed_32 : decode cX8_feed 32 = .ok (.iconst 1, 1) := by decide +kernel
theorem dX8_feed_33 : decode cX8_feed 33 = .ok (.isub, 1) := by decide +kernel
theorem dX8_feed_34 : decode cX8_feed 34 = .ok (.istore 4, 2) := by decide +kernel
theorem dX8_feed_36 : decode cX8_feed 36 = .ok (.iload 4, 2) := by decide +kernel
theorem dX8_feed_38 : decode cX8_feed 38 = .ok (.ifCond .lt 25, 3) := by decide +kernel
theorem dX8_feed_41 : decode cX8_feed 41 = .ok (.aload_n 0, 1) := by decide +kernel
theorem dX8_feed_42 : decode cX8_feed 42 = .ok (.getfield 10, 3) := by decide +kernel
theorem dX8_feed_45 : decode cX8_feed 45 = .ok (.lload_n 2, 1) := by decide +kernel
theorem dX8_feed_46 : decode cX8_feed 46 = .ok (.bipush 8, 2) := by decide +kernel
theorem dX8_feed_48 : decode cX8_feed 48 = .ok (.iload 4, 2) := by decide +kernel
theorem dX8_feed_50 : decode cX8_feed 50 = .ok (.imul, 1) := by decide +kernel
theorem dX8_feed_51 : decode cX8_feed 51 = .ok (.lushr, 1) := by decide +kernel
theorem dX8_feed_52 : decode cX8_feed 52 = .ok (.l2i, 1) := by decide +kernel
theorem dX8_feed_53 : decode cX8_feed 53 = .ok (.i2b, 1) := by decide +kernel
theorem dX8_feed_54 : decode cX8_feed 54 = .ok (.invokevirtual 100, 3) := by decide +kernel
theorem dX8_feed_57 : decode cX8_feed 57 = .ok (.iinc 4 (-1), 3) := by decide +kernel
theorem dX8_feed_60 : decode cX8_feed 60 = .ok (.goto (-24), 3) := by decide +kernel
theorem dX8_feed_63 : decode cX8_feed 63 = .ok (.aload_n 0, 1) := by decide +kernel
theorem dX8_feed_64 : decode cX8_feed 64 = .ok (.getfield 10, 3) := by decide +kernel
theorem dX8_feed_67 : decode cX8_feed 67 = .ok (.getfield 96, 3) := by decide +kernel
theorem dX8_feed_70 : decode cX8_feed 70 = .ok (.ireturn, 1) := by decide +kernel
theorem dX8_tune_0 : decode cX8_tune 0 = .ok (.aload_n 0, 1) := by decide +kernel
theorem dX8_tune_1 : decode cX8_tune 1 = .ok (.getfield 23, 3) := by decide +kernel
theorem dX8_tune_4 : decode cX8_tune 4 = .ok (.aload_n 0, 1) := by decide +kernel
theorem dX8_tune_5 : decode cX8_tune 5 = .ok (.getfield 10, 3) := by decide +kernel
theorem dX8_tune_8 : decode cX8_tune 8 = .ok (.invokevirtual 104, 3) := by decide +kernel
theorem dX8_tune_11 : decode cX8_tune 11 = .ok (.aload_n 0, 1) := by decide +kernel
theorem dX8_tune_12 : decode cX8_tune 12 = .ok (.getfield 10, 3) := by decide +kernel
theorem dX8_tune_15 : decode cX8_tune 15 = .ok (.invokevirtual 108, 3) := by decide +kernel
theorem dX8_tune_18 : decode cX8_tune 18 = .ok (.aload_n 0, 1) := by decide +kernel
theorem dX8_tune_19 : decode cX8_tune 19 = .ok (.getfield 10, 3) := by decide +kernel
theorem dX8_tune_22 : decode cX8_tune 22 = .ok (.invokevirtual 111, 3) := by decide +kernel
theorem dX8_tune_25 : decode cX8_tune 25 = .ok (.ifCond .eq 14, 3) := by decide +kernel
theorem dX8_tune_28 : decode cX8_tune 28 = .ok (.bipush (-10), 2) := by decide +kernel
theorem dX8_tune_30 : decode cX8_tune 30 = .ok (.aload_n 0, 1) := by decide +kernel
theorem dX8_tune_31 : decode cX8_tune 31 = .ok (.getfield 10, 3) := by decide +kernel
theorem dX8_tune_34 : decode cX8_tune 34 = .ok (.getfield 115, 3) := by decide +kernel
theorem dX8_tune_37 : decode cX8_tune 37 = .ok (.isub, 1) := by decide +kernel
theorem dX8_tune_38 : decode cX8_tune 38 = .ok (.ireturn, 1) := by decide +kernel
theorem dX8_tune_39 : decode cX8_tune 39 = .ok (.aload_n 0, 1) := by decide +kernel
theorem dX8_tune_40 : decode cX8_tune 40 = .ok (.getfield 19, 3) := by decide +kernel
theorem dX8_tune_43 : decode cX8_tune 43 = .ok (.astore_n 1, 1) := by decide +kernel
theorem dX8_tune_44 : decode cX8_tune 44 = .ok (.aload_n 0, 1) := by decide +kernel
theorem dX8_tune_45 : decode cX8_tune 45 = .ok (.aload_n 0, 1) := by decide +kernel
theorem dX8_tune_46 : decode cX8_tune 46 = .ok (.getfield 23, 3) := by decide +kernel
theorem dX8_tune_49 : decode cX8_tune 49 = .ok (.putfield 19, 3) := by decide +kernel
theorem dX8_tune_52 : decode cX8_tune 52 = .ok (.aload_n 0, 1) := by decide +kernel
theorem dX8_tune_53 : decode cX8_tune 53 = .ok (.aload_n 1, 1) := by decide +kernel
theorem dX8_tune_54 : decode cX8_tune 54 = .ok (.putfield 23, 3) := by decide +kernel
theorem dX8_tune_57 : decode cX8_tune 57 = .ok (.aload_n 0, 1) := by decide +kernel
theorem dX8_tune_58 : decode cX8_tune 58 = .ok (.invokevirtual 118, 3) := by decide +kernel
theorem dX8_tune_61 : decode cX8_tune 61 = .ok (.aload_n 0, 1) := by decide +kernel
theorem dX8_tune_62 : decode cX8_tune 62 = .ok (.invokevirtual 121, 3) := by decide +kernel
theorem dX8_tune_65 : decode cX8_tune 65 = .ok (.aload_n 0, 1) := by decide +kernel
theorem dX8_tune_66 : decode cX8_tune 66 = .ok (.getfield 19, 3) := by decide +kernel
theorem dX8_tune_69 : decode cX8_tune 69 = .ok (.getfield 124, 3) := by decide +kernel
theorem dX8_tune_72 : decode cX8_tune 72 = .ok (.ireturn, 1) := by decide +kernel
theorem dX8_singers_0 : decode cX8_singers 0 = .ok (.aload_n 0, 1) := by decide +kernel
theorem dX8_singers_1 : decode cX8_singers 1 = .ok (.invokevirtual 127, 3) := by decide +kernel
theorem dX8_singers_4 : decode cX8_singers 4 = .ok (.istore_n 1, 1) := by decide +kernel
theorem dX8_singers_5 : decode cX8_singers 5 = .ok (.aload_n 0, 1) := by decide +kernel
theorem dX8_singers_6 : decode cX8_singers 6 = .ok (.getfield 10, 3) := by decide +kernel
theorem dX8_singers_9 : decode cX8_singers 9 = .ok (.invokevirtual 108, 3) := by decide +kernel
theorem dX8_singers_12 : decode cX8_singers 12 = .ok (.aload_n 0, 1) := by decide +kernel
theorem dX8_singers_13 : decode cX8_singers 13 = .ok (.getfield 10, 3) := by decide +kernel
theorem dX8_singers_16 : decode cX8_singers 16 = .ok (.invokevirtual 111, 3) := by decide +kernel
theorem dX8_singers_19 : decode cX8_singers 19 = .ok (.ifCond .eq 14, 3) := by decide +kernel
theorem dX8_singers_22 : decode cX8_singers 22 = .ok (.bipush (-10), 2) := by decide +kernel
theorem dX8_singers_24 : decode cX8_singers 24 = .ok (.aload_n 0, 1) := by decide +kernel
theorem dX8_singers_25 : decode cX8_singers 25 = .ok (.getfield 10, 3) := by decide +kernel
theorem dX8_singers_28 : decode cX8_singers 28 = .ok (.getfield 115, 3) := by decide +kernel
theorem dX8_singers_31 : decode cX8_singers 31 = .ok (.isub, 1) := by decide +kernel
theorem dX8_singers_32 : decode cX8_singers 32 = .ok (.ireturn, 1) := by decide +kernel
theorem dX8_singers_33 : decode cX8_singers 33 = .ok (.aload_n 0, 1) := by decide +kernel
theorem dX8_singers_34 : decode cX8_singers 34 = .ok (.getfield 47, 3) := by decide +kernel
theorem dX8_singers_37 : decode cX8_singers 37 = .ok (.getfield 131, 3) := by decide +kernel
theorem dX8_singers_40 : decode cX8_singers 40 = .ok (.astore_n 2, 1) := by decide +kernel
theorem dX8_singers_41 : decode cX8_singers 41 = .ok (.aload_n 0, 1) := by decide +kernel
theorem dX8_singers_42 : decode cX8_singers 42 = .ok (.getfield 47, 3) := by decide +kernel
theorem dX8_singers_45 : decode cX8_singers 45 = .ok (.aload_n 0, 1) := by decide +kernel
theorem dX8_singers_46 : decode cX8_singers 46 = .ok (.getfield 40, 3) := by decide +kernel
theorem dX8_singers_49 : decode cX8_singers 49 = .ok (.putfield 131, 3) := by decide +kernel
theorem dX8_singers_52 : decode cX8_singers 52 = .ok (.aload_n 0, 1) := by decide +kernel
theorem dX8_singers_53 : decode cX8_singers 53 = .ok (.getfield 47, 3) := by decide +kernel
theorem dX8_singers_56 : decode cX8_singers 56 = .ok (.iload_n 1, 1) := by decide +kernel
theorem dX8_singers_57 : decode cX8_singers 57 = .ok (.putfield 134, 3) := by decide +kernel
theorem dX8_singers_60 : decode cX8_singers 60 = .ok (.aload_n 0, 1) := by decide +kernel
theorem dX8_singers_61 : decode cX8_singers 61 = .ok (.aload_n 2, 1) := by decide +kernel
theorem dX8_singers_62 : decode cX8_singers 62 = .ok (.putfield 40, 3) := by decide +kernel
theorem dX8_singers_65 : decode cX8_singers 65 = .ok (.aload_n 0, 1) := by decide +kernel
theorem dX8_singers_66 : decode cX8_singers 66 = .ok (.invokevirtual 118, 3) := by decide +kernel
theorem dX8_singers_69 : decode cX8_singers 69 = .ok (.aload_n 0, 1) := by decide +kernel
theorem dX8_singers_70 : decode cX8_singers 70 = .ok (.invokevirtual 121, 3) := by decide +kernel
theorem dX8_singers_73 : decode cX8_singers 73 = .ok (.iload_n 1, 1) := by decide +kernel
theorem dX8_singers_74 : decode cX8_singers 74 = .ok (.ireturn, 1) := by decide +kernel
theorem dX8_tasks_0 : decode cX8_tasks 0 = .ok (.aload_n 0, 1) := by decide +kernel
theorem dX8_tasks_1 : decode cX8_tasks 1 = .ok (.getfield 33, 3) := by decide +kernel
theorem dX8_tasks_4 : decode cX8_tasks 4 = .ok (.aload_n 0, 1) := by decide +kernel
theorem dX8_tasks_5 : decode cX8_tasks 5 = .ok (.getfield 10, 3) := by decide +kernel
theorem dX8_tasks_8 : decode cX8_tasks 8 = .ok (.invokevirtual 137, 3) := by decide +kernel
theorem dX8_tasks_11 : decode cX8_tasks 11 = .ok (.aload_n 0, 1) := by decide +kernel
theorem dX8_tasks_12 : decode cX8_tasks 12 = .ok (.getfield 10, 3) := by decide +kernel
theorem dX8_tasks_15 : decode cX8_tasks 15 = .ok (.invokevirtual 108, 3) := by decide +kernel
theorem dX8_tasks_18 : decode cX8_tasks 18 = .ok (.aload_n 0, 1) := by decide +kernel
theorem dX8_tasks_19 : decode cX8_tasks 19 = .ok (.getfield 10, 3) := by decide +kernel
theorem dX8_tasks_22 : decode cX8_tasks 22 = .ok (.invokevirtual 111, 3) := by decide +kernel
theorem dX8_tasks_25 : decode cX8_tasks 25 = .ok (.ifCond .eq 14, 3) := by decide +kernel
theorem dX8_tasks_28 : decode cX8_tasks 28 = .ok (.bipush (-10), 2) := by decide +kernel
theorem dX8_tasks_30 : decode cX8_tasks 30 = .ok (.aload_n 0, 1) := by decide +kernel
theorem dX8_tasks_31 : decode cX8_tasks 31 = .ok (.getfield 10, 3) := by decide +kernel
theorem dX8_tasks_34 : decode cX8_tasks 34 = .ok (.getfield 115, 3) := by decide +kernel
theorem dX8_tasks_37 : decode cX8_tasks 37 = .ok (.isub, 1) := by decide +kernel
theorem dX8_tasks_38 : decode cX8_tasks 38 = .ok (.ireturn, 1) := by decide +kernel
theorem dX8_tasks_39 : decode cX8_tasks 39 = .ok (.aload_n 0, 1) := by decide +kernel
theorem dX8_tasks_40 : decode cX8_tasks 40 = .ok (.getfield 29, 3) := by decide +kernel
theorem dX8_tasks_43 : decode cX8_tasks 43 = .ok (.astore_n 1, 1) := by decide +kernel
theorem dX8_tasks_44 : decode cX8_tasks 44 = .ok (.aload_n 0, 1) := by decide +kernel
theorem dX8_tasks_45 : decode cX8_tasks 45 = .ok (.aload_n 0, 1) := by decide +kernel
theorem dX8_tasks_46 : decode cX8_tasks 46 = .ok (.getfield 33, 3) := by decide +kernel
theorem dX8_tasks_49 : decode cX8_tasks 49 = .ok (.putfield 29, 3) := by decide +kernel
theorem dX8_tasks_52 : decode cX8_tasks 52 = .ok (.aload_n 0, 1) := by decide +kernel
theorem dX8_tasks_53 : decode cX8_tasks 53 = .ok (.aload_n 1, 1) := by decide +kernel
theorem dX8_tasks_54 : decode cX8_tasks 54 = .ok (.putfield 33, 3) := by decide +kernel
theorem dX8_tasks_57 : decode cX8_tasks 57 = .ok (.aload_n 0, 1) := by decide +kernel
theorem dX8_tasks_58 : decode cX8_tasks 58 = .ok (.invokevirtual 138, 3) := by decide +kernel
theorem dX8_tasks_61 : decode cX8_tasks 61 = .ok (.aload_n 0, 1) := by decide +kernel
theorem dX8_tasks_62 : decode cX8_tasks 62 = .ok (.invokevirtual 121, 3) := by decide +kernel
theorem dX8_tasks_65 : decode cX8_tasks 65 = .ok (.aload_n 0, 1) := by decide +kernel
theorem dX8_tasks_66 : decode cX8_tasks 66 = .ok (.getfield 29, 3) := by decide +kernel
theorem dX8_tasks_69 : decode cX8_tasks 69 = .ok (.getfield 141, 3) := by decide +kernel
theorem dX8_tasks_72 : decode cX8_tasks 72 = .ok (.ireturn, 1) := by decide +kernel
theorem dX8_fault_0 : decode cX8_fault 0 = .ok (.aload_n 0, 1) := by decide +kernel
theorem dX8_fault_1 : decode cX8_fault 1 = .ok (.getfield 10, 3) := by decide +kernel
theorem dX8_fault_4 : decode cX8_fault 4 = .ok (.getfield 142, 3) := by decide +kernel
theorem dX8_fault_7 : decode cX8_fault 7 = .ok (.ireturn, 1) := by decide +kernel
theorem dX8_told_0 : decode cX8_told 0 = .ok (.iload_n 1, 1) := by decide +kernel
theorem dX8_told_1 : decode cX8_told 1 = .ok (.tableswitch 123 0 8 #[51, 59, 67, 75, 83, 94, 99, 107, 115], 51) := by decide +kernel
theorem dX8_told_52 : decode cX8_told 52 = .ok (.aload_n 0, 1) := by decide +kernel
theorem dX8_told_53 : decode cX8_told 53 = .ok (.getfield 19, 3) := by decide +kernel
theorem dX8_told_56 : decode cX8_told 56 = .ok (.getfield 124, 3) := by decide +kernel
theorem dX8_told_59 : decode cX8_told 59 = .ok (.ireturn, 1) := by decide +kernel
theorem dX8_told_60 : decode cX8_told 60 = .ok (.aload_n 0, 1) := by decide +kernel
theorem dX8_told_61 : decode cX8_told 61 = .ok (.getfield 47, 3) := by decide +kernel
theorem dX8_told_64 : decode cX8_told 64 = .ok (.getfield 134, 3) := by decide +kernel
theorem dX8_told_67 : decode cX8_told 67 = .ok (.ireturn, 1) := by decide +kernel
theorem dX8_told_68 : decode cX8_told 68 = .ok (.aload_n 0, 1) := by decide +kernel
theorem dX8_told_69 : decode cX8_told 69 = .ok (.getfield 29, 3) := by decide +kernel
theorem dX8_told_72 : decode cX8_told 72 = .ok (.getfield 141, 3) := by decide +kernel
theorem dX8_told_75 : decode cX8_told 75 = .ok (.ireturn, 1) := by decide +kernel
theorem dX8_told_76 : decode cX8_told 76 = .ok (.aload_n 0, 1) := by decide +kernel
theorem dX8_told_77 : decode cX8_told 77 = .ok (.getfield 10, 3) := by decide +kernel
theorem dX8_told_80 : decode cX8_told 80 = .ok (.getfield 96, 3) := by decide +kernel
theorem dX8_told_83 : decode cX8_told 83 = .ok (.ireturn, 1) := by decide +kernel
theorem dX8_told_84 : decode cX8_told 84 = .ok (.aload_n 0, 1) := by decide +kernel
theorem dX8_told_85 : decode cX8_told 85 = .ok (.getfield 47, 3) := by decide +kernel
theorem dX8_told_88 : decode cX8_told 88 = .ok (.getfield 145, 3) := by decide +kernel
theorem dX8_told_91 : decode cX8_told 91 = .ok (.getfield 148, 3) := by decide +kernel
theorem dX8_told_94 : decode cX8_told 94 = .ok (.ireturn, 1) := by decide +kernel
theorem dX8_told_95 : decode cX8_told 95 = .ok (.aload_n 0, 1) := by decide +kernel
theorem dX8_told_96 : decode cX8_told 96 = .ok (.getfield 73, 3) := by decide +kernel
theorem dX8_told_99 : decode cX8_told 99 = .ok (.ireturn, 1) := by decide +kernel
theorem dX8_told_100 : decode cX8_told 100 = .ok (.aload_n 0, 1) := by decide +kernel
theorem dX8_told_101 : decode cX8_told 101 = .ok (.getfield 65, 3) := by decide +kernel
theorem dX8_told_104 : decode cX8_told 104 = .ok (.getfield 151, 3) := by decide +kernel
theorem dX8_told_107 : decode cX8_told 107 = .ok (.ireturn, 1) := by decide +kernel
theorem dX8_told_108 : decode cX8_told 108 = .ok (.aload_n 0, 1) := by decide +kernel
theorem dX8_told_109 : decode cX8_told 109 = .ok (.getfield 47, 3) := by decide +kernel
theorem dX8_told_112 : decode cX8_told 112 = .ok (.getfield 152, 3) := by decide +kernel
theorem dX8_told_115 : decode cX8_told 115 = .ok (.ireturn, 1) := by decide +kernel
theorem dX8_told_116 : decode cX8_told 116 = .ok (.aload_n 0, 1) := by decide +kernel
theorem dX8_told_117 : decode cX8_told 117 = .ok (.getfield 47, 3) := by decide +kernel
theorem dX8_told_120 : decode cX8_told 120 = .ok (.getfield 155, 3) := by decide +kernel
theorem dX8_told_123 : decode cX8_told 123 = .ok (.ireturn, 1) := by decide +kernel
theorem dX8_told_124 : decode cX8_told 124 = .ok (.ldc 95, 2) := by decide +kernel
theorem dX8_told_126 : decode cX8_told 126 = .ok (.ireturn, 1) := by decide +kernel
theorem dX8_note_0 : decode cX8_note 0 = .ok (.iload_n 1, 1) := by decide +kernel
theorem dX8_note_1 : decode cX8_note 1 = .ok (.iconst 0, 1) := by decide +kernel
theorem dX8_note_2 : decode cX8_note 2 = .ok (.aload_n 0, 1) := by decide +kernel
theorem dX8_note_3 : decode cX8_note 3 = .ok (.getfield 19, 3) := by decide +kernel
theorem dX8_note_6 : decode cX8_note 6 = .ok (.getfield 124, 3) := by decide +kernel
theorem dX8_note_9 : decode cX8_note 9 = .ok (.iconst 1, 1) := by decide +kernel
theorem dX8_note_10 : decode cX8_note 10 = .ok (.isub, 1) := by decide +kernel
theorem dX8_note_11 : decode cX8_note 11 = .ok (.invokestatic 91, 3) := by decide +kernel
theorem dX8_note_14 : decode cX8_note 14 = .ok (.ifCond .ne 6, 3) := by decide +kernel
theorem dX8_note_17 : decode cX8_note 17 = .ok (.ldc 158, 2) := by decide +kernel
theorem dX8_note_19 : decode cX8_note 19 = .ok (.ireturn, 1) := by decide +kernel
theorem dX8_note_20 : decode cX8_note 20 = .ok (.iload_n 2, 1) := by decide +kernel
theorem dX8_note_21 : decode cX8_note 21 = .ok (.lookupswitch 47 #[(0, 27), (1, 37)], 27) := by decide +kernel
theorem dX8_note_48 : decode cX8_note 48 = .ok (.aload_n 0, 1) := by decide +kernel
theorem dX8_note_49 : decode cX8_note 49 = .ok (.getfield 19, 3) := by decide +kernel
theorem dX8_note_52 : decode cX8_note 52 = .ok (.getfield 159, 3) := by decide +kernel
theorem dX8_note_55 : decode cX8_note 55 = .ok (.iload_n 1, 1) := by decide +kernel
theorem dX8_note_56 : decode cX8_note 56 = .ok (.iaload, 1) := by decide +kernel
theorem dX8_note_57 : decode cX8_note 57 = .ok (.ireturn, 1) := by decide +kernel
theorem dX8_note_58 : decode cX8_note 58 = .ok (.aload_n 0, 1) := by decide +kernel
theorem dX8_note_59 : decode cX8_note 59 = .ok (.getfield 19, 3) := by decide +kernel
theorem dX8_note_62 : decode cX8_note 62 = .ok (.getfield 162, 3) := by decide +kernel
theorem dX8_note_65 : decode cX8_note 65 = .ok (.iload_n 1, 1) := by decide +kernel
theorem dX8_note_66 : decode cX8_note 66 = .ok (.iaload, 1) := by decide +kernel
theorem dX8_note_67 : decode cX8_note 67 = .ok (.ireturn, 1) := by decide +kernel
theorem dX8_note_68 : decode cX8_note 68 = .ok (.ldc 95, 2) := by decide +kernel
theorem dX8_note_70 : decode cX8_note 70 = .ok (.ireturn, 1) := by decide +kernel
theorem dX8_singer_0 : decode cX8_singer 0 = .ok (.aload_n 0, 1) := by decide +kernel
theorem dX8_singer_1 : decode cX8_singer 1 = .ok (.iload_n 1, 1) := by decide +kernel
theorem dX8_singer_2 : decode cX8_singer 2 = .ok (.invokevirtual 165, 3) := by decide +kernel
theorem dX8_singer_5 : decode cX8_singer 5 = .ok (.ifCond .ne 6, 3) := by decide +kernel
theorem dX8_singer_8 : decode cX8_singer 8 = .ok (.ldc 158, 2) := by decide +kernel
theorem dX8_singer_10 : decode cX8_singer 10 = .ok (.ireturn, 1) := by decide +kernel
theorem dX8_singer_11 : decode cX8_singer 11 = .ok (.aload_n 0, 1) := by decide +kernel
theorem dX8_singer_12 : decode cX8_singer 12 = .ok (.getfield 47, 3) := by decide +kernel
theorem dX8_singer_15 : decode cX8_singer 15 = .ok (.getfield 131, 3) := by decide +kernel
theorem dX8_singer_18 : decode cX8_singer 18 = .ok (.iload_n 1, 1) := by decide +kernel
theorem dX8_singer_19 : decode cX8_singer 19 = .ok (.aaload, 1) := by decide +kernel
theorem dX8_singer_20 : decode cX8_singer 20 = .ok (.astore_n 3, 1) := by decide +kernel
theorem dX8_singer_21 : decode cX8_singer 21 = .ok (.iload_n 2, 1) := by decide +kernel
theorem dX8_singer_22 : decode cX8_singer 22 = .ok (.tableswitch 86 0 7 #[46, 51, 56, 61, 66, 71, 76, 81], 46) := by decide +kernel
theorem dX8_singer_68 : decode cX8_singer 68 = .ok (.aload_n 3, 1) := by decide +kernel
theorem dX8_singer_69 : decode cX8_singer 69 = .ok (.getfield 169, 3) := by decide +kernel
theorem dX8_singer_72 : decode cX8_singer 72 = .ok (.ireturn, 1) := by decide +kernel
theorem dX8_singer_73 : decode cX8_singer 73 = .ok (.aload_n 3, 1) := by decide +kernel
theorem dX8_singer_74 : decode cX8_singer 74 = .ok (.getfield 172, 3) := by decide +kernel
theorem dX8_singer_77 : decode cX8_singer 77 = .ok (.ireturn, 1) := by decide +kernel
theorem dX8_singer_78 : decode cX8_singer 78 = .ok (.aload_n 3, 1) := by decide +kernel
theorem dX8_singer_79 : decode cX8_singer 79 = .ok (.getfield 175, 3) := by decide +kernel
theorem dX8_singer_82 : decode cX8_singer 82 = .ok (.ireturn, 1) := by decide +kernel
theorem dX8_singer_83 : decode cX8_singer 83 = .ok (.aload_n 3, 1) := by decide +kernel
theorem dX8_singer_84 : decode cX8_singer 84 = .ok (.getfield 178, 3) := by decide +kernel
theorem dX8_singer_87 : decode cX8_singer 87 = .ok (.ireturn, 1) := by decide +kernel
theorem dX8_singer_88 : decode cX8_singer 88 = .ok (.aload_n 3, 1) := by decide +kernel
theorem dX8_singer_89 : decode cX8_singer 89 = .ok (.getfield 181, 3) := by decide +kernel
theorem dX8_singer_92 : decode cX8_singer 92 = .ok (.ireturn, 1) := by decide +kernel
theorem dX8_singer_93 : decode cX8_singer 93 = .ok (.aload_n 3, 1) := by decide +kernel
theorem dX8_singer_94 : decode cX8_singer 94 = .ok (.getfield 184, 3) := by decide +kernel
theorem dX8_singer_97 : decode cX8_singer 97 = .ok (.ireturn, 1) := by decide +kernel
theorem dX8_singer_98 : decode cX8_singer 98 = .ok (.aload_n 3, 1) := by decide +kernel
theorem dX8_singer_99 : decode cX8_singer 99 = .ok (.getfield 187, 3) := by decide +kernel
theorem dX8_singer_102 : decode cX8_singer 102 = .ok (.ireturn, 1) := by decide +kernel
theorem dX8_singer_103 : decode cX8_singer 103 = .ok (.aload_n 3, 1) := by decide +kernel
theorem dX8_singer_104 : decode cX8_singer 104 = .ok (.getfield 190, 3) := by decide +kernel
theorem dX8_singer_107 : decode cX8_singer 107 = .ok (.ireturn, 1) := by decide +kernel
theorem dX8_singer_108 : decode cX8_singer 108 = .ok (.ldc 95, 2) := by decide +kernel
theorem dX8_singer_110 : decode cX8_singer 110 = .ok (.ireturn, 1) := by decide +kernel
theorem dX8_task_0 : decode cX8_task 0 = .ok (.aload_n 0, 1) := by decide +kernel
theorem dX8_task_1 : decode cX8_task 1 = .ok (.iload_n 1, 1) := by decide +kernel
theorem dX8_task_2 : decode cX8_task 2 = .ok (.invokevirtual 193, 3) := by decide +kernel
theorem dX8_task_5 : decode cX8_task 5 = .ok (.ifCond .ne 6, 3) := by decide +kernel
theorem dX8_task_8 : decode cX8_task 8 = .ok (.ldc 158, 2) := by decide +kernel
theorem dX8_task_10 : decode cX8_task 10 = .ok (.ireturn, 1) := by decide +kernel
theorem dX8_task_11 : decode cX8_task 11 = .ok (.iload_n 2, 1) := by decide +kernel
theorem dX8_task_12 : decode cX8_task 12 = .ok (.tableswitch 72 0 3 #[32, 42, 52, 62], 32) := by decide +kernel
theorem dX8_task_44 : decode cX8_task 44 = .ok (.aload_n 0, 1) := by decide +kernel
theorem dX8_task_45 : decode cX8_task 45 = .ok (.getfield 29, 3) := by decide +kernel
theorem dX8_task_48 : decode cX8_task 48 = .ok (.getfield 196, 3) := by decide +kernel
theorem dX8_task_51 : decode cX8_task 51 = .ok (.iload_n 1, 1) := by decide +kernel
theorem dX8_task_52 : decode cX8_task 52 = .ok (.iaload, 1) := by decide +kernel
theorem dX8_task_53 : decode cX8_task 53 = .ok (.ireturn, 1) := by decide +kernel
theorem dX8_task_54 : decode cX8_task 54 = .ok (.aload_n 0, 1) := by decide +kernel
theorem dX8_task_55 : decode cX8_task 55 = .ok (.getfield 29, 3) := by decide +kernel
theorem dX8_task_58 : decode cX8_task 58 = .ok (.getfield 199, 3) := by decide +kernel
theorem dX8_task_61 : decode cX8_task 61 = .ok (.iload_n 1, 1) := by decide +kernel
theorem dX8_task_62 : decode cX8_task 62 = .ok (.iaload, 1) := by decide +kernel
theorem dX8_task_63 : decode cX8_task 63 = .ok (.ireturn, 1) := by decide +kernel
theorem dX8_task_64 : decode cX8_task 64 = .ok (.aload_n 0, 1) := by decide +kernel
theorem dX8_task_65 : decode cX8_task 65 = .ok (.getfield 29, 3) := by decide +kernel
theorem dX8_task_68 : decode cX8_task 68 = .ok (.getfield 202, 3) := by decide +kernel
theorem dX8_task_71 : decode cX8_task 71 = .ok (.iload_n 1, 1) := by decide +kernel
theorem dX8_task_72 : decode cX8_task 72 = .ok (.iaload, 1) := by decide +kernel
theorem dX8_task_73 : decode cX8_task 73 = .ok (.ireturn, 1) := by decide +kernel
theorem dX8_task_74 : decode cX8_task 74 = .ok (.aload_n 0, 1) := by decide +kernel
theorem dX8_task_75 : decode cX8_task 75 = .ok (.getfield 29, 3) := by decide +kernel
theorem dX8_task_78 : decode cX8_task 78 = .ok (.getfield 205, 3) := by decide +kernel
theorem dX8_task_81 : decode cX8_task 81 = .ok (.iload_n 1, 1) := by decide +kernel
theorem dX8_task_82 : decode cX8_task 82 = .ok (.iaload, 1) := by decide +kernel
theorem dX8_task_83 : decode cX8_task 83 = .ok (.ireturn, 1) := by decide +kernel
theorem dX8_task_84 : decode cX8_task 84 = .ok (.ldc 95, 2) := by decide +kernel
theorem dX8_task_86 : decode cX8_task 86 = .ok (.ireturn, 1) := by decide +kernel
theorem dX8_sing_0 : decode cX8_sing 0 = .ok (.aload_n 0, 1) := by decide +kernel
theorem dX8_sing_1 : decode cX8_sing 1 = .ok (.iload_n 1, 1) := by decide +kernel
theorem dX8_sing_2 : decode cX8_sing 2 = .ok (.invokevirtual 165, 3) := by decide +kernel
theorem dX8_sing_5 : decode cX8_sing 5 = .ok (.ifCond .ne 6, 3) := by decide +kernel
theorem dX8_sing_8 : decode cX8_sing 8 = .ok (.ldc 158, 2) := by decide +kernel
theorem dX8_sing_10 : decode cX8_sing 10 = .ok (.ireturn, 1) := by decide +kernel
theorem dX8_sing_11 : decode cX8_sing 11 = .ok (.iload_n 2, 1) := by decide +kernel
theorem dX8_sing_12 : decode cX8_sing 12 = .ok (.iconst 0, 1) := by decide +kernel
theorem dX8_sing_13 : decode cX8_sing 13 = .ok (.iconst 2, 1) := by decide +kernel
theorem dX8_sing_14 : decode cX8_sing 14 = .ok (.invokestatic 91, 3) := by decide +kernel
theorem dX8_sing_17 : decode cX8_sing 17 = .ok (.ifCond .ne 6, 3) := by decide +kernel
theorem dX8_sing_20 : decode cX8_sing 20 = .ok (.ldc 95, 2) := by decide +kernel
theorem dX8_sing_22 : decode cX8_sing 22 = .ok (.ireturn, 1) := by decide +kernel
theorem dX8_sing_23 : decode cX8_sing 23 = .ok (.aload_n 0, 1) := by decide +kernel
theorem dX8_sing_24 : decode cX8_sing 24 = .ok (.aload_n 0, 1) := by decide +kernel
theorem dX8_sing_25 : decode cX8_sing 25 = .ok (.getfield 47, 3) := by decide +kernel
theorem dX8_sing_28 : decode cX8_sing 28 = .ok (.getfield 145, 3) := by decide +kernel
theorem dX8_sing_31 : decode cX8_sing 31 = .ok (.aload_n 0, 1) := by decide +kernel
theorem dX8_sing_32 : decode cX8_sing 32 = .ok (.getfield 47, 3) := by decide +kernel
theorem dX8_sing_35 : decode cX8_sing 35 = .ok (.getfield 131, 3) := by decide +kernel
theorem dX8_sing_38 : decode cX8_sing 38 = .ok (.iload_n 1, 1) := by decide +kernel
theorem dX8_sing_39 : decode cX8_sing 39 = .ok (.aaload, 1) := by decide +kernel
theorem dX8_sing_40 : decode cX8_sing 40 = .ok (.iload_n 2, 1) := by decide +kernel
theorem dX8_sing_41 : decode cX8_sing 41 = .ok (.invokevirtual 208, 3) := by decide +kernel
theorem dX8_sing_44 : decode cX8_sing 44 = .ok (.aload_n 0, 1) := by decide +kernel
theorem dX8_sing_45 : decode cX8_sing 45 = .ok (.getfield 47, 3) := by decide +kernel
theorem dX8_sing_48 : decode cX8_sing 48 = .ok (.getfield 145, 3) := by decide +kernel
theorem dX8_sing_51 : decode cX8_sing 51 = .ok (.iload_n 1, 1) := by decide +kernel
theorem dX8_sing_52 : decode cX8_sing 52 = .ok (.putfield 148, 3) := by decide +kernel
theorem dX8_sing_55 : decode cX8_sing 55 = .ok (.aload_n 0, 1) := by decide +kernel
theorem dX8_sing_56 : decode cX8_sing 56 = .ok (.getfield 47, 3) := by decide +kernel
theorem dX8_sing_59 : decode cX8_sing 59 = .ok (.getfield 145, 3) := by decide +kernel
theorem dX8_sing_62 : decode cX8_sing 62 = .ok (.iconst 0, 1) := by decide +kernel
theorem dX8_sing_63 : decode cX8_sing 63 = .ok (.aload_n 0, 1) := by decide +kernel
theorem dX8_sing_64 : decode cX8_sing 64 = .ok (.getfield 19, 3) := by decide +kernel
theorem dX8_sing_67 : decode cX8_sing 67 = .ok (.invokevirtual 212, 3) := by decide +kernel
theorem dX8_sing_70 : decode cX8_sing 70 = .ok (.ireturn, 1) := by decide +kernel
theorem dX8_height_0 : decode cX8_height 0 = .ok (.iload_n 1, 1) := by decide +kernel
theorem dX8_height_1 : decode cX8_height 1 = .ok (.iconst 0, 1) := by decide +kernel
theorem dX8_height_2 : decode cX8_height 2 = .ok (.aload_n 0, 1) := by decide +kernel
theorem dX8_height_3 : decode cX8_height 3 = .ok (.getfield 19, 3) := by decide +kernel
theorem dX8_height_6 : decode cX8_height 6 = .ok (.getfield 124, 3) := by decide +kernel
theorem dX8_height_9 : decode cX8_height 9 = .ok (.iconst 1, 1) := by decide +kernel
theorem dX8_height_10 : decode cX8_height 10 = .ok (.isub, 1) := by decide +kernel
theorem dX8_height_11 : decode cX8_height 11 = .ok (.invokestatic 91, 3) := by decide +kernel
theorem dX8_height_14 : decode cX8_height 14 = .ok (.ifCond .ne 6, 3) := by decide +kernel
theorem dX8_height_17 : decode cX8_height 17 = .ok (.ldc 158, 2) := by decide +kernel
theorem dX8_height_19 : decode cX8_height 19 = .ok (.ireturn, 1) := by decide +kernel
theorem dX8_height_20 : decode cX8_height 20 = .ok (.aload_n 0, 1) := by decide +kernel
theorem dX8_height_21 : decode cX8_height 21 = .ok (.invokevirtual 216, 3) := by decide +kernel
theorem dX8_height_24 : decode cX8_height 24 = .ok (.ifCond .ne 6, 3) := by decide +kernel
theorem dX8_height_27 : decode cX8_height 27 = .ok (.ldc 219, 2) := by decide +kernel
theorem dX8_height_29 : decode cX8_height 29 = .ok (.ireturn, 1) := by decide +kernel
theorem dX8_height_30 : decode cX8_height 30 = .ok (.aload_n 0, 1) := by decide +kernel
theorem dX8_height_31 : decode cX8_height 31 = .ok (.getfield 47, 3) := by decide +kernel
theorem dX8_height_34 : decode cX8_height 34 = .ok (.getfield 145, 3) := by decide +kernel
theorem dX8_height_37 : decode cX8_height 37 = .ok (.iload_n 1, 1) := by decide +kernel
theorem dX8_height_38 : decode cX8_height 38 = .ok (.invokevirtual 220, 3) := by decide +kernel
theorem dX8_height_41 : decode cX8_height 41 = .ok (.ireturn, 1) := by decide +kernel
theorem dX8_slid_0 : decode cX8_slid 0 = .ok (.aload_n 0, 1) := by decide +kernel
theorem dX8_slid_1 : decode cX8_slid 1 = .ok (.invokevirtual 216, 3) := by decide +kernel
theorem dX8_slid_4 : decode cX8_slid 4 = .ok (.ifCond .ne 6, 3) := by decide +kernel
theorem dX8_slid_7 : decode cX8_slid 7 = .ok (.ldc 219, 2) := by decide +kernel
theorem dX8_slid_9 : decode cX8_slid 9 = .ok (.ireturn, 1) := by decide +kernel
theorem dX8_slid_10 : decode cX8_slid 10 = .ok (.aload_n 0, 1) := by decide +kernel
theorem dX8_slid_11 : decode cX8_slid 11 = .ok (.getfield 47, 3) := by decide +kernel
theorem dX8_slid_14 : decode cX8_slid 14 = .ok (.getfield 145, 3) := by decide +kernel
theorem dX8_slid_17 : decode cX8_slid 17 = .ok (.aload_n 0, 1) := by decide +kernel
theorem dX8_slid_18 : decode cX8_slid 18 = .ok (.getfield 19, 3) := by decide +kernel
theorem dX8_slid_21 : decode cX8_slid 21 = .ok (.invokevirtual 224, 3) := by decide +kernel
theorem dX8_slid_24 : decode cX8_slid 24 = .ok (.ireturn, 1) := by decide +kernel
theorem dX8_score_0 : decode cX8_score 0 = .ok (.iload_n 1, 1) := by decide +kernel
theorem dX8_score_1 : decode cX8_score 1 = .ok (.iconst 0, 1) := by decide +kernel
theorem dX8_score_2 : decode cX8_score 2 = .ok (.iconst 3, 1) := by decide +kernel
theorem dX8_score_3 : decode cX8_score 3 = .ok (.invokestatic 91, 3) := by decide +kernel
theorem dX8_score_6 : decode cX8_score 6 = .ok (.ifCond .ne 6, 3) := by decide +kernel
theorem dX8_score_9 : decode cX8_score 9 = .ok (.ldc 95, 2) := by decide +kernel
theorem dX8_score_11 : decode cX8_score 11 = .ok (.ireturn, 1) := by decide +kernel
theorem dX8_score_12 : decode cX8_score 12 = .ok (.aload_n 0, 1) := by decide +kernel
theorem dX8_score_13 : decode cX8_score 13 = .ok (.invokevirtual 216, 3) := by decide +kernel
theorem dX8_score_16 : decode cX8_score 16 = .ok (.ifCond .ne 6, 3) := by decide +kernel
theorem dX8_score_19 : decode cX8_score 19 = .ok (.ldc 219, 2) := by decide +kernel
theorem dX8_score_21 : decode cX8_score 21 = .ok (.ireturn, 1) := by decide +kernel
theorem dX8_score_22 : decode cX8_score 22 = .ok (.aload_n 0, 1) := by decide +kernel
theorem dX8_score_23 : decode cX8_score 23 = .ok (.getfield 47, 3) := by decide +kernel
theorem dX8_score_26 : decode cX8_score 26 = .ok (.getfield 145, 3) := by decide +kernel
theorem dX8_score_29 : decode cX8_score 29 = .ok (.iload_n 1, 1) := by decide +kernel
theorem dX8_score_30 : decode cX8_score 30 = .ok (.aload_n 0, 1) := by decide +kernel
theorem dX8_score_31 : decode cX8_score 31 = .ok (.getfield 19, 3) := by decide +kernel
theorem dX8_score_34 : decode cX8_score 34 = .ok (.invokevirtual 212, 3) := by decide +kernel
theorem dX8_score_37 : decode cX8_score 37 = .ok (.ireturn, 1) := by decide +kernel
theorem dX8_calls_0 : decode cX8_calls 0 = .ok (.aload_n 0, 1) := by decide +kernel
theorem dX8_calls_1 : decode cX8_calls 1 = .ok (.invokevirtual 216, 3) := by decide +kernel
theorem dX8_calls_4 : decode cX8_calls 4 = .ok (.ifCond .ne 6, 3) := by decide +kernel
theorem dX8_calls_7 : decode cX8_calls 7 = .ok (.ldc 219, 2) := by decide +kernel
theorem dX8_calls_9 : decode cX8_calls 9 = .ok (.ireturn, 1) := by decide +kernel
theorem dX8_calls_10 : decode cX8_calls 10 = .ok (.aload_n 0, 1) := by decide +kernel
theorem dX8_calls_11 : decode cX8_calls 11 = .ok (.getfield 47, 3) := by decide +kernel
theorem dX8_calls_14 : decode cX8_calls 14 = .ok (.getfield 145, 3) := by decide +kernel
theorem dX8_calls_17 : decode cX8_calls 17 = .ok (.aload_n 0, 1) := by decide +kernel
theorem dX8_calls_18 : decode cX8_calls 18 = .ok (.getfield 19, 3) := by decide +kernel
theorem dX8_calls_21 : decode cX8_calls 21 = .ok (.invokevirtual 228, 3) := by decide +kernel
theorem dX8_calls_24 : decode cX8_calls 24 = .ok (.ireturn, 1) := by decide +kernel
theorem dX8_fooled_0 : decode cX8_fooled 0 = .ok (.iload_n 1, 1) := by decide +kernel
theorem dX8_fooled_1 : decode cX8_fooled 1 = .ok (.iconst 0, 1) := by decide +kernel
theorem dX8_fooled_2 : decode cX8_fooled 2 = .ok (.iconst 1, 1) := by decide +kernel
theorem dX8_fooled_3 : decode cX8_fooled 3 = .ok (.invokestatic 91, 3) := by decide +kernel
theorem dX8_fooled_6 : decode cX8_fooled 6 = .ok (.ifCond .ne 6, 3) := by decide +kernel
theorem dX8_fooled_9 : decode cX8_fooled 9 = .ok (.ldc 95, 2) := by decide +kernel
theorem dX8_fooled_11 : decode cX8_fooled 11 = .ok (.ireturn, 1) := by decide +kernel
theorem dX8_fooled_12 : decode cX8_fooled 12 = .ok (.iconst (-1), 1) := by decide +kernel
theorem dX8_fooled_13 : decode cX8_fooled 13 = .ok (.istore_n 2, 1) := by decide +kernel
theorem dX8_fooled_14 : decode cX8_fooled 14 = .ok (.iconst 0, 1) := by decide +kernel
theorem dX8_fooled_15 : decode cX8_fooled 15 = .ok (.istore_n 3, 1) := by decide +kernel
theorem dX8_fooled_16 : decode cX8_fooled 16 = .ok (.iconst 0, 1) := by decide +kernel
theorem dX8_fooled_17 : decode cX8_fooled 17 = .ok (.istore 4, 2) := by decide +kernel
theorem dX8_fooled_19 : decode cX8_fooled 19 = .ok (.iload 4, 2) := by decide +kernel
theorem dX8_fooled_21 : decode cX8_fooled 21 = .ok (.sipush 3600, 3) := by decide +kernel
theorem dX8_fooled_24 : decode cX8_fooled 24 = .ok (.if_icmp .gt 32, 3) := by decide +kernel
theorem dX8_fooled_27 : decode cX8_fooled 27 = .ok (.aload_n 0, 1) := by decide +kernel
theorem dX8_fooled_28 : decode cX8_fooled 28 = .ok (.getfield 19, 3) := by decide +kernel
theorem dX8_fooled_31 : decode cX8_fooled 31 = .ok (.iload 4, 2) := by decide +kernel
theorem dX8_fooled_33 : decode cX8_fooled 33 = .ok (.invokevirtual 231, 3) := by decide +kernel
theorem dX8_fooled_36 : decode cX8_fooled 36 = .ok (.istore 5, 2) := by decide +kernel
theorem dX8_fooled_38 : decode cX8_fooled 38 = .ok (.iload 5, 2) := by decide +kernel
theorem dX8_fooled_40 : decode cX8_fooled 40 = .ok (.iload_n 3, 1) := by decide +kernel
theorem dX8_fooled_41 : decode cX8_fooled 41 = .ok (.if_icmp .le 9, 3) := by decide +kernel
theorem dX8_fooled_44 : decode cX8_fooled 44 = .ok (.iload 5, 2) := by decide +kernel
theorem dX8_fooled_46 : decode cX8_fooled 46 = .ok (.istore_n 3, 1) := by decide +kernel
theorem dX8_fooled_47 : decode cX8_fooled 47 = .ok (.iload 4, 2) := by decide +kernel
theorem dX8_fooled_49 : decode cX8_fooled 49 = .ok (.istore_n 2, 1) := by decide +kernel
theorem dX8_fooled_50 : decode cX8_fooled 50 = .ok (.iinc 4 50, 3) := by decide +kernel
theorem dX8_fooled_53 : decode cX8_fooled 53 = .ok (.goto (-34), 3) := by decide +kernel
theorem dX8_fooled_56 : decode cX8_fooled 56 = .ok (.iload_n 1, 1) := by decide +kernel
theorem dX8_fooled_57 : decode cX8_fooled 57 = .ok (.ifCond .ne 7, 3) := by decide +kernel
theorem dX8_fooled_60 : decode cX8_fooled 60 = .ok (.iload_n 2, 1) := by decide +kernel
theorem dX8_fooled_61 : decode cX8_fooled 61 = .ok (.goto 4, 3) := by decide +kernel
theorem dX8_fooled_64 : decode cX8_fooled 64 = .ok (.iload_n 3, 1) := by decide +kernel
theorem dX8_fooled_65 : decode cX8_fooled 65 = .ok (.ireturn, 1) := by decide +kernel
theorem dX8_weigh_0 : decode cX8_weigh 0 = .ok (.iload_n 1, 1) := by decide +kernel
theorem dX8_weigh_1 : decode cX8_weigh 1 = .ok (.invokestatic 234, 3) := by decide +kernel
theorem dX8_weigh_4 : decode cX8_weigh 4 = .ok (.ifCond .ne 6, 3) := by decide +kernel
theorem dX8_weigh_7 : decode cX8_weigh 7 = .ok (.ldc 158, 2) := by decide +kernel
theorem dX8_weigh_9 : decode cX8_weigh 9 = .ok (.ireturn, 1) := by decide +kernel
theorem dX8_weigh_10 : decode cX8_weigh 10 = .ok (.iload_n 2, 1) := by decide +kernel
theorem dX8_weigh_11 : decode cX8_weigh 11 = .ok (.iconst 0, 1) := by decide +kernel
theorem dX8_weigh_12 : decode cX8_weigh 12 = .ok (.bipush 99, 2) := by decide +kernel
theorem dX8_weigh_14 : decode cX8_weigh 14 = .ok (.invokestatic 91, 3) := by decide +kernel
theorem dX8_weigh_17 : decode cX8_weigh 17 = .ok (.ifCond .ne 6, 3) := by decide +kernel
theorem dX8_weigh_20 : decode cX8_weigh 20 = .ok (.ldc 95, 2) := by decide +kernel
theorem dX8_weigh_22 : decode cX8_weigh 22 = .ok (.ireturn, 1) := by decide +kernel
theorem dX8_weigh_23 : decode cX8_weigh 23 = .ok (.aload_n 0, 1) := by decide +kernel
theorem dX8_weigh_24 : decode cX8_weigh 24 = .ok (.getfield 47, 3) := by decide +kernel
theorem dX8_weigh_27 : decode cX8_weigh 27 = .ok (.getfield 237, 3) := by decide +kernel
theorem dX8_weigh_30 : decode cX8_weigh 30 = .ok (.iload_n 1, 1) := by decide +kernel
theorem dX8_weigh_31 : decode cX8_weigh 31 = .ok (.iaload, 1) := by decide +kernel
theorem dX8_weigh_32 : decode cX8_weigh 32 = .ok (.istore_n 3, 1) := by decide +kernel
theorem dX8_weigh_33 : decode cX8_weigh 33 = .ok (.aload_n 0, 1) := by decide +kernel
theorem dX8_weigh_34 : decode cX8_weigh 34 = .ok (.getfield 47, 3) := by decide +kernel
theorem dX8_weigh_37 : decode cX8_weigh 37 = .ok (.getfield 237, 3) := by decide +kernel
theorem dX8_weigh_40 : decode cX8_weigh 40 = .ok (.iload_n 1, 1) := by decide +kernel
theorem dX8_weigh_41 : decode cX8_weigh 41 = .ok (.iload_n 2, 1) := by decide +kernel
theorem dX8_weigh_42 : decode cX8_weigh 42 = .ok (.iastore, 1) := by decide +kernel
theorem dX8_weigh_43 : decode cX8_weigh 43 = .ok (.iload_n 3, 1) := by decide +kernel
theorem dX8_weigh_44 : decode cX8_weigh 44 = .ok (.ireturn, 1) := by decide +kernel
theorem dX8_result_0 : decode cX8_result 0 = .ok (.aload_n 0, 1) := by decide +kernel
theorem dX8_result_1 : decode cX8_result 1 = .ok (.iload_n 1, 1) := by decide +kernel
theorem dX8_result_2 : decode cX8_result 2 = .ok (.invokevirtual 193, 3) := by decide +kernel
theorem dX8_result_5 : decode cX8_result 5 = .ok (.ifCond .ne 6, 3) := by decide +kernel
theorem dX8_result_8 : decode cX8_result 8 = .ok (.ldc 158, 2) := by decide +kernel
theorem dX8_result_10 : decode cX8_result 10 = .ok (.ireturn, 1) := by decide +kernel
theorem dX8_result_11 : decode cX8_result 11 = .ok (.aload_n 0, 1) := by decide +kernel
theorem dX8_result_12 : decode cX8_result 12 = .ok (.getfield 47, 3) := by decide +kernel
theorem dX8_result_15 : decode cX8_result 15 = .ok (.iload_n 1, 1) := by decide +kernel
theorem dX8_result_16 : decode cX8_result 16 = .ok (.invokevirtual 240, 3) := by decide +kernel
theorem dX8_result_19 : decode cX8_result 19 = .ok (.ifCond .eq 6, 3) := by decide +kernel
theorem dX8_result_22 : decode cX8_result 22 = .ok (.ldc 219, 2) := by decide +kernel
theorem dX8_result_24 : decode cX8_result 24 = .ok (.ireturn, 1) := by decide +kernel
theorem dX8_result_25 : decode cX8_result 25 = .ok (.aload_n 0, 1) := by decide +kernel
theorem dX8_result_26 : decode cX8_result 26 = .ok (.getfield 47, 3) := by decide +kernel
theorem dX8_result_29 : decode cX8_result 29 = .ok (.dup, 1) := by decide +kernel
theorem dX8_result_30 : decode cX8_result 30 = .ok (.getfield 152, 3) := by decide +kernel
theorem dX8_result_33 : decode cX8_result 33 = .ok (.iconst 1, 1) := by decide +kernel
theorem dX8_result_34 : decode cX8_result 34 = .ok (.iload_n 1, 1) := by decide +kernel
theorem dX8_result_35 : decode cX8_result 35 = .ok (.ishl, 1) := by decide +kernel
theorem dX8_result_36 : decode cX8_result 36 = .ok (.ior, 1) := by decide +kernel
theorem dX8_result_37 : decode cX8_result 37 = .ok (.putfield 152, 3) := by decide +kernel
theorem dX8_result_40 : decode cX8_result 40 = .ok (.iload_n 2, 1) := by decide +kernel
theorem dX8_result_41 : decode cX8_result 41 = .ok (.ifCond .eq 18, 3) := by decide +kernel
theorem dX8_result_44 : decode cX8_result 44 = .ok (.aload_n 0, 1) := by decide +kernel
theorem dX8_result_45 : decode cX8_result 45 = .ok (.getfield 47, 3) := by decide +kernel
theorem dX8_result_48 : decode cX8_result 48 = .ok (.dup, 1) := by decide +kernel
theorem dX8_result_49 : decode cX8_result 49 = .ok (.getfield 155, 3) := by decide +kernel
theorem dX8_result_52 : decode cX8_result 52 = .ok (.iconst 1, 1) := by decide +kernel
theorem dX8_result_53 : decode cX8_result 53 = .ok (.iload_n 1, 1) := by decide +kernel
theorem dX8_result_54 : decode cX8_result 54 = .ok (.ishl, 1) := by decide +kernel
theorem dX8_result_55 : decode cX8_result 55 = .ok (.ior, 1) := by decide +kernel
theorem dX8_result_56 : decode cX8_result 56 = .ok (.putfield 155, 3) := by decide +kernel
theorem dX8_result_59 : decode cX8_result 59 = .ok (.aload_n 0, 1) := by decide +kernel
theorem dX8_result_60 : decode cX8_result 60 = .ok (.getfield 47, 3) := by decide +kernel
theorem dX8_result_63 : decode cX8_result 63 = .ok (.getfield 152, 3) := by decide +kernel
theorem dX8_result_66 : decode cX8_result 66 = .ok (.invokestatic 243, 3) := by decide +kernel
theorem dX8_result_69 : decode cX8_result 69 = .ok (.ireturn, 1) := by decide +kernel
theorem dX8_forget_0 : decode cX8_forget 0 = .ok (.aload_n 0, 1) := by decide +kernel
theorem dX8_forget_1 : decode cX8_forget 1 = .ok (.getfield 47, 3) := by decide +kernel
theorem dX8_forget_4 : decode cX8_forget 4 = .ok (.getfield 152, 3) := by decide +kernel
theorem dX8_forget_7 : decode cX8_forget 7 = .ok (.invokestatic 243, 3) := by decide +kernel
theorem dX8_forget_10 : decode cX8_forget 10 = .ok (.istore_n 1, 1) := by decide +kernel
theorem dX8_forget_11 : decode cX8_forget 11 = .ok (.aload_n 0, 1) := by decide +kernel
theorem dX8_forget_12 : decode cX8_forget 12 = .ok (.invokevirtual 138, 3) := by decide +kernel
theorem dX8_forget_15 : decode cX8_forget 15 = .ok (.iload_n 1, 1) := by decide +kernel
theorem dX8_forget_16 : decode cX8_forget 16 = .ok (.ireturn, 1) := by decide +kernel
theorem dX8_odds_0 : decode cX8_odds 0 = .ok (.iload_n 1, 1) := by decide +kernel
theorem dX8_odds_1 : decode cX8_odds 1 = .ok (.invokestatic 234, 3) := by decide +kernel
theorem dX8_odds_4 : decode cX8_odds 4 = .ok (.ifCond .eq 9, 3) := by decide +kernel
theorem dX8_odds_7 : decode cX8_odds 7 = .ok (.aload_n 0, 1) := by decide +kernel
theorem dX8_odds_8 : decode cX8_odds 8 = .ok (.iload_n 1, 1) := by decide +kernel
theorem dX8_odds_9 : decode cX8_odds 9 = .ok (.invokevirtual 248, 3) := by decide +kernel
theorem dX8_odds_12 : decode cX8_odds 12 = .ok (.lreturn, 1) := by decide +kernel
theorem dX8_odds_13 : decode cX8_odds 13 = .ok (.iload_n 1, 1) := by decide +kernel
theorem dX8_odds_14 : decode cX8_odds 14 = .ok (.iconst (-1), 1) := by decide +kernel
theorem dX8_odds_15 : decode cX8_odds 15 = .ok (.if_icmp .eq 7, 3) := by decide +kernel
theorem dX8_odds_18 : decode cX8_odds 18 = .ok (.ldc2_w 252, 3) := by decide +kernel
theorem dX8_odds_21 : decode cX8_odds 21 = .ok (.lreturn, 1) := by decide +kernel
theorem dX8_odds_22 : decode cX8_odds 22 = .ok (.lconst 0, 1) := by decide +kernel
theorem dX8_odds_23 : decode cX8_odds 23 = .ok (.lstore_n 2, 1) := by decide +kernel
theorem dX8_odds_24 : decode cX8_odds 24 = .ok (.iconst 0, 1) := by decide +kernel
theorem dX8_odds_25 : decode cX8_odds 25 = .ok (.istore 4, 2) := by decide +kernel
theorem dX8_odds_27 : decode cX8_odds 27 = .ok (.iload 4, 2) := by decide +kernel
theorem dX8_odds_29 : decode cX8_odds 29 = .ok (.bipush 16, 2) := by decide +kernel
theorem dX8_odds_31 : decode cX8_odds 31 = .ok (.if_icmp .ge 18, 3) := by decide +kernel
theorem dX8_odds_34 : decode cX8_odds 34 = .ok (.lload_n 2, 1) := by decide +kernel
theorem dX8_odds_35 : decode cX8_odds 35 = .ok (.aload_n 0, 1) := by decide +kernel
theorem dX8_odds_36 : decode cX8_odds 36 = .ok (.iload 4, 2) := by decide +kernel
theorem dX8_odds_38 : decode cX8_odds 38 = .ok (.invokevirtual 248, 3) := by decide +kernel
theorem dX8_odds_41 : decode cX8_odds 41 = .ok (.ladd, 1) := by decide +kernel
theorem dX8_odds_42 : decode cX8_odds 42 = .ok (.lstore_n 2, 1) := by decide +kernel
theorem dX8_odds_43 : decode cX8_odds 43 = .ok (.iinc 4 1, 3) := by decide +kernel
theorem dX8_odds_46 : decode cX8_odds 46 = .ok (.goto (-19), 3) := by decide +kernel
theorem dX8_odds_49 : decode cX8_odds 49 = .ok (.lload_n 2, 1) := by decide +kernel
theorem dX8_odds_50 : decode cX8_odds 50 = .ok (.lreturn, 1) := by decide +kernel
theorem dX8_next_0 : decode cX8_next 0 = .ok (.iconst (-1), 1) := by decide +kernel
theorem dX8_next_1 : decode cX8_next 1 = .ok (.istore_n 1, 1) := by decide +kernel
theorem dX8_next_2 : decode cX8_next 2 = .ok (.lconst 0, 1) := by decide +kernel
theorem dX8_next_3 : decode cX8_next 3 = .ok (.lstore_n 2, 1) := by decide +kernel
theorem dX8_next_4 : decode cX8_next 4 = .ok (.iconst 0, 1) := by decide +kernel
theorem dX8_next_5 : decode cX8_next 5 = .ok (.istore 4, 2) := by decide +kernel
theorem dX8_next_7 : decode cX8_next 7 = .ok (.iload 4, 2) := by decide +kernel
theorem dX8_next_9 : decode cX8_next 9 = .ok (.aload_n 0, 1) := by decide +kernel
theorem dX8_next_10 : decode cX8_next 10 = .ok (.getfield 29, 3) := by decide +kernel
theorem dX8_next_13 : decode cX8_next 13 = .ok (.getfield 141, 3) := by decide +kernel
theorem dX8_next_16 : decode cX8_next 16 = .ok (.if_icmp .ge 88, 3) := by decide +kernel
theorem dX8_next_19 : decode cX8_next 19 = .ok (.aload_n 0, 1) := by decide +kernel
theorem dX8_next_20 : decode cX8_next 20 = .ok (.getfield 47, 3) := by decide +kernel
theorem dX8_next_23 : decode cX8_next 23 = .ok (.iload 4, 2) := by decide +kernel
theorem dX8_next_25 : decode cX8_next 25 = .ok (.invokevirtual 240, 3) := by decide +kernel
theorem dX8_next_28 : decode cX8_next 28 = .ok (.ifCond .eq 6, 3) := by decide +kernel
theorem dX8_next_31 : decode cX8_next 31 = .ok (.goto 67, 3) := by decide +kernel
theorem dX8_next_34 : decode cX8_next 34 = .ok (.aload_n 0, 1) := by decide +kernel
theorem dX8_next_35 : decode cX8_next 35 = .ok (.iload 4, 2) := by decide +kernel
theorem dX8_next_37 : decode cX8_next 37 = .ok (.iconst 1, 1) := by decide +kernel
theorem dX8_next_38 : decode cX8_next 38 = .ok (.invokevirtual 254, 3) := by decide +kernel
theorem dX8_next_41 : decode cX8_next 41 = .ok (.aload_n 0, 1) := by decide +kernel
theorem dX8_next_42 : decode cX8_next 42 = .ok (.iload 4, 2) := by decide +kernel
theorem dX8_next_44 : decode cX8_next 44 = .ok (.iconst 0, 1) := by decide +kernel
theorem dX8_next_45 : decode cX8_next 45 = .ok (.invokevirtual 254, 3) := by decide +kernel
theorem dX8_next_48 : decode cX8_next 48 = .ok (.ladd, 1) := by decide +kernel
theorem dX8_next_49 : decode cX8_next 49 = .ok (.lstore 5, 2) := by decide +kernel
theorem dX8_next_51 : decode cX8_next 51 = .ok (.iload_n 1, 1) := by decide +kernel
theorem dX8_next_52 : decode cX8_next 52 = .ok (.iconst (-1), 1) := by decide +kernel
theorem dX8_next_53 : decode cX8_next 53 = .ok (.if_icmp .eq 39, 3) := by decide +kernel
theorem dX8_next_56 : decode cX8_next 56 = .ok (.lload 5, 2) := by decide +kernel
theorem dX8_next_58 : decode cX8_next 58 = .ok (.lload_n 2, 1) := by decide +kernel
theorem dX8_next_59 : decode cX8_next 59 = .ok (.lcmp, 1) := by decide +kernel
theorem dX8_next_60 : decode cX8_next 60 = .ok (.ifCond .gt 32, 3) := by decide +kernel
theorem dX8_next_63 : decode cX8_next 63 = .ok (.lload 5, 2) := by decide +kernel
theorem dX8_next_65 : decode cX8_next 65 = .ok (.lload_n 2, 1) := by decide +kernel
theorem dX8_next_66 : decode cX8_next 66 = .ok (.lcmp, 1) := by decide +kernel
theorem dX8_next_67 : decode cX8_next 67 = .ok (.ifCond .ne 31, 3) := by decide +kernel
theorem dX8_next_70 : decode cX8_next 70 = .ok (.aload_n 0, 1) := by decide +kernel
theorem dX8_next_71 : decode cX8_next 71 = .ok (.getfield 29, 3) := by decide +kernel
theorem dX8_next_74 : decode cX8_next 74 = .ok (.getfield 196, 3) := by decide +kernel
theorem dX8_next_77 : decode cX8_next 77 = .ok (.iload 4, 2) := by decide +kernel
theorem dX8_next_79 : decode cX8_next 79 = .ok (.iaload, 1) := by decide +kernel
theorem dX8_next_80 : decode cX8_next 80 = .ok (.aload_n 0, 1) := by decide +kernel
theorem dX8_next_81 : decode cX8_next 81 = .ok (.getfield 29, 3) := by decide +kernel
theorem dX8_next_84 : decode cX8_next 84 = .ok (.getfield 196, 3) := by decide +kernel
theorem dX8_next_87 : decode cX8_next 87 = .ok (.iload_n 1, 1) := by decide +kernel
theorem dX8_next_88 : decode cX8_next 88 = .ok (.iaload, 1) := by decide +kernel
theorem dX8_next_89 : decode cX8_next 89 = .ok (.if_icmp .ge 9, 3) := by decide +kernel
theorem dX8_next_92 : decode cX8_next 92 = .ok (.iload 4, 2) := by decide +kernel
theorem dX8_next_94 : decode cX8_next 94 = .ok (.istore_n 1, 1) := by decide +kernel
theorem dX8_next_95 : decode cX8_next 95 = .ok (.lload 5, 2) := by decide +kernel
theorem dX8_next_97 : decode cX8_next 97 = .ok (.lstore_n 2, 1) := by decide +kernel
theorem dX8_next_98 : decode cX8_next 98 = .ok (.iinc 4 1, 3) := by decide +kernel
theorem dX8_next_101 : decode cX8_next 101 = .ok (.goto (-94), 3) := by decide +kernel
theorem dX8_next_104 : decode cX8_next 104 = .ok (.iload_n 1, 1) := by decide +kernel
theorem dX8_next_105 : decode cX8_next 105 = .ok (.ireturn, 1) := by decide +kernel
theorem dX8_left_0 : decode cX8_left 0 = .ok (.iload_n 1, 1) := by decide +kernel
theorem dX8_left_1 : decode cX8_left 1 = .ok (.iconst 1, 1) := by decide +kernel
theorem dX8_left_2 : decode cX8_left 2 = .ok (.bipush 100, 2) := by decide +kernel
theorem dX8_left_4 : decode cX8_left 4 = .ok (.invokestatic 91, 3) := by decide +kernel
theorem dX8_left_7 : decode cX8_left 7 = .ok (.ifCond .ne 6, 3) := by decide +kernel
theorem dX8_left_10 : decode cX8_left 10 = .ok (.ldc 95, 2) := by decide +kernel
theorem dX8_left_12 : decode cX8_left 12 = .ok (.ireturn, 1) := by decide +kernel
theorem dX8_left_13 : decode cX8_left 13 = .ok (.iconst 0, 1) := by decide +kernel
theorem dX8_left_14 : decode cX8_left 14 = .ok (.istore_n 2, 1) := by decide +kernel
theorem dX8_left_15 : decode cX8_left 15 = .ok (.iload_n 2, 1) := by decide +kernel
theorem dX8_left_16 : decode cX8_left 16 = .ok (.bipush 16, 2) := by decide +kernel
theorem dX8_left_18 : decode cX8_left 18 = .ok (.if_icmp .ge 25, 3) := by decide +kernel
theorem dX8_left_21 : decode cX8_left 21 = .ok (.aload_n 0, 1) := by decide +kernel
theorem dX8_left_22 : decode cX8_left 22 = .ok (.getfield 58, 3) := by decide +kernel
theorem dX8_left_25 : decode cX8_left 25 = .ok (.getfield 258, 3) := by decide +kernel
theorem dX8_left_28 : decode cX8_left 28 = .ok (.iconst 0, 1) := by decide +kernel
theorem dX8_left_29 : decode cX8_left 29 = .ok (.aaload, 1) := by decide +kernel
theorem dX8_left_30 : decode cX8_left 30 = .ok (.iload_n 2, 1) := by decide +kernel
theorem dX8_left_31 : decode cX8_left 31 = .ok (.aload_n 0, 1) := by decide +kernel
theorem dX8_left_32 : decode cX8_left 32 = .ok (.iload_n 2, 1) := by decide +kernel
theorem dX8_left_33 : decode cX8_left 33 = .ok (.invokevirtual 248, 3) := by decide +kernel
theorem dX8_left_36 : decode cX8_left 36 = .ok (.lastore, 1) := by decide +kernel
theorem dX8_left_37 : decode cX8_left 37 = .ok (.iinc 2 1, 3) := by decide +kernel
theorem dX8_left_40 : decode cX8_left 40 = .ok (.goto (-25), 3) := by decide +kernel
theorem dX8_left_43 : decode cX8_left 43 = .ok (.aload_n 0, 1) := by decide +kernel
theorem dX8_left_44 : decode cX8_left 44 = .ok (.getfield 58, 3) := by decide +kernel
theorem dX8_left_47 : decode cX8_left 47 = .ok (.aload_n 0, 1) := by decide +kernel
theorem dX8_left_48 : decode cX8_left 48 = .ok (.getfield 29, 3) := by decide +kernel
theorem dX8_left_51 : decode cX8_left 51 = .ok (.aload_n 0, 1) := by decide +kernel
theorem dX8_left_52 : decode cX8_left 52 = .ok (.getfield 47, 3) := by decide +kernel
theorem dX8_left_55 : decode cX8_left 55 = .ok (.getfield 152, 3) := by decide +kernel
theorem dX8_left_58 : decode cX8_left 58 = .ok (.iload_n 1, 1) := by decide +kernel
theorem dX8_left_59 : decode cX8_left 59 = .ok (.invokevirtual 262, 3) := by decide +kernel
theorem dX8_left_62 : decode cX8_left 62 = .ok (.ireturn, 1) := by decide +kernel
theorem dX8_alike_0 : decode cX8_alike 0 = .ok (.iload_n 1, 1) := by decide +kernel
theorem dX8_alike_1 : decode cX8_alike 1 = .ok (.invokestatic 234, 3) := by decide +kernel
theorem dX8_alike_4 : decode cX8_alike 4 = .ok (.ifCond .ne 6, 3) := by decide +kernel
theorem dX8_alike_7 : decode cX8_alike 7 = .ok (.ldc 158, 2) := by decide +kernel
theorem dX8_alike_9 : decode cX8_alike 9 = .ok (.ireturn, 1) := by decide +kernel
theorem dX8_alike_10 : decode cX8_alike 10 = .ok (.iconst 0, 1) := by decide +kernel
theorem dX8_alike_11 : decode cX8_alike 11 = .ok (.istore_n 2, 1) := by decide +kernel
theorem dX8_alike_12 : decode cX8_alike 12 = .ok (.iconst 0, 1) := by decide +kernel
theorem dX8_alike_13 : decode cX8_alike 13 = .ok (.istore_n 3, 1) := by decide +kernel
theorem dX8_alike_14 : decode cX8_alike 14 = .ok (.iload_n 3, 1) := by decide +kernel
theorem dX8_alike_15 : decode cX8_alike 15 = .ok (.bipush 16, 2) := by decide +kernel
theorem dX8_alike_17 : decode cX8_alike 17 = .ok (.if_icmp .ge 27, 3) := by decide +kernel
theorem dX8_alike_20 : decode cX8_alike 20 = .ok (.aload_n 0, 1) := by decide +kernel
theorem dX8_alike_21 : decode cX8_alike 21 = .ok (.getfield 29, 3) := by decide +kernel
theorem dX8_alike_24 : decode cX8_alike 24 = .ok (.iload_n 1, 1) := by decide +kernel
theorem dX8_alike_25 : decode cX8_alike 25 = .ok (.iload_n 3, 1) := by decide +kernel
theorem dX8_alike_26 : decode cX8_alike 26 = .ok (.invokevirtual 266, 3) := by decide +kernel
theorem dX8_alike_29 : decode cX8_alike 29 = .ok (.ifCond .ne 9, 3) := by decide +kernel
theorem dX8_alike_32 : decode cX8_alike 32 = .ok (.iload_n 2, 1) := by decide +kernel
theorem dX8_alike_33 : decode cX8_alike 33 = .ok (.iconst 1, 1) := by decide +kernel
theorem dX8_alike_34 : decode cX8_alike 34 = .ok (.iload_n 3, 1) := by decide +kernel
theorem dX8_alike_35 : decode cX8_alike 35 = .ok (.ishl, 1) := by decide +kernel
theorem dX8_alike_36 : decode cX8_alike 36 = .ok (.ior, 1) := by decide +kernel
theorem dX8_alike_37 : decode cX8_alike 37 = .ok (.istore_n 2, 1) := by decide +kernel
theorem dX8_alike_38 : decode cX8_alike 38 = .ok (.iinc 3 1, 3) := by decide +kernel
theorem dX8_alike_41 : decode cX8_alike 41 = .ok (.goto (-27), 3) := by decide +kernel
theorem dX8_alike_44 : decode cX8_alike 44 = .ok (.iload_n 2, 1) := by decide +kernel
theorem dX8_alike_45 : decode cX8_alike 45 = .ok (.ireturn, 1) := by decide +kernel
theorem dX8_lesson_0 : decode cX8_lesson 0 = .ok (.aload_n 0, 1) := by decide +kernel
theorem dX8_lesson_1 : decode cX8_lesson 1 = .ok (.iload_n 1, 1) := by decide +kernel
theorem dX8_lesson_2 : decode cX8_lesson 2 = .ok (.invokevirtual 165, 3) := by decide +kernel
theorem dX8_lesson_5 : decode cX8_lesson 5 = .ok (.ifCond .eq 12, 3) := by decide +kernel
theorem dX8_lesson_8 : decode cX8_lesson 8 = .ok (.iload_n 2, 1) := by decide +kernel
theorem dX8_lesson_9 : decode cX8_lesson 9 = .ok (.iconst 0, 1) := by decide +kernel
theorem dX8_lesson_10 : decode cX8_lesson 10 = .ok (.iconst 3, 1) := by decide +kernel
theorem dX8_lesson_11 : decode cX8_lesson 11 = .ok (.invokestatic 91, 3) := by decide +kernel
theorem dX8_lesson_14 : decode cX8_lesson 14 = .ok (.ifCond .ne 6, 3) := by decide +kernel
theorem dX8_lesson_17 : decode cX8_lesson 17 = .ok (.ldc 158, 2) := by decide +kernel
theorem dX8_lesson_19 : decode cX8_lesson 19 = .ok (.ireturn, 1) := by decide +kernel
theorem dX8_lesson_20 : decode cX8_lesson 20 = .ok (.aload_n 0, 1) := by decide +kernel
theorem dX8_lesson_21 : decode cX8_lesson 21 = .ok (.getfield 47, 3) := by decide +kernel
theorem dX8_lesson_24 : decode cX8_lesson 24 = .ok (.getfield 131, 3) := by decide +kernel
theorem dX8_lesson_27 : decode cX8_lesson 27 = .ok (.iload_n 1, 1) := by decide +kernel
theorem dX8_lesson_28 : decode cX8_lesson 28 = .ok (.aaload, 1) := by decide +kernel
theorem dX8_lesson_29 : decode cX8_lesson 29 = .ok (.iload_n 2, 1) := by decide +kernel
theorem dX8_lesson_30 : decode cX8_lesson 30 = .ok (.invokevirtual 270, 3) := by decide +kernel
theorem dX8_lesson_33 : decode cX8_lesson 33 = .ok (.aload_n 0, 1) := by decide +kernel
theorem dX8_lesson_34 : decode cX8_lesson 34 = .ok (.aload_n 0, 1) := by decide +kernel
theorem dX8_lesson_35 : decode cX8_lesson 35 = .ok (.getfield 47, 3) := by decide +kernel
theorem dX8_lesson_38 : decode cX8_lesson 38 = .ok (.getfield 131, 3) := by decide +kernel
theorem dX8_lesson_41 : decode cX8_lesson 41 = .ok (.iload_n 1, 1) := by decide +kernel
theorem dX8_lesson_42 : decode cX8_lesson 42 = .ok (.aaload, 1) := by decide +kernel
theorem dX8_lesson_43 : decode cX8_lesson 43 = .ok (.invokevirtual 274, 3) := by decide +kernel
theorem dX8_lesson_46 : decode cX8_lesson 46 = .ok (.ireturn, 1) := by decide +kernel
theorem dX8_plan_0 : decode cX8_plan 0 = .ok (.aload_n 0, 1) := by decide +kernel
theorem dX8_plan_1 : decode cX8_plan 1 = .ok (.iload_n 1, 1) := by decide +kernel
theorem dX8_plan_2 : decode cX8_plan 2 = .ok (.invokevirtual 165, 3) := by decide +kernel
theorem dX8_plan_5 : decode cX8_plan 5 = .ok (.ifCond .ne 6, 3) := by decide +kernel
theorem dX8_plan_8 : decode cX8_plan 8 = .ok (.ldc 158, 2) := by decide +kernel
theorem dX8_plan_10 : decode cX8_plan 10 = .ok (.ireturn, 1) := by decide +kernel
theorem dX8_plan_11 : decode cX8_plan 11 = .ok (.iload_n 2, 1) := by decide +kernel
theorem dX8_plan_12 : decode cX8_plan 12 = .ok (.iconst 1, 1) := by decide +kernel
theorem dX8_plan_13 : decode cX8_plan 13 = .ok (.iconst 4, 1) := by decide +kernel
theorem dX8_plan_14 : decode cX8_plan 14 = .ok (.invokestatic 91, 3) := by decide +kernel
theorem dX8_plan_17 : decode cX8_plan 17 = .ok (.ifCond .eq 12, 3) := by decide +kernel
theorem dX8_plan_20 : decode cX8_plan 20 = .ok (.iload_n 3, 1) := by decide +kernel
theorem dX8_plan_21 : decode cX8_plan 21 = .ok (.iconst 0, 1) := by decide +kernel
theorem dX8_plan_22 : decode cX8_plan 22 = .ok (.iload_n 2, 1) := by decide +kernel
theorem dX8_plan_23 : decode cX8_plan 23 = .ok (.invokestatic 91, 3) := by decide +kernel
theorem dX8_plan_26 : decode cX8_plan 26 = .ok (.ifCond .ne 6, 3) := by decide +kernel
theorem dX8_plan_29 : decode cX8_plan 29 = .ok (.ldc 95, 2) := by decide +kernel
theorem dX8_plan_31 : decode cX8_plan 31 = .ok (.ireturn, 1) := by decide +kernel
theorem dX8_plan_32 : decode cX8_plan 32 = .ok (.iconst (-1), 1) := by decide +kernel
theorem dX8_plan_33 : decode cX8_plan 33 = .ok (.istore 4, 2) := by decide +kernel
theorem dX8_plan_35 : decode cX8_plan 35 = .ok (.iconst 0, 1) := by decide +kernel
theorem dX8_plan_36 : decode cX8_plan 36 = .ok (.istore 5, 2) := by decide +kernel
theorem dX8_plan_38 : decode cX8_plan 38 = .ok (.iconst 0, 1) := by decide +kernel
theorem dX8_plan_39 : decode cX8_plan 39 = .ok (.istore 6, 2) := by decide +kernel
theorem dX8_plan_41 : decode cX8_plan 41 = .ok (.iload 6, 2) := by decide +kernel
theorem dX8_plan_43 : decode cX8_plan 43 = .ok (.iconst 1, 1) := by decide +kernel
theorem dX8_plan_44 : decode cX8_plan 44 = .ok (.iconst 2, 1) := by decide +kernel
theorem dX8_plan_45 : decode cX8_plan 45 = .ok (.iload_n 2, 1) := by decide +kernel
theorem dX8_plan_46 : decode cX8_plan 46 = .ok (.imul, 1) := by decide +kernel
theorem dX8_plan_47 : decode cX8_plan 47 = .ok (.ishl, 1) := by decide +kernel
theorem dX8_plan_48 : decode cX8_plan 48 = .ok (.if_icmp .ge 92, 3) := by decide +kernel
theorem dX8_plan_51 : decode cX8_plan 51 = .ok (.iload 6, 2) := by decide +kernel
theorem dX8_plan_53 : decode cX8_plan 53 = .ok (.iload_n 2, 1) := by decide +kernel
theorem dX8_plan_54 : decode cX8_plan 54 = .ok (.invokestatic 278, 3) := by decide +kernel
theorem dX8_plan_57 : decode cX8_plan 57 = .ok (.ifCond .ne 6, 3) := by decide +kernel
theorem dX8_plan_60 : decode cX8_plan 60 = .ok (.goto 74, 3) := by decide +kernel
theorem dX8_plan_63 : decode cX8_plan 63 = .ok (.aload_n 0, 1) := by decide +kernel
theorem dX8_plan_64 : decode cX8_plan 64 = .ok (.getfield 87, 3) := by decide +kernel
theorem dX8_plan_67 : decode cX8_plan 67 = .ok (.aload_n 0, 1) := by decide +kernel
theorem dX8_plan_68 : decode cX8_plan 68 = .ok (.getfield 47, 3) := by decide +kernel
theorem dX8_plan_71 : decode cX8_plan 71 = .ok (.getfield 131, 3) := by decide +kernel
theorem dX8_plan_74 : decode cX8_plan 74 = .ok (.iload_n 1, 1) := by decide +kernel
theorem dX8_plan_75 : decode cX8_plan 75 = .ok (.aaload, 1) := by decide +kernel
theorem dX8_plan_76 : decode cX8_plan 76 = .ok (.invokevirtual 281, 3) := by decide +kernel
theorem dX8_plan_79 : decode cX8_plan 79 = .ok (.iconst 1, 1) := by decide +kernel
theorem dX8_plan_80 : decode cX8_plan 80 = .ok (.istore 7, 2) := by decide +kernel
theorem dX8_plan_82 : decode cX8_plan 82 = .ok (.iload 7, 2) := by decide +kernel
theorem dX8_plan_84 : decode cX8_plan 84 = .ok (.iload_n 2, 1) := by decide +kernel
theorem dX8_plan_85 : decode cX8_plan 85 = .ok (.if_icmp .gt 24, 3) := by decide +kernel
theorem dX8_plan_88 : decode cX8_plan 88 = .ok (.aload_n 0, 1) := by decide +kernel
theorem dX8_plan_89 : decode cX8_plan 89 = .ok (.getfield 87, 3) := by decide +kernel
theorem dX8_plan_92 : decode cX8_plan 92 = .ok (.iload 6, 2) := by decide +kernel
theorem dX8_plan_94 : decode cX8_plan 94 = .ok (.iload_n 2, 1) := by decide +kernel
theorem dX8_plan_95 : decode cX8_plan 95 = .ok (.iload 7, 2) := by decide +kernel
theorem dX8_plan_97 : decode cX8_plan 97 = .ok (.invokestatic 285, 3) := by decide +kernel
theorem dX8_plan_100 : decode cX8_plan 100 = .ok (.invokevirtual 270, 3) := by decide +kernel
theorem dX8_plan_103 : decode cX8_plan 103 = .ok (.iinc 7 1, 3) := by decide +kernel
theorem dX8_plan_106 : decode cX8_plan 106 = .ok (.goto (-24), 3) := by decide +kernel
theorem dX8_plan_109 : decode cX8_plan 109 = .ok (.aload_n 0, 1) := by decide +kernel
theorem dX8_plan_110 : decode cX8_plan 110 = .ok (.aload_n 0, 1) := by decide +kernel
theorem dX8_plan_111 : decode cX8_plan 111 = .ok (.getfield 87, 3) := by decide +kernel
theorem dX8_plan_114 : decode cX8_plan 114 = .ok (.invokevirtual 274, 3) := by decide +kernel
theorem dX8_plan_117 : decode cX8_plan 117 = .ok (.istore 7, 2) := by decide +kernel
theorem dX8_plan_119 : decode cX8_plan 119 = .ok (.iload 7, 2) := by decide +kernel
theorem dX8_plan_121 : decode cX8_plan 121 = .ok (.iload 4, 2) := by decide +kernel
theorem dX8_plan_123 : decode cX8_plan 123 = .ok (.if_icmp .le 11, 3) := by decide +kernel
theorem dX8_plan_126 : decode cX8_plan 126 = .ok (.iload 7, 2) := by decide +kernel
theorem dX8_plan_128 : decode cX8_plan 128 = .ok (.istore 4, 2) := by decide +kernel
theorem dX8_plan_130 : decode cX8_plan 130 = .ok (.iload 6, 2) := by decide +kernel
theorem dX8_plan_132 : decode cX8_plan 132 = .ok (.istore 5, 2) := by decide +kernel
theorem dX8_plan_134 : decode cX8_plan 134 = .ok (.iinc 6 1, 3) := by decide +kernel
theorem dX8_plan_137 : decode cX8_plan 137 = .ok (.goto (-96), 3) := by decide +kernel
theorem dX8_plan_140 : decode cX8_plan 140 = .ok (.iload_n 3, 1) := by decide +kernel
theorem dX8_plan_141 : decode cX8_plan 141 = .ok (.ifCond .ne 8, 3) := by decide +kernel
theorem dX8_plan_144 : decode cX8_plan 144 = .ok (.iload 4, 2) := by decide +kernel
theorem dX8_plan_146 : decode cX8_plan 146 = .ok (.goto 10, 3) := by decide +kernel
theorem dX8_plan_149 : decode cX8_plan 149 = .ok (.iload 5, 2) := by decide +kernel
theorem dX8_plan_151 : decode cX8_plan 151 = .ok (.iload_n 2, 1) := by decide +kernel
theorem dX8_plan_152 : decode cX8_plan 152 = .ok (.iload_n 3, 1) := by decide +kernel
theorem dX8_plan_153 : decode cX8_plan 153 = .ok (.invokestatic 285, 3) := by decide +kernel
theorem dX8_plan_156 : decode cX8_plan 156 = .ok (.ireturn, 1) := by decide +kernel
theorem dX8_key_0 : decode cX8_key 0 = .ok (.iload_n 1, 1) := by decide +kernel
theorem dX8_key_1 : decode cX8_key 1 = .ok (.iconst 0, 1) := by decide +kernel
theorem dX8_key_2 : decode cX8_key 2 = .ok (.iconst 1, 1) := by decide +kernel
theorem dX8_key_3 : decode cX8_key 3 = .ok (.invokestatic 91, 3) := by decide +kernel
theorem dX8_key_6 : decode cX8_key 6 = .ok (.ifCond .ne 6, 3) := by decide +kernel
theorem dX8_key_9 : decode cX8_key 9 = .ok (.ldc 95, 2) := by decide +kernel
theorem dX8_key_11 : decode cX8_key 11 = .ok (.ireturn, 1) := by decide +kernel
theorem dX8_key_12 : decode cX8_key 12 = .ok (.iconst 0, 1) := by decide +kernel
theorem dX8_key_13 : decode cX8_key 13 = .ok (.istore_n 2, 1) := by decide +kernel
theorem dX8_key_14 : decode cX8_key 14 = .ok (.iconst (-1), 1) := by decide +kernel
theorem dX8_key_15 : decode cX8_key 15 = .ok (.istore_n 3, 1) := by decide +kernel
theorem dX8_key_16 : decode cX8_key 16 = .ok (.iconst 0, 1) := by decide +kernel
theorem dX8_key_17 : decode cX8_key 17 = .ok (.istore 4, 2) := by decide +kernel
theorem dX8_key_19 : decode cX8_key 19 = .ok (.iload 4, 2) := by decide +kernel
theorem dX8_key_21 : decode cX8_key 21 = .ok (.bipush 24, 2) := by decide +kernel
theorem dX8_key_23 : decode cX8_key 23 = .ok (.if_icmp .gt 53, 3) := by decide +kernel
theorem dX8_key_26 : decode cX8_key 26 = .ok (.iload 4, 2) := by decide +kernel
theorem dX8_key_28 : decode cX8_key 28 = .ok (.iconst 2, 1) := by decide +kernel
theorem dX8_key_29 : decode cX8_key 29 = .ok (.irem, 1) := by decide +kernel
theorem dX8_key_30 : decode cX8_key 30 = .ok (.iconst 1, 1) := by decide +kernel
theorem dX8_key_31 : decode cX8_key 31 = .ok (.if_icmp .ne 13, 3) := by decide +kernel
theorem dX8_key_34 : decode cX8_key 34 = .ok (.iload 4, 2) := by decide +kernel
theorem dX8_key_36 : decode cX8_key 36 = .ok (.iconst 1, 1) := by decide +kernel
theorem dX8_key_37 : decode cX8_key 37 = .ok (.iadd, 1) := by decide +kernel
theorem dX8_key_38 : decode cX8_key 38 = .ok (.ineg, 1) := by decide +kernel
theorem dX8_key_39 : decode cX8_key 39 = .ok (.iconst 2, 1) := by decide +kernel
theorem dX8_key_40 : decode cX8_key 40 = .ok (.idiv, 1) := by decide +kernel
theorem dX8_key_41 : decode cX8_key 41 = .ok (.goto 7, 3) := by decide +kernel
theorem dX8_key_44 : decode cX8_key 44 = .ok (.iload 4, 2) := by decide +kernel
theorem dX8_key_46 : decode cX8_key 46 = .ok (.iconst 2, 1) := by decide +kernel
theorem dX8_key_47 : decode cX8_key 47 = .ok (.idiv, 1) := by decide +kernel
theorem dX8_key_48 : decode cX8_key 48 = .ok (.istore 5, 2) := by decide +kernel
theorem dX8_key_50 : decode cX8_key 50 = .ok (.aload_n 0, 1) := by decide +kernel
theorem dX8_key_51 : decode cX8_key 51 = .ok (.iload 5, 2) := by decide +kernel
theorem dX8_key_53 : decode cX8_key 53 = .ok (.invokevirtual 289, 3) := by decide +kernel
theorem dX8_key_56 : decode cX8_key 56 = .ok (.istore 6, 2) := by decide +kernel
theorem dX8_key_58 : decode cX8_key 58 = .ok (.iload 6, 2) := by decide +kernel
theorem dX8_key_60 : decode cX8_key 60 = .ok (.iload_n 3, 1) := by decide +kernel
theorem dX8_key_61 : decode cX8_key 61 = .ok (.if_icmp .le 9, 3) := by decide +kernel
theorem dX8_key_64 : decode cX8_key 64 = .ok (.iload 6, 2) := by decide +kernel
theorem dX8_key_66 : decode cX8_key 66 = .ok (.istore_n 3, 1) := by decide +kernel
theorem dX8_key_67 : decode cX8_key 67 = .ok (.iload 5, 2) := by decide +kernel
theorem dX8_key_69 : decode cX8_key 69 = .ok (.istore_n 2, 1) := by decide +kernel
theorem dX8_key_70 : decode cX8_key 70 = .ok (.iinc 4 1, 3) := by decide +kernel
theorem dX8_key_73 : decode cX8_key 73 = .ok (.goto (-54), 3) := by decide +kernel
theorem dX8_key_76 : decode cX8_key 76 = .ok (.iload_n 1, 1) := by decide +kernel
theorem dX8_key_77 : decode cX8_key 77 = .ok (.ifCond .ne 7, 3) := by decide +kernel
theorem dX8_key_80 : decode cX8_key 80 = .ok (.iload_n 2, 1) := by decide +kernel
theorem dX8_key_81 : decode cX8_key 81 = .ok (.goto 4, 3) := by decide +kernel
theorem dX8_key_84 : decode cX8_key 84 = .ok (.iload_n 3, 1) := by decide +kernel
theorem dX8_key_85 : decode cX8_key 85 = .ok (.ireturn, 1) := by decide +kernel
theorem dX8_age_0 : decode cX8_age 0 = .ok (.aload_n 0, 1) := by decide +kernel
theorem dX8_age_1 : decode cX8_age 1 = .ok (.iload_n 1, 1) := by decide +kernel
theorem dX8_age_2 : decode cX8_age 2 = .ok (.invokevirtual 165, 3) := by decide +kernel
theorem dX8_age_5 : decode cX8_age 5 = .ok (.ifCond .ne 6, 3) := by decide +kernel
theorem dX8_age_8 : decode cX8_age 8 = .ok (.ldc 158, 2) := by decide +kernel
theorem dX8_age_10 : decode cX8_age 10 = .ok (.ireturn, 1) := by decide +kernel
theorem dX8_age_11 : decode cX8_age 11 = .ok (.aload_n 0, 1) := by decide +kernel
theorem dX8_age_12 : decode cX8_age 12 = .ok (.getfield 87, 3) := by decide +kernel
theorem dX8_age_15 : decode cX8_age 15 = .ok (.aload_n 0, 1) := by decide +kernel
theorem dX8_age_16 : decode cX8_age 16 = .ok (.getfield 47, 3) := by decide +kernel
theorem dX8_age_19 : decode cX8_age 19 = .ok (.getfield 131, 3) := by decide +kernel
theorem dX8_age_22 : decode cX8_age 22 = .ok (.iload_n 1, 1) := by decide +kernel
theorem dX8_age_23 : decode cX8_age 23 = .ok (.aaload, 1) := by decide +kernel
theorem dX8_age_24 : decode cX8_age 24 = .ok (.invokevirtual 281, 3) := by decide +kernel
theorem dX8_age_27 : decode cX8_age 27 = .ok (.iconst 0, 1) := by decide +kernel
theorem dX8_age_28 : decode cX8_age 28 = .ok (.istore_n 2, 1) := by decide +kernel
theorem dX8_age_29 : decode cX8_age 29 = .ok (.iload_n 2, 1) := by decide +kernel
theorem dX8_age_30 : decode cX8_age 30 = .ok (.bipush 30, 2) := by decide +kernel
theorem dX8_age_32 : decode cX8_age 32 = .ok (.if_icmp .gt 66, 3) := by decide +kernel
theorem dX8_age_35 : decode cX8_age 35 = .ok (.aload_n 0, 1) := by decide +kernel
theorem dX8_age_36 : decode cX8_age 36 = .ok (.aload_n 0, 1) := by decide +kernel
theorem dX8_age_37 : decode cX8_age 37 = .ok (.getfield 80, 3) := by decide +kernel
theorem dX8_age_40 : decode cX8_age 40 = .ok (.aload_n 0, 1) := by decide +kernel
theorem dX8_age_41 : decode cX8_age 41 = .ok (.getfield 87, 3) := by decide +kernel
theorem dX8_age_44 : decode cX8_age 44 = .ok (.iconst 3, 1) := by decide +kernel
theorem dX8_age_45 : decode cX8_age 45 = .ok (.invokevirtual 208, 3) := by decide +kernel
theorem dX8_age_48 : decode cX8_age 48 = .ok (.aload_n 0, 1) := by decide +kernel
theorem dX8_age_49 : decode cX8_age 49 = .ok (.getfield 80, 3) := by decide +kernel
theorem dX8_age_52 : decode cX8_age 52 = .ok (.aload_n 0, 1) := by decide +kernel
theorem dX8_age_53 : decode cX8_age 53 = .ok (.getfield 19, 3) := by decide +kernel
theorem dX8_age_56 : decode cX8_age 56 = .ok (.invokevirtual 228, 3) := by decide +kernel
theorem dX8_age_59 : decode cX8_age 59 = .ok (.istore_n 3, 1) := by decide +kernel
theorem dX8_age_60 : decode cX8_age 60 = .ok (.iload_n 3, 1) := by decide +kernel
theorem dX8_age_61 : decode cX8_age 61 = .ok (.iconst 3, 1) := by decide +kernel
theorem dX8_age_62 : decode cX8_age 62 = .ok (.iand, 1) := by decide +kernel
theorem dX8_age_63 : decode cX8_age 63 = .ok (.ifCond .ne 5, 3) := by decide +kernel
theorem dX8_age_66 : decode cX8_age 66 = .ok (.iload_n 2, 1) := by decide +kernel
theorem dX8_age_67 : decode cX8_age 67 = .ok (.ireturn, 1) := by decide +kernel
theorem dX8_age_68 : decode cX8_age 68 = .ok (.iconst 0, 1) := by decide +kernel
theorem dX8_age_69 : decode cX8_age 69 = .ok (.istore 4, 2) := by decide +kernel
theorem dX8_age_71 : decode cX8_age 71 = .ok (.iload 4, 2) := by decide +kernel
theorem dX8_age_73 : decode cX8_age 73 = .ok (.iconst 4, 1) := by decide +kernel
theorem dX8_age_74 : decode cX8_age 74 = .ok (.if_icmp .ge 18, 3) := by decide +kernel
theorem dX8_age_77 : decode cX8_age 77 = .ok (.aload_n 0, 1) := by decide +kernel
theorem dX8_age_78 : decode cX8_age 78 = .ok (.getfield 87, 3) := by decide +kernel
theorem dX8_age_81 : decode cX8_age 81 = .ok (.iload 4, 2) := by decide +kernel
theorem dX8_age_83 : decode cX8_age 83 = .ok (.invokevirtual 270, 3) := by decide +kernel
theorem dX8_age_86 : decode cX8_age 86 = .ok (.iinc 4 1, 3) := by decide +kernel
theorem dX8_age_89 : decode cX8_age 89 = .ok (.goto (-18), 3) := by decide +kernel
theorem dX8_age_92 : decode cX8_age 92 = .ok (.iinc 2 1, 3) := by decide +kernel
theorem dX8_age_95 : decode cX8_age 95 = .ok (.goto (-66), 3) := by decide +kernel
theorem dX8_age_98 : decode cX8_age 98 = .ok (.iconst (-1), 1) := by decide +kernel
theorem dX8_age_99 : decode cX8_age 99 = .ok (.ireturn, 1) := by decide +kernel
theorem dX8_passes_0 : decode cX8_passes 0 = .ok (.iload_n 1, 1) := by decide +kernel
theorem dX8_passes_1 : decode cX8_passes 1 = .ok (.iconst 1, 1) := by decide +kernel
theorem dX8_passes_2 : decode cX8_passes 2 = .ok (.bipush 16, 2) := by decide +kernel
theorem dX8_passes_4 : decode cX8_passes 4 = .ok (.invokestatic 91, 3) := by decide +kernel
theorem dX8_passes_7 : decode cX8_passes 7 = .ok (.ifCond .eq 12, 3) := by decide +kernel
theorem dX8_passes_10 : decode cX8_passes 10 = .ok (.iload_n 2, 1) := by decide +kernel
theorem dX8_passes_11 : decode cX8_passes 11 = .ok (.iconst 0, 1) := by decide +kernel
theorem dX8_passes_12 : decode cX8_passes 12 = .ok (.iconst 1, 1) := by decide +kernel
theorem dX8_passes_13 : decode cX8_passes 13 = .ok (.invokestatic 91, 3) := by decide +kernel
theorem dX8_passes_16 : decode cX8_passes 16 = .ok (.ifCond .ne 6, 3) := by decide +kernel
theorem dX8_passes_19 : decode cX8_passes 19 = .ok (.ldc 95, 2) := by decide +kernel
theorem dX8_passes_21 : decode cX8_passes 21 = .ok (.ireturn, 1) := by decide +kernel
theorem dX8_passes_22 : decode cX8_passes 22 = .ok (.iconst 0, 1) := by decide +kernel
theorem dX8_passes_23 : decode cX8_passes 23 = .ok (.istore_n 3, 1) := by decide +kernel
theorem dX8_passes_24 : decode cX8_passes 24 = .ok (.iload_n 3, 1) := by decide +kernel
theorem dX8_passes_25 : decode cX8_passes 25 = .ok (.bipush 30, 2) := by decide +kernel
theorem dX8_passes_27 : decode cX8_passes 27 = .ok (.if_icmp .ge 23, 3) := by decide +kernel
theorem dX8_passes_30 : decode cX8_passes 30 = .ok (.iconst 1, 1) := by decide +kernel
theorem dX8_passes_31 : decode cX8_passes 31 = .ok (.iload_n 3, 1) := by decide +kernel
theorem dX8_passes_32 : decode cX8_passes 32 = .ok (.ishl, 1) := by decide +kernel
theorem dX8_passes_33 : decode cX8_passes 33 = .ok (.iload_n 1, 1) := by decide +kernel
theorem dX8_passes_34 : decode cX8_passes 34 = .ok (.iload_n 2, 1) := by decide +kernel
theorem dX8_passes_35 : decode cX8_passes 35 = .ok (.iload_n 3, 1) := by decide +kernel
theorem dX8_passes_36 : decode cX8_passes 36 = .ok (.invokestatic 292, 3) := by decide +kernel
theorem dX8_passes_39 : decode cX8_passes 39 = .ok (.if_icmp .lt 5, 3) := by decide +kernel
theorem dX8_passes_42 : decode cX8_passes 42 = .ok (.iload_n 3, 1) := by decide +kernel
theorem dX8_passes_43 : decode cX8_passes 43 = .ok (.ireturn, 1) := by decide +kernel
theorem dX8_passes_44 : decode cX8_passes 44 = .ok (.iinc 3 1, 3) := by decide +kernel
theorem dX8_passes_47 : decode cX8_passes 47 = .ok (.goto (-23), 3) := by decide +kernel
theorem dX8_passes_50 : decode cX8_passes 50 = .ok (.iconst (-1), 1) := by decide +kernel
theorem dX8_passes_51 : decode cX8_passes 51 = .ok (.ireturn, 1) := by decide +kernel
theorem dX8_pairs_0 : decode cX8_pairs 0 = .ok (.iload_n 1, 1) := by decide +kernel
theorem dX8_pairs_1 : decode cX8_pairs 1 = .ok (.iconst 2, 1) := by decide +kernel
theorem dX8_pairs_2 : decode cX8_pairs 2 = .ok (.bipush 16, 2) := by decide +kernel
theorem dX8_pairs_4 : decode cX8_pairs 4 = .ok (.invokestatic 91, 3) := by decide +kernel
theorem dX8_pairs_7 : decode cX8_pairs 7 = .ok (.ifCond .ne 6, 3) := by decide +kernel
theorem dX8_pairs_10 : decode cX8_pairs 10 = .ok (.ldc 95, 2) := by decide +kernel
theorem dX8_pairs_12 : decode cX8_pairs 12 = .ok (.ireturn, 1) := by decide +kernel
theorem dX8_pairs_13 : decode cX8_pairs 13 = .ok (.iload_n 1, 1) := by decide +kernel
theorem dX8_pairs_14 : decode cX8_pairs 14 = .ok (.iload_n 1, 1) := by decide +kernel
theorem dX8_pairs_15 : decode cX8_pairs 15 = .ok (.iconst 1, 1) := by decide +kernel
theorem dX8_pairs_16 : decode cX8_pairs 16 = .ok (.isub, 1) := by decide +kernel
theorem dX8_pairs_17 : decode cX8_pairs 17 = .ok (.imul, 1) := by decide +kernel
theorem dX8_pairs_18 : decode cX8_pairs 18 = .ok (.iconst 2, 1) := by decide +kernel
theorem dX8_pairs_19 : decode cX8_pairs 19 = .ok (.idiv, 1) := by decide +kernel
theorem dX8_pairs_20 : decode cX8_pairs 20 = .ok (.istore_n 2, 1) := by decide +kernel
theorem dX8_pairs_21 : decode cX8_pairs 21 = .ok (.iconst 0, 1) := by decide +kernel
theorem dX8_pairs_22 : decode cX8_pairs 22 = .ok (.istore_n 3, 1) := by decide +kernel
theorem dX8_pairs_23 : decode cX8_pairs 23 = .ok (.iload_n 3, 1) := by decide +kernel
theorem dX8_pairs_24 : decode cX8_pairs 24 = .ok (.bipush 30, 2) := by decide +kernel
theorem dX8_pairs_26 : decode cX8_pairs 26 = .ok (.if_icmp .ge 18, 3) := by decide +kernel
theorem dX8_pairs_29 : decode cX8_pairs 29 = .ok (.iconst 1, 1) := by decide +kernel
theorem dX8_pairs_30 : decode cX8_pairs 30 = .ok (.iload_n 3, 1) := by decide +kernel
theorem dX8_pairs_31 : decode cX8_pairs 31 = .ok (.ishl, 1) := by decide +kernel
theorem dX8_pairs_32 : decode cX8_pairs 32 = .ok (.iload_n 2, 1) := by decide +kernel
theorem dX8_pairs_33 : decode cX8_pairs 33 = .ok (.if_icmp .lt 5, 3) := by decide +kernel
theorem dX8_pairs_36 : decode cX8_pairs 36 = .ok (.iload_n 3, 1) := by decide +kernel
theorem dX8_pairs_37 : decode cX8_pairs 37 = .ok (.ireturn, 1) := by decide +kernel
theorem dX8_pairs_38 : decode cX8_pairs 38 = .ok (.iinc 3 1, 3) := by decide +kernel
theorem dX8_pairs_41 : decode cX8_pairs 41 = .ok (.goto (-18), 3) := by decide +kernel
theorem dX8_pairs_44 : decode cX8_pairs 44 = .ok (.iconst (-1), 1) := by decide +kernel
theorem dX8_pairs_45 : decode cX8_pairs 45 = .ok (.ireturn, 1) := by decide +kernel
theorem dX8_join_0 : decode cX8_join 0 = .ok (.iload_n 1, 1) := by decide +kernel
theorem dX8_join_1 : decode cX8_join 1 = .ok (.invokestatic 295, 3) := by decide +kernel
theorem dX8_join_4 : decode cX8_join 4 = .ok (.ifCond .ne 6, 3) := by decide +kernel
theorem dX8_join_7 : decode cX8_join 7 = .ok (.ldc 95, 2) := by decide +kernel
theorem dX8_join_9 : decode cX8_join 9 = .ok (.ireturn, 1) := by decide +kernel
theorem dX8_join_10 : decode cX8_join 10 = .ok (.aload_n 0, 1) := by decide +kernel
theorem dX8_join_11 : decode cX8_join 11 = .ok (.getfield 65, 3) := by decide +kernel
theorem dX8_join_14 : decode cX8_join 14 = .ok (.getfield 151, 3) := by decide +kernel
theorem dX8_join_17 : decode cX8_join 17 = .ok (.bipush 8, 2) := by decide +kernel
theorem dX8_join_19 : decode cX8_join 19 = .ok (.if_icmp .lt 6, 3) := by decide +kernel
theorem dX8_join_22 : decode cX8_join 22 = .ok (.ldc 99, 2) := by decide +kernel
theorem dX8_join_24 : decode cX8_join 24 = .ok (.ireturn, 1) := by decide +kernel
theorem dX8_join_25 : decode cX8_join 25 = .ok (.aload_n 0, 1) := by decide +kernel
theorem dX8_join_26 : decode cX8_join 26 = .ok (.getfield 65, 3) := by decide +kernel
theorem dX8_join_29 : decode cX8_join 29 = .ok (.iload_n 1, 1) := by decide +kernel
theorem dX8_join_30 : decode cX8_join 30 = .ok (.invokevirtual 298, 3) := by decide +kernel
theorem dX8_join_33 : decode cX8_join 33 = .ok (.aload_n 0, 1) := by decide +kernel
theorem dX8_join_34 : decode cX8_join 34 = .ok (.getfield 65, 3) := by decide +kernel
theorem dX8_join_37 : decode cX8_join 37 = .ok (.getfield 151, 3) := by decide +kernel
theorem dX8_join_40 : decode cX8_join 40 = .ok (.ireturn, 1) := by decide +kernel
theorem dX8_part_0 : decode cX8_part 0 = .ok (.aload_n 0, 1) := by decide +kernel
theorem dX8_part_1 : decode cX8_part 1 = .ok (.getfield 65, 3) := by decide +kernel
theorem dX8_part_4 : decode cX8_part 4 = .ok (.getfield 151, 3) := by decide +kernel
theorem dX8_part_7 : decode cX8_part 7 = .ok (.istore_n 1, 1) := by decide +kernel
theorem dX8_part_8 : decode cX8_part 8 = .ok (.aload_n 0, 1) := by decide +kernel
theorem dX8_part_9 : decode cX8_part 9 = .ok (.getfield 65, 3) := by decide +kernel
theorem dX8_part_12 : decode cX8_part 12 = .ok (.iconst 0, 1) := by decide +kernel
theorem dX8_part_13 : decode cX8_part 13 = .ok (.putfield 151, 3) := by decide +kernel
theorem dX8_part_16 : decode cX8_part 16 = .ok (.iload_n 1, 1) := by decide +kernel
theorem dX8_part_17 : decode cX8_part 17 = .ok (.ireturn, 1) := by decide +kernel
theorem dX8_ends_0 : decode cX8_ends 0 = .ok (.iload_n 1, 1) := by decide +kernel
theorem dX8_ends_1 : decode cX8_ends 1 = .ok (.iconst 0, 1) := by decide +kernel
theorem dX8_ends_2 : decode cX8_ends 2 = .ok (.iconst 1, 1) := by decide +kernel
theorem dX8_ends_3 : decode cX8_ends 3 = .ok (.invokestatic 91, 3) := by decide +kernel
theorem dX8_ends_6 : decode cX8_ends 6 = .ok (.ifCond .ne 6, 3) := by decide +kernel
theorem dX8_ends_9 : decode cX8_ends 9 = .ok (.ldc 95, 2) := by decide +kernel
theorem dX8_ends_11 : decode cX8_ends 11 = .ok (.ireturn, 1) := by decide +kernel
theorem dX8_ends_12 : decode cX8_ends 12 = .ok (.aload_n 0, 1) := by decide +kernel
theorem dX8_ends_13 : decode cX8_ends 13 = .ok (.getfield 65, 3) := by decide +kernel
theorem dX8_ends_16 : decode cX8_ends 16 = .ok (.getfield 151, 3) := by decide +kernel
theorem dX8_ends_19 : decode cX8_ends 19 = .ok (.ifCond .ne 6, 3) := by decide +kernel
theorem dX8_ends_22 : decode cX8_ends 22 = .ok (.ldc 219, 2) := by decide +kernel
theorem dX8_ends_24 : decode cX8_ends 24 = .ok (.ireturn, 1) := by decide +kernel
theorem dX8_ends_25 : decode cX8_ends 25 = .ok (.aload_n 0, 1) := by decide +kernel
theorem dX8_ends_26 : decode cX8_ends 26 = .ok (.getfield 65, 3) := by decide +kernel
theorem dX8_ends_29 : decode cX8_ends 29 = .ok (.invokevirtual 300, 3) := by decide +kernel
theorem dX8_ends_32 : decode cX8_ends 32 = .ok (.iload_n 1, 1) := by decide +kernel
theorem dX8_ends_33 : decode cX8_ends 33 = .ok (.ifCond .ne 13, 3) := by decide +kernel
theorem dX8_ends_36 : decode cX8_ends 36 = .ok (.aload_n 0, 1) := by decide +kernel
theorem dX8_ends_37 : decode cX8_ends 37 = .ok (.getfield 65, 3) := by decide +kernel
theorem dX8_ends_40 : decode cX8_ends 40 = .ok (.getfield 303, 3) := by decide +kernel
theorem dX8_ends_43 : decode cX8_ends 43 = .ok (.goto 10, 3) := by decide +kernel
theorem dX8_ends_46 : decode cX8_ends 46 = .ok (.aload_n 0, 1) := by decide +kernel
theorem dX8_ends_47 : decode cX8_ends 47 = .ok (.getfield 65, 3) := by decide +kernel
theorem dX8_ends_50 : decode cX8_ends 50 = .ok (.getfield 306, 3) := by decide +kernel
theorem dX8_ends_53 : decode cX8_ends 53 = .ok (.ireturn, 1) := by decide +kernel
theorem dX8_round_0 : decode cX8_round 0 = .ok (.iload_n 1, 1) := by decide +kernel
theorem dX8_round_1 : decode cX8_round 1 = .ok (.invokestatic 295, 3) := by decide +kernel
theorem dX8_round_4 : decode cX8_round 4 = .ok (.ifCond .eq 30, 3) := by decide +kernel
theorem dX8_round_7 : decode cX8_round 7 = .ok (.iload_n 2, 1) := by decide +kernel
theorem dX8_round_8 : decode cX8_round 8 = .ok (.invokestatic 295, 3) := by decide +kernel
theorem dX8_round_11 : decode cX8_round 11 = .ok (.ifCond .eq 23, 3) := by decide +kernel
theorem dX8_round_14 : decode cX8_round 14 = .ok (.iload_n 3, 1) := by decide +kernel
theorem dX8_round_15 : decode cX8_round 15 = .ok (.iconst 0, 1) := by decide +kernel
theorem dX8_round_16 : decode cX8_round 16 = .ok (.bipush 99, 2) := by decide +kernel
theorem dX8_round_18 : decode cX8_round 18 = .ok (.invokestatic 91, 3) := by decide +kernel
theorem dX8_round_21 : decode cX8_round 21 = .ok (.ifCond .eq 13, 3) := by decide +kernel
theorem dX8_round_24 : decode cX8_round 24 = .ok (.iload 4, 2) := by decide +kernel
theorem dX8_round_26 : decode cX8_round 26 = .ok (.iconst 0, 1) := by decide +kernel
theorem dX8_round_27 : decode cX8_round 27 = .ok (.iconst 1, 1) := by decide +kernel
theorem dX8_round_28 : decode cX8_round 28 = .ok (.invokestatic 91, 3) := by decide +kernel
theorem dX8_round_31 : decode cX8_round 31 = .ok (.ifCond .ne 6, 3) := by decide +kernel
theorem dX8_round_34 : decode cX8_round 34 = .ok (.ldc 95, 2) := by decide +kernel
theorem dX8_round_36 : decode cX8_round 36 = .ok (.ireturn, 1) := by decide +kernel
theorem dX8_round_37 : decode cX8_round 37 = .ok (.iload_n 1, 1) := by decide +kernel
theorem dX8_round_38 : decode cX8_round 38 = .ok (.istore 5, 2) := by decide +kernel
theorem dX8_round_40 : decode cX8_round 40 = .ok (.iload_n 2, 1) := by decide +kernel
theorem dX8_round_41 : decode cX8_round 41 = .ok (.istore 6, 2) := by decide +kernel
theorem dX8_round_43 : decode cX8_round 43 = .ok (.iconst 0, 1) := by decide +kernel
theorem dX8_round_44 : decode cX8_round 44 = .ok (.istore 7, 2) := by decide +kernel
theorem dX8_round_46 : decode cX8_round 46 = .ok (.iload 7, 2) := by decide +kernel
theorem dX8_round_48 : decode cX8_round 48 = .ok (.iload_n 3, 1) := by decide +kernel
theorem dX8_round_49 : decode cX8_round 49 = .ok (.if_icmp .ge 32, 3) := by decide +kernel
theorem dX8_round_52 : decode cX8_round 52 = .ok (.iload 6, 2) := by decide +kernel
theorem dX8_round_54 : decode cX8_round 54 = .ok (.iload 5, 2) := by decide +kernel
theorem dX8_round_56 : decode cX8_round 56 = .ok (.isub, 1) := by decide +kernel
theorem dX8_round_57 : decode cX8_round 57 = .ok (.iconst 3, 1) := by decide +kernel
theorem dX8_round_58 : decode cX8_round 58 = .ok (.idiv, 1) := by decide +kernel
theorem dX8_round_59 : decode cX8_round 59 = .ok (.istore 8, 2) := by decide +kernel
theorem dX8_round_61 : decode cX8_round 61 = .ok (.iload 5, 2) := by decide +kernel
theorem dX8_round_63 : decode cX8_round 63 = .ok (.iload 8, 2) := by decide +kernel
theorem dX8_round_65 : decode cX8_round 65 = .ok (.iadd, 1) := by decide +kernel
theorem dX8_round_66 : decode cX8_round 66 = .ok (.istore 5, 2) := by decide +kernel
theorem dX8_round_68 : decode cX8_round 68 = .ok (.iload 6, 2) := by decide +kernel
theorem dX8_round_70 : decode cX8_round 70 = .ok (.iload 8, 2) := by decide +kernel
theorem dX8_round_72 : decode cX8_round 72 = .ok (.isub, 1) := by decide +kernel
theorem dX8_round_73 : decode cX8_round 73 = .ok (.istore 6, 2) := by decide +kernel
theorem dX8_round_75 : decode cX8_round 75 = .ok (.iinc 7 1, 3) := by decide +kernel
theorem dX8_round_78 : decode cX8_round 78 = .ok (.goto (-32), 3) := by decide +kernel
theorem dX8_round_81 : decode cX8_round 81 = .ok (.iload 4, 2) := by decide +kernel
theorem dX8_round_83 : decode cX8_round 83 = .ok (.ifCond .ne 8, 3) := by decide +kernel
theorem dX8_round_86 : decode cX8_round 86 = .ok (.iload 5, 2) := by decide +kernel
theorem dX8_round_88 : decode cX8_round 88 = .ok (.goto 5, 3) := by decide +kernel
theorem dX8_round_91 : decode cX8_round 91 = .ok (.iload 6, 2) := by decide +kernel
theorem dX8_round_93 : decode cX8_round 93 = .ok (.ireturn, 1) := by decide +kernel
theorem dX8_write_0 : decode cX8_write 0 = .ok (.iload_n 1, 1) := by decide +kernel
theorem dX8_write_1 : decode cX8_write 1 = .ok (.iconst 0, 1) := by decide +kernel
theorem dX8_write_2 : decode cX8_write 2 = .ok (.sipush 9999, 3) := by decide +kernel
theorem dX8_write_5 : decode cX8_write 5 = .ok (.invokestatic 91, 3) := by decide +kernel
theorem dX8_write_8 : decode cX8_write 8 = .ok (.ifCond .ne 6, 3) := by decide +kernel
theorem dX8_write_11 : decode cX8_write 11 = .ok (.ldc 95, 2) := by decide +kernel
theorem dX8_write_13 : decode cX8_write 13 = .ok (.ireturn, 1) := by decide +kernel
theorem dX8_write_14 : decode cX8_write 14 = .ok (.aload_n 0, 1) := by decide +kernel
theorem dX8_write_15 : decode cX8_write 15 = .ok (.getfield 73, 3) := by decide +kernel
theorem dX8_write_18 : decode cX8_write 18 = .ok (.bipush 40, 2) := by decide +kernel
theorem dX8_write_20 : decode cX8_write 20 = .ok (.if_icmp .lt 6, 3) := by decide +kernel
theorem dX8_write_23 : decode cX8_write 23 = .ok (.ldc 99, 2) := by decide +kernel
theorem dX8_write_25 : decode cX8_write 25 = .ok (.ireturn, 1) := by decide +kernel
theorem dX8_write_26 : decode cX8_write 26 = .ok (.aload_n 0, 1) := by decide +kernel
theorem dX8_write_27 : decode cX8_write 27 = .ok (.getfield 69, 3) := by decide +kernel
theorem dX8_write_30 : decode cX8_write 30 = .ok (.aload_n 0, 1) := by decide +kernel
theorem dX8_write_31 : decode cX8_write 31 = .ok (.getfield 73, 3) := by decide +kernel
theorem dX8_write_34 : decode cX8_write 34 = .ok (.iload_n 1, 1) := by decide +kernel
theorem dX8_write_35 : decode cX8_write 35 = .ok (.iastore, 1) := by decide +kernel
theorem dX8_write_36 : decode cX8_write 36 = .ok (.aload_n 0, 1) := by decide +kernel
theorem dX8_write_37 : decode cX8_write 37 = .ok (.dup, 1) := by decide +kernel
theorem dX8_write_38 : decode cX8_write 38 = .ok (.getfield 73, 3) := by decide +kernel
theorem dX8_write_41 : decode cX8_write 41 = .ok (.iconst 1, 1) := by decide +kernel
theorem dX8_write_42 : decode cX8_write 42 = .ok (.iadd, 1) := by decide +kernel
theorem dX8_write_43 : decode cX8_write 43 = .ok (.putfield 73, 3) := by decide +kernel
theorem dX8_write_46 : decode cX8_write 46 = .ok (.aload_n 0, 1) := by decide +kernel
theorem dX8_write_47 : decode cX8_write 47 = .ok (.getfield 73, 3) := by decide +kernel
theorem dX8_write_50 : decode cX8_write 50 = .ok (.ireturn, 1) := by decide +kernel
theorem dX8_tear_0 : decode cX8_tear 0 = .ok (.aload_n 0, 1) := by decide +kernel
theorem dX8_tear_1 : decode cX8_tear 1 = .ok (.getfield 73, 3) := by decide +kernel
theorem dX8_tear_4 : decode cX8_tear 4 = .ok (.istore_n 1, 1) := by decide +kernel
theorem dX8_tear_5 : decode cX8_tear 5 = .ok (.aload_n 0, 1) := by decide +kernel
theorem dX8_tear_6 : decode cX8_tear 6 = .ok (.iconst 0, 1) := by decide +kernel
theorem dX8_tear_7 : decode cX8_tear 7 = .ok (.putfield 73, 3) := by decide +kernel
theorem dX8_tear_10 : decode cX8_tear 10 = .ok (.iload_n 1, 1) := by decide +kernel
theorem dX8_tear_11 : decode cX8_tear 11 = .ok (.ireturn, 1) := by decide +kernel
theorem dX8_judge_0 : decode cX8_judge 0 = .ok (.aload_n 0, 1) := by decide +kernel
theorem dX8_judge_1 : decode cX8_judge 1 = .ok (.invokevirtual 216, 3) := by decide +kernel
theorem dX8_judge_4 : decode cX8_judge 4 = .ok (.ifCond .ne 6, 3) := by decide +kernel
theorem dX8_judge_7 : decode cX8_judge 7 = .ok (.ldc 219, 2) := by decide +kernel
theorem dX8_judge_9 : decode cX8_judge 9 = .ok (.ireturn, 1) := by decide +kernel
theorem dX8_judge_10 : decode cX8_judge 10 = .ok (.iconst 0, 1) := by decide +kernel
theorem dX8_judge_11 : decode cX8_judge 11 = .ok (.istore_n 1, 1) := by decide +kernel
theorem dX8_judge_12 : decode cX8_judge 12 = .ok (.iload_n 1, 1) := by decide +kernel
theorem dX8_judge_13 : decode cX8_judge 13 = .ok (.aload_n 0, 1) := by decide +kernel
theorem dX8_judge_14 : decode cX8_judge 14 = .ok (.getfield 73, 3) := by decide +kernel
theorem dX8_judge_17 : decode cX8_judge 17 = .ok (.if_icmp .ge 42, 3) := by decide +kernel
theorem dX8_judge_20 : decode cX8_judge 20 = .ok (.aload_n 0, 1) := by decide +kernel
theorem dX8_judge_21 : decode cX8_judge 21 = .ok (.getfield 47, 3) := by decide +kernel
theorem dX8_judge_24 : decode cX8_judge 24 = .ok (.getfield 145, 3) := by decide +kernel
theorem dX8_judge_27 : decode cX8_judge 27 = .ok (.iload_n 1, 1) := by decide +kernel
theorem dX8_judge_28 : decode cX8_judge 28 = .ok (.invokevirtual 220, 3) := by decide +kernel
theorem dX8_judge_31 : decode cX8_judge 31 = .ok (.istore_n 2, 1) := by decide +kernel
theorem dX8_judge_32 : decode cX8_judge 32 = .ok (.iload_n 2, 1) := by decide +kernel
theorem dX8_judge_33 : decode cX8_judge 33 = .ok (.iconst (-1), 1) := by decide +kernel
theorem dX8_judge_34 : decode cX8_judge 34 = .ok (.if_icmp .eq 17, 3) := by decide +kernel
theorem dX8_judge_37 : decode cX8_judge 37 = .ok (.aload_n 0, 1) := by decide +kernel
theorem dX8_judge_38 : decode cX8_judge 38 = .ok (.getfield 69, 3) := by decide +kernel
theorem dX8_judge_41 : decode cX8_judge 41 = .ok (.iload_n 1, 1) := by decide +kernel
theorem dX8_judge_42 : decode cX8_judge 42 = .ok (.iaload, 1) := by decide +kernel
theorem dX8_judge_43 : decode cX8_judge 43 = .ok (.iload_n 2, 1) := by decide +kernel
theorem dX8_judge_44 : decode cX8_judge 44 = .ok (.isub, 1) := by decide +kernel
theorem dX8_judge_45 : decode cX8_judge 45 = .ok (.invokestatic 309, 3) := by decide +kernel
theorem dX8_judge_48 : decode cX8_judge 48 = .ok (.ifCond .ne 5, 3) := by decide +kernel
theorem dX8_judge_51 : decode cX8_judge 51 = .ok (.iload_n 1, 1) := by decide +kernel
theorem dX8_judge_52 : decode cX8_judge 52 = .ok (.ireturn, 1) := by decide +kernel
theorem dX8_judge_53 : decode cX8_judge 53 = .ok (.iinc 1 1, 3) := by decide +kernel
theorem dX8_judge_56 : decode cX8_judge 56 = .ok (.goto (-44), 3) := by decide +kernel
theorem dX8_judge_59 : decode cX8_judge 59 = .ok (.iconst (-1), 1) := by decide +kernel
theorem dX8_judge_60 : decode cX8_judge 60 = .ok (.ireturn, 1) := by decide +kernel
theorem dX8_seed_0 : decode cX8_seed 0 = .ok (.iload_n 1, 1) := by decide +kernel
theorem dX8_seed_1 : decode cX8_seed 1 = .ok (.ifCond .ge 6, 3) := by decide +kernel
theorem dX8_seed_4 : decode cX8_seed 4 = .ok (.ldc 95, 2) := by decide +kernel
theorem dX8_seed_6 : decode cX8_seed 6 = .ok (.ireturn, 1) := by decide +kernel
theorem dX8_seed_7 : decode cX8_seed 7 = .ok (.aload_n 0, 1) := by decide +kernel
theorem dX8_seed_8 : decode cX8_seed 8 = .ok (.getfield 47, 3) := by decide +kernel
theorem dX8_seed_11 : decode cX8_seed 11 = .ok (.getfield 312, 3) := by decide +kernel
theorem dX8_seed_14 : decode cX8_seed 14 = .ok (.istore_n 2, 1) := by decide +kernel
theorem dX8_seed_15 : decode cX8_seed 15 = .ok (.aload_n 0, 1) := by decide +kernel
theorem dX8_seed_16 : decode cX8_seed 16 = .ok (.getfield 47, 3) := by decide +kernel
theorem dX8_seed_19 : decode cX8_seed 19 = .ok (.iload_n 1, 1) := by decide +kernel
theorem dX8_seed_20 : decode cX8_seed 20 = .ok (.putfield 312, 3) := by decide +kernel
theorem dX8_seed_23 : decode cX8_seed 23 = .ok (.iload_n 2, 1) := by decide +kernel
theorem dX8_seed_24 : decode cX8_seed 24 = .ok (.ireturn, 1) := by decide +kernel
theorem dX8_keep_0 : decode cX8_keep 0 = .ok (.iload_n 1, 1) := by decide +kernel
theorem dX8_keep_1 : decode cX8_keep 1 = .ok (.iconst 0, 1) := by decide +kernel
theorem dX8_keep_2 : decode cX8_keep 2 = .ok (.iconst 1, 1) := by decide +kernel
theorem dX8_keep_3 : decode cX8_keep 3 = .ok (.invokestatic 91, 3) := by decide +kernel
theorem dX8_keep_6 : decode cX8_keep 6 = .ok (.ifCond .ne 6, 3) := by decide +kernel
theorem dX8_keep_9 : decode cX8_keep 9 = .ok (.ldc 158, 2) := by decide +kernel
theorem dX8_keep_11 : decode cX8_keep 11 = .ok (.ireturn, 1) := by decide +kernel
theorem dX8_keep_12 : decode cX8_keep 12 = .ok (.aload_n 0, 1) := by decide +kernel
theorem dX8_keep_13 : decode cX8_keep 13 = .ok (.getfield 51, 3) := by decide +kernel
theorem dX8_keep_16 : decode cX8_keep 16 = .ok (.iload_n 1, 1) := by decide +kernel
theorem dX8_keep_17 : decode cX8_keep 17 = .ok (.aaload, 1) := by decide +kernel
theorem dX8_keep_18 : decode cX8_keep 18 = .ok (.aload_n 0, 1) := by decide +kernel
theorem dX8_keep_19 : decode cX8_keep 19 = .ok (.getfield 47, 3) := by decide +kernel
theorem dX8_keep_22 : decode cX8_keep 22 = .ok (.invokevirtual 315, 3) := by decide +kernel
theorem dX8_keep_25 : decode cX8_keep 25 = .ok (.aload_n 0, 1) := by decide +kernel
theorem dX8_keep_26 : decode cX8_keep 26 = .ok (.getfield 51, 3) := by decide +kernel
theorem dX8_keep_29 : decode cX8_keep 29 = .ok (.iload_n 1, 1) := by decide +kernel
end
section
theorem dX8_keep_30 : decode cX8_keep 30 = .ok (.aaload, 1) := by decide +kernel
theorem dX8_keep_31 : decode cX8_keep 31 = .ok (.iconst 1, 1) := by decide +kernel
theorem dX8_keep_32 : decode cX8_keep 32 = .ok (.putfield 318, 3) := by decide +kernel
theorem dX8_keep_35 : decode cX8_keep 35 = .ok (.iconst 1, 1) := by decide +kernel
theorem dX8_keep_36 : decode cX8_keep 36 = .ok (.ireturn, 1) := by decide +kernel
theorem dX8_goBack_0 : decode cX8_goBack 0 = .ok (.iload_n 1, 1) := by decide +kernel
theorem dX8_goBack_1 : decode cX8_goBack 1 = .ok (.iconst 0, 1) := by decide +kernel
theorem dX8_goBack_2 : decode cX8_goBack 2 = .ok (.iconst 1, 1) := by decide +kernel
theorem dX8_goBack_3 : decode cX8_goBack 3 = .ok (.invokestatic 91, 3) := by decide +kernel
theorem dX8_goBack_6 : decode cX8_goBack 6 = .ok (.ifCond .ne 6, 3) := by decide +kernel
theorem dX8_goBack_9 : decode cX8_goBack 9 = .ok (.ldc 158, 2) := by decide +kernel
theorem dX8_goBack_11 : decode cX8_goBack 11 = .ok (.ireturn, 1) := by decide +kernel
theorem dX8_goBack_12 : decode cX8_goBack 12 = .ok (.aload_n 0, 1) := by decide +kernel
theorem dX8_goBack_13 : decode cX8_goBack 13 = .ok (.getfield 51, 3) := by decide +kernel
theorem dX8_goBack_16 : decode cX8_goBack 16 = .ok (.iload_n 1, 1) := by decide +kernel
theorem dX8_goBack_17 : decode cX8_goBack 17 = .ok (.aaload, 1) := by decide +kernel
theorem dX8_goBack_18 : decode cX8_goBack 18 = .ok (.getfield 318, 3) := by decide +kernel
theorem dX8_goBack_21 : decode cX8_goBack 21 = .ok (.ifCond .ne 6, 3) := by decide +kernel
theorem dX8_goBack_24 : decode cX8_goBack 24 = .ok (.ldc 219, 2) := by decide +kernel
theorem dX8_goBack_26 : decode cX8_goBack 26 = .ok (.ireturn, 1) := by decide +kernel
theorem dX8_goBack_27 : decode cX8_goBack 27 = .ok (.aload_n 0, 1) := by decide +kernel
theorem dX8_goBack_28 : decode cX8_goBack 28 = .ok (.getfield 47, 3) := by decide +kernel
theorem dX8_goBack_31 : decode cX8_goBack 31 = .ok (.aload_n 0, 1) := by decide +kernel
theorem dX8_goBack_32 : decode cX8_goBack 32 = .ok (.getfield 51, 3) := by decide +kernel
theorem dX8_goBack_35 : decode cX8_goBack 35 = .ok (.iload_n 1, 1) := by decide +kernel
theorem dX8_goBack_36 : decode cX8_goBack 36 = .ok (.aaload, 1) := by decide +kernel
theorem dX8_goBack_37 : decode cX8_goBack 37 = .ok (.invokevirtual 315, 3) := by decide +kernel
theorem dX8_goBack_40 : decode cX8_goBack 40 = .ok (.iconst 1, 1) := by decide +kernel
theorem dX8_goBack_41 : decode cX8_goBack 41 = .ok (.ireturn, 1) := by decide +kernel
theorem dX8_isWithin_0 : decode cX8_isWithin 0 = .ok (.iload_n 0, 1) := by decide +kernel
theorem dX8_isWithin_1 : decode cX8_isWithin 1 = .ok (.iload_n 1, 1) := by decide +kernel
theorem dX8_isWithin_2 : decode cX8_isWithin 2 = .ok (.if_icmp .lt 12, 3) := by decide +kernel
theorem dX8_isWithin_5 : decode cX8_isWithin 5 = .ok (.iload_n 0, 1) := by decide +kernel
theorem dX8_isWithin_6 : decode cX8_isWithin 6 = .ok (.iload_n 2, 1) := by decide +kernel
theorem dX8_isWithin_7 : decode cX8_isWithin 7 = .ok (.if_icmp .gt 7, 3) := by decide +kernel
theorem dX8_isWithin_10 : decode cX8_isWithin 10 = .ok (.iconst 1, 1) := by decide +kernel
theorem dX8_isWithin_11 : decode cX8_isWithin 11 = .ok (.goto 4, 3) := by decide +kernel
theorem dX8_isWithin_14 : decode cX8_isWithin 14 = .ok (.iconst 0, 1) := by decide +kernel
theorem dX8_isWithin_15 : decode cX8_isWithin 15 = .ok (.ireturn, 1) := by decide +kernel
theorem dX8_isNear_0 : decode cX8_isNear 0 = .ok (.iload_n 0, 1) := by decide +kernel
theorem dX8_isNear_1 : decode cX8_isNear 1 = .ok (.bipush (-50), 2) := by decide +kernel
theorem dX8_isNear_3 : decode cX8_isNear 3 = .ok (.bipush 50, 2) := by decide +kernel
theorem dX8_isNear_5 : decode cX8_isNear 5 = .ok (.invokestatic 91, 3) := by decide +kernel
theorem dX8_isNear_8 : decode cX8_isNear 8 = .ok (.ireturn, 1) := by decide +kernel
theorem dX8_isType_0 : decode cX8_isType 0 = .ok (.iload_n 0, 1) := by decide +kernel
theorem dX8_isType_1 : decode cX8_isType 1 = .ok (.iconst 0, 1) := by decide +kernel
theorem dX8_isType_2 : decode cX8_isType 2 = .ok (.bipush 15, 2) := by decide +kernel
theorem dX8_isType_4 : decode cX8_isType 4 = .ok (.invokestatic 91, 3) := by decide +kernel
theorem dX8_isType_7 : decode cX8_isType 7 = .ok (.ireturn, 1) := by decide +kernel
theorem dX8_isHome_0 : decode cX8_isHome 0 = .ok (.iload_n 0, 1) := by decide +kernel
theorem dX8_isHome_1 : decode cX8_isHome 1 = .ok (.sipush (-1200), 3) := by decide +kernel
theorem dX8_isHome_4 : decode cX8_isHome 4 = .ok (.sipush 1200, 3) := by decide +kernel
theorem dX8_isHome_7 : decode cX8_isHome 7 = .ok (.invokestatic 91, 3) := by decide +kernel
theorem dX8_isHome_10 : decode cX8_isHome 10 = .ok (.ireturn, 1) := by decide +kernel
theorem dX8_isSinger_0 : decode cX8_isSinger 0 = .ok (.iload_n 1, 1) := by decide +kernel
theorem dX8_isSinger_1 : decode cX8_isSinger 1 = .ok (.iconst 0, 1) := by decide +kernel
theorem dX8_isSinger_2 : decode cX8_isSinger 2 = .ok (.aload_n 0, 1) := by decide +kernel
theorem dX8_isSinger_3 : decode cX8_isSinger 3 = .ok (.getfield 47, 3) := by decide +kernel
theorem dX8_isSinger_6 : decode cX8_isSinger 6 = .ok (.getfield 134, 3) := by decide +kernel
theorem dX8_isSinger_9 : decode cX8_isSinger 9 = .ok (.iconst 1, 1) := by decide +kernel
theorem dX8_isSinger_10 : decode cX8_isSinger 10 = .ok (.isub, 1) := by decide +kernel
theorem dX8_isSinger_11 : decode cX8_isSinger 11 = .ok (.invokestatic 91, 3) := by decide +kernel
theorem dX8_isSinger_14 : decode cX8_isSinger 14 = .ok (.ireturn, 1) := by decide +kernel
theorem dX8_isTask_0 : decode cX8_isTask 0 = .ok (.iload_n 1, 1) := by decide +kernel
theorem dX8_isTask_1 : decode cX8_isTask 1 = .ok (.iconst 0, 1) := by decide +kernel
theorem dX8_isTask_2 : decode cX8_isTask 2 = .ok (.aload_n 0, 1) := by decide +kernel
theorem dX8_isTask_3 : decode cX8_isTask 3 = .ok (.getfield 29, 3) := by decide +kernel
theorem dX8_isTask_6 : decode cX8_isTask 6 = .ok (.getfield 141, 3) := by decide +kernel
theorem dX8_isTask_9 : decode cX8_isTask 9 = .ok (.iconst 1, 1) := by decide +kernel
theorem dX8_isTask_10 : decode cX8_isTask 10 = .ok (.isub, 1) := by decide +kernel
theorem dX8_isTask_11 : decode cX8_isTask 11 = .ok (.invokestatic 91, 3) := by decide +kernel
theorem dX8_isTask_14 : decode cX8_isTask 14 = .ok (.ireturn, 1) := by decide +kernel
theorem dX8_hasSong_0 : decode cX8_hasSong 0 = .ok (.aload_n 0, 1) := by decide +kernel
theorem dX8_hasSong_1 : decode cX8_hasSong 1 = .ok (.getfield 47, 3) := by decide +kernel
theorem dX8_hasSong_4 : decode cX8_hasSong 4 = .ok (.getfield 145, 3) := by decide +kernel
theorem dX8_hasSong_7 : decode cX8_hasSong 7 = .ok (.getfield 148, 3) := by decide +kernel
theorem dX8_hasSong_10 : decode cX8_hasSong 10 = .ok (.iconst (-1), 1) := by decide +kernel
theorem dX8_hasSong_11 : decode cX8_hasSong 11 = .ok (.if_icmp .eq 7, 3) := by decide +kernel
theorem dX8_hasSong_14 : decode cX8_hasSong 14 = .ok (.iconst 1, 1) := by decide +kernel
theorem dX8_hasSong_15 : decode cX8_hasSong 15 = .ok (.goto 4, 3) := by decide +kernel
theorem dX8_hasSong_18 : decode cX8_hasSong 18 = .ok (.iconst 0, 1) := by decide +kernel
theorem dX8_hasSong_19 : decode cX8_hasSong 19 = .ok (.ireturn, 1) := by decide +kernel
theorem dX8_dropSong_0 : decode cX8_dropSong 0 = .ok (.aload_n 0, 1) := by decide +kernel
theorem dX8_dropSong_1 : decode cX8_dropSong 1 = .ok (.getfield 47, 3) := by decide +kernel
theorem dX8_dropSong_4 : decode cX8_dropSong 4 = .ok (.getfield 145, 3) := by decide +kernel
theorem dX8_dropSong_7 : decode cX8_dropSong 7 = .ok (.invokevirtual 322, 3) := by decide +kernel
theorem dX8_dropSong_10 : decode cX8_dropSong 10 = .ok (.aload_n 0, 1) := by decide +kernel
theorem dX8_dropSong_11 : decode cX8_dropSong 11 = .ok (.iconst 0, 1) := by decide +kernel
theorem dX8_dropSong_12 : decode cX8_dropSong 12 = .ok (.putfield 73, 3) := by decide +kernel
theorem dX8_dropSong_15 : decode cX8_dropSong 15 = .ok (.return_, 1) := by decide +kernel
theorem dX8_dropResults_0 : decode cX8_dropResults 0 = .ok (.aload_n 0, 1) := by decide +kernel
theorem dX8_dropResults_1 : decode cX8_dropResults 1 = .ok (.getfield 47, 3) := by decide +kernel
theorem dX8_dropResults_4 : decode cX8_dropResults 4 = .ok (.iconst 0, 1) := by decide +kernel
theorem dX8_dropResults_5 : decode cX8_dropResults 5 = .ok (.putfield 152, 3) := by decide +kernel
theorem dX8_dropResults_8 : decode cX8_dropResults 8 = .ok (.aload_n 0, 1) := by decide +kernel
theorem dX8_dropResults_9 : decode cX8_dropResults 9 = .ok (.getfield 47, 3) := by decide +kernel
theorem dX8_dropResults_12 : decode cX8_dropResults 12 = .ok (.iconst 0, 1) := by decide +kernel
theorem dX8_dropResults_13 : decode cX8_dropResults 13 = .ok (.putfield 155, 3) := by decide +kernel
theorem dX8_dropResults_16 : decode cX8_dropResults 16 = .ok (.return_, 1) := by decide +kernel
theorem dX8_dropImages_0 : decode cX8_dropImages 0 = .ok (.iconst 0, 1) := by decide +kernel
theorem dX8_dropImages_1 : decode cX8_dropImages 1 = .ok (.istore_n 1, 1) := by decide +kernel
theorem dX8_dropImages_2 : decode cX8_dropImages 2 = .ok (.iload_n 1, 1) := by decide +kernel
theorem dX8_dropImages_3 : decode cX8_dropImages 3 = .ok (.iconst 2, 1) := by decide +kernel
theorem dX8_dropImages_4 : decode cX8_dropImages 4 = .ok (.if_icmp .ge 19, 3) := by decide +kernel
theorem dX8_dropImages_7 : decode cX8_dropImages 7 = .ok (.aload_n 0, 1) := by decide +kernel
theorem dX8_dropImages_8 : decode cX8_dropImages 8 = .ok (.getfield 51, 3) := by decide +kernel
theorem dX8_dropImages_11 : decode cX8_dropImages 11 = .ok (.iload_n 1, 1) := by decide +kernel
theorem dX8_dropImages_12 : decode cX8_dropImages 12 = .ok (.aaload, 1) := by decide +kernel
theorem dX8_dropImages_13 : decode cX8_dropImages 13 = .ok (.iconst 0, 1) := by decide +kernel
theorem dX8_dropImages_14 : decode cX8_dropImages 14 = .ok (.putfield 318, 3) := by decide +kernel
theorem dX8_dropImages_17 : decode cX8_dropImages 17 = .ok (.iinc 1 1, 3) := by decide +kernel
theorem dX8_dropImages_20 : decode cX8_dropImages 20 = .ok (.goto (-18), 3) := by decide +kernel
theorem dX8_dropImages_23 : decode cX8_dropImages 23 = .ok (.return_, 1) := by decide +kernel
theorem dX8_newSingers_0 : decode cX8_newSingers 0 = .ok (.bipush 12, 2) := by decide +kernel
theorem dX8_newSingers_2 : decode cX8_newSingers 2 = .ok (.anewarray 84, 3) := by decide +kernel
theorem dX8_newSingers_5 : decode cX8_newSingers 5 = .ok (.astore_n 0, 1) := by decide +kernel
theorem dX8_newSingers_6 : decode cX8_newSingers 6 = .ok (.iconst 0, 1) := by decide +kernel
theorem dX8_newSingers_7 : decode cX8_newSingers 7 = .ok (.istore_n 1, 1) := by decide +kernel
theorem dX8_newSingers_8 : decode cX8_newSingers 8 = .ok (.iload_n 1, 1) := by decide +kernel
theorem dX8_newSingers_9 : decode cX8_newSingers 9 = .ok (.bipush 12, 2) := by decide +kernel
theorem dX8_newSingers_11 : decode cX8_newSingers 11 = .ok (.if_icmp .ge 19, 3) := by decide +kernel
theorem dX8_newSingers_14 : decode cX8_newSingers 14 = .ok (.aload_n 0, 1) := by decide +kernel
theorem dX8_newSingers_15 : decode cX8_newSingers 15 = .ok (.iload_n 1, 1) := by decide +kernel
theorem dX8_newSingers_16 : decode cX8_newSingers 16 = .ok (.new 84, 3) := by decide +kernel
theorem dX8_newSingers_19 : decode cX8_newSingers 19 = .ok (.dup, 1) := by decide +kernel
theorem dX8_newSingers_20 : decode cX8_newSingers 20 = .ok (.invokespecial 86, 3) := by decide +kernel
theorem dX8_newSingers_23 : decode cX8_newSingers 23 = .ok (.aastore, 1) := by decide +kernel
theorem dX8_newSingers_24 : decode cX8_newSingers 24 = .ok (.iinc 1 1, 3) := by decide +kernel
theorem dX8_newSingers_27 : decode cX8_newSingers 27 = .ok (.goto (-19), 3) := by decide +kernel
theorem dX8_newSingers_30 : decode cX8_newSingers 30 = .ok (.aload_n 0, 1) := by decide +kernel
theorem dX8_newSingers_31 : decode cX8_newSingers 31 = .ok (.areturn, 1) := by decide +kernel
theorem dX8_readSingers_0 : decode cX8_readSingers 0 = .ok (.iconst 0, 1) := by decide +kernel
theorem dX8_readSingers_1 : decode cX8_readSingers 1 = .ok (.istore_n 1, 1) := by decide +kernel
theorem dX8_readSingers_2 : decode cX8_readSingers 2 = .ok (.aload_n 0, 1) := by decide +kernel
theorem dX8_readSingers_3 : decode cX8_readSingers 3 = .ok (.getfield 10, 3) := by decide +kernel
theorem dX8_readSingers_6 : decode cX8_readSingers 6 = .ok (.invokevirtual 323, 3) := by decide +kernel
theorem dX8_readSingers_9 : decode cX8_readSingers 9 = .ok (.iconst 0, 1) := by decide +kernel
theorem dX8_readSingers_10 : decode cX8_readSingers 10 = .ok (.istore_n 2, 1) := by decide +kernel
theorem dX8_readSingers_11 : decode cX8_readSingers 11 = .ok (.iload_n 2, 1) := by decide +kernel
theorem dX8_readSingers_12 : decode cX8_readSingers 12 = .ok (.sipush 400, 3) := by decide +kernel
theorem dX8_readSingers_15 : decode cX8_readSingers 15 = .ok (.if_icmp .ge 63, 3) := by decide +kernel
theorem dX8_readSingers_18 : decode cX8_readSingers 18 = .ok (.aload_n 0, 1) := by decide +kernel
theorem dX8_readSingers_19 : decode cX8_readSingers 19 = .ok (.getfield 10, 3) := by decide +kernel
theorem dX8_readSingers_22 : decode cX8_readSingers 22 = .ok (.invokevirtual 326, 3) := by decide +kernel
theorem dX8_readSingers_25 : decode cX8_readSingers 25 = .ok (.ifCond .ne 53, 3) := by decide +kernel
theorem dX8_readSingers_28 : decode cX8_readSingers 28 = .ok (.aload_n 0, 1) := by decide +kernel
theorem dX8_readSingers_29 : decode cX8_readSingers 29 = .ok (.getfield 10, 3) := by decide +kernel
theorem dX8_readSingers_32 : decode cX8_readSingers 32 = .ok (.ldc_w 329, 3) := by decide +kernel
theorem dX8_readSingers_35 : decode cX8_readSingers 35 = .ok (.invokevirtual 331, 3) := by decide +kernel
theorem dX8_readSingers_38 : decode cX8_readSingers 38 = .ok (.pop, 1) := by decide +kernel
theorem dX8_readSingers_39 : decode cX8_readSingers 39 = .ok (.iload_n 1, 1) := by decide +kernel
theorem dX8_readSingers_40 : decode cX8_readSingers 40 = .ok (.bipush 12, 2) := by decide +kernel
theorem dX8_readSingers_42 : decode cX8_readSingers 42 = .ok (.if_icmp .lt 14, 3) := by decide +kernel
theorem dX8_readSingers_45 : decode cX8_readSingers 45 = .ok (.aload_n 0, 1) := by decide +kernel
theorem dX8_readSingers_46 : decode cX8_readSingers 46 = .ok (.getfield 10, 3) := by decide +kernel
theorem dX8_readSingers_49 : decode cX8_readSingers 49 = .ok (.iconst 3, 1) := by decide +kernel
theorem dX8_readSingers_50 : decode cX8_readSingers 50 = .ok (.invokevirtual 335, 3) := by decide +kernel
theorem dX8_readSingers_53 : decode cX8_readSingers 53 = .ok (.goto 19, 3) := by decide +kernel
theorem dX8_readSingers_56 : decode cX8_readSingers 56 = .ok (.aload_n 0, 1) := by decide +kernel
theorem dX8_readSingers_57 : decode cX8_readSingers 57 = .ok (.getfield 40, 3) := by decide +kernel
theorem dX8_readSingers_60 : decode cX8_readSingers 60 = .ok (.iload_n 1, 1) := by decide +kernel
theorem dX8_readSingers_61 : decode cX8_readSingers 61 = .ok (.aaload, 1) := by decide +kernel
theorem dX8_readSingers_62 : decode cX8_readSingers 62 = .ok (.aload_n 0, 1) := by decide +kernel
theorem dX8_readSingers_63 : decode cX8_readSingers 63 = .ok (.getfield 10, 3) := by decide +kernel
theorem dX8_readSingers_66 : decode cX8_readSingers 66 = .ok (.invokevirtual 338, 3) := by decide +kernel
theorem dX8_readSingers_69 : decode cX8_readSingers 69 = .ok (.iinc 1 1, 3) := by decide +kernel
theorem dX8_readSingers_72 : decode cX8_readSingers 72 = .ok (.iinc 2 1, 3) := by decide +kernel
theorem dX8_readSingers_75 : decode cX8_readSingers 75 = .ok (.goto (-64), 3) := by decide +kernel
theorem dX8_readSingers_78 : decode cX8_readSingers 78 = .ok (.iload_n 1, 1) := by decide +kernel
theorem dX8_readSingers_79 : decode cX8_readSingers 79 = .ok (.ireturn, 1) := by decide +kernel
theorem dX8_singInto_0 : decode cX8_singInto 0 = .ok (.aload_n 1, 1) := by decide +kernel
theorem dX8_singInto_1 : decode cX8_singInto 1 = .ok (.aload_n 0, 1) := by decide +kernel
theorem dX8_singInto_2 : decode cX8_singInto 2 = .ok (.getfield 19, 3) := by decide +kernel
theorem dX8_singInto_5 : decode cX8_singInto 5 = .ok (.getfield 124, 3) := by decide +kernel
theorem dX8_singInto_8 : decode cX8_singInto 8 = .ok (.putfield 339, 3) := by decide +kernel
theorem dX8_singInto_11 : decode cX8_singInto 11 = .ok (.aload_n 2, 1) := by decide +kernel
theorem dX8_singInto_12 : decode cX8_singInto 12 = .ok (.getfield 169, 3) := by decide +kernel
theorem dX8_singInto_15 : decode cX8_singInto 15 = .ok (.bipush 7, 2) := by decide +kernel
theorem dX8_singInto_17 : decode cX8_singInto 17 = .ok (.if_icmp .eq 11, 3) := by decide +kernel
theorem dX8_singInto_20 : decode cX8_singInto 20 = .ok (.aload_n 2, 1) := by decide +kernel
theorem dX8_singInto_21 : decode cX8_singInto 21 = .ok (.getfield 169, 3) := by decide +kernel
theorem dX8_singInto_24 : decode cX8_singInto 24 = .ok (.iconst 4, 1) := by decide +kernel
theorem dX8_singInto_25 : decode cX8_singInto 25 = .ok (.if_icmp .ne 31, 3) := by decide +kernel
theorem dX8_singInto_28 : decode cX8_singInto 28 = .ok (.aload_n 1, 1) := by decide +kernel
theorem dX8_singInto_29 : decode cX8_singInto 29 = .ok (.getfield 340, 3) := by decide +kernel
theorem dX8_singInto_32 : decode cX8_singInto 32 = .ok (.aload_n 2, 1) := by decide +kernel
theorem dX8_singInto_33 : decode cX8_singInto 33 = .ok (.getfield 169, 3) := by decide +kernel
theorem dX8_singInto_36 : decode cX8_singInto 36 = .ok (.bipush 7, 2) := by decide +kernel
theorem dX8_singInto_38 : decode cX8_singInto 38 = .ok (.if_icmp .ne 7, 3) := by decide +kernel
theorem dX8_singInto_41 : decode cX8_singInto 41 = .ok (.iconst (-1), 1) := by decide +kernel
theorem dX8_singInto_42 : decode cX8_singInto 42 = .ok (.goto 10, 3) := by decide +kernel
theorem dX8_singInto_45 : decode cX8_singInto 45 = .ok (.bipush 100, 2) := by decide +kernel
theorem dX8_singInto_47 : decode cX8_singInto 47 = .ok (.aload_n 2, 1) := by decide +kernel
theorem dX8_singInto_48 : decode cX8_singInto 48 = .ok (.getfield 184, 3) := by decide +kernel
theorem dX8_singInto_51 : decode cX8_singInto 51 = .ok (.imul, 1) := by decide +kernel
theorem dX8_singInto_52 : decode cX8_singInto 52 = .ok (.invokestatic 343, 3) := by decide +kernel
theorem dX8_singInto_55 : decode cX8_singInto 55 = .ok (.return_, 1) := by decide +kernel
theorem dX8_singInto_56 : decode cX8_singInto 56 = .ok (.iconst 0, 1) := by decide +kernel
theorem dX8_singInto_57 : decode cX8_singInto 57 = .ok (.istore 4, 2) := by decide +kernel
theorem dX8_singInto_59 : decode cX8_singInto 59 = .ok (.iconst 0, 1) := by decide +kernel
theorem dX8_singInto_60 : decode cX8_singInto 60 = .ok (.istore 5, 2) := by decide +kernel
theorem dX8_singInto_62 : decode cX8_singInto 62 = .ok (.iconst 0, 1) := by decide +kernel
theorem dX8_singInto_63 : decode cX8_singInto 63 = .ok (.istore 6, 2) := by decide +kernel
theorem dX8_singInto_65 : decode cX8_singInto 65 = .ok (.iload 6, 2) := by decide +kernel
theorem dX8_singInto_67 : decode cX8_singInto 67 = .ok (.aload_n 0, 1) := by decide +kernel
theorem dX8_singInto_68 : decode cX8_singInto 68 = .ok (.getfield 19, 3) := by decide +kernel
theorem dX8_singInto_71 : decode cX8_singInto 71 = .ok (.getfield 124, 3) := by decide +kernel
theorem dX8_singInto_74 : decode cX8_singInto 74 = .ok (.if_icmp .ge 99, 3) := by decide +kernel
theorem dX8_singInto_77 : decode cX8_singInto 77 = .ok (.aload_n 0, 1) := by decide +kernel
theorem dX8_singInto_78 : decode cX8_singInto 78 = .ok (.getfield 19, 3) := by decide +kernel
theorem dX8_singInto_81 : decode cX8_singInto 81 = .ok (.getfield 162, 3) := by decide +kernel
theorem dX8_singInto_84 : decode cX8_singInto 84 = .ok (.iload 6, 2) := by decide +kernel
theorem dX8_singInto_86 : decode cX8_singInto 86 = .ok (.iaload, 1) := by decide +kernel
theorem dX8_singInto_87 : decode cX8_singInto 87 = .ok (.iconst 1, 1) := by decide +kernel
theorem dX8_singInto_88 : decode cX8_singInto 88 = .ok (.if_icmp .ne 6, 3) := by decide +kernel
theorem dX8_singInto_91 : decode cX8_singInto 91 = .ok (.iconst 0, 1) := by decide +kernel
theorem dX8_singInto_92 : decode cX8_singInto 92 = .ok (.istore 5, 2) := by decide +kernel
theorem dX8_singInto_94 : decode cX8_singInto 94 = .ok (.iload 6, 2) := by decide +kernel
theorem dX8_singInto_96 : decode cX8_singInto 96 = .ok (.ifCond .ne 21, 3) := by decide +kernel
theorem dX8_singInto_99 : decode cX8_singInto 99 = .ok (.aload_n 0, 1) := by decide +kernel
theorem dX8_singInto_100 : decode cX8_singInto 100 = .ok (.getfield 19, 3) := by decide +kernel
theorem dX8_singInto_103 : decode cX8_singInto 103 = .ok (.getfield 159, 3) := by decide +kernel
theorem dX8_singInto_106 : decode cX8_singInto 106 = .ok (.iconst 0, 1) := by decide +kernel
theorem dX8_singInto_107 : decode cX8_singInto 107 = .ok (.iaload, 1) := by decide +kernel
theorem dX8_singInto_108 : decode cX8_singInto 108 = .ok (.aload_n 0, 1) := by decide +kernel
theorem dX8_singInto_109 : decode cX8_singInto 109 = .ok (.iload_n 3, 1) := by decide +kernel
theorem dX8_singInto_110 : decode cX8_singInto 110 = .ok (.invokevirtual 349, 3) := by decide +kernel
theorem dX8_singInto_113 : decode cX8_singInto 113 = .ok (.iadd, 1) := by decide +kernel
theorem dX8_singInto_114 : decode cX8_singInto 114 = .ok (.goto 21, 3) := by decide +kernel
theorem dX8_singInto_117 : decode cX8_singInto 117 = .ok (.iload 4, 2) := by decide +kernel
theorem dX8_singInto_119 : decode cX8_singInto 119 = .ok (.aload_n 2, 1) := by decide +kernel
theorem dX8_singInto_120 : decode cX8_singInto 120 = .ok (.aload_n 0, 1) := by decide +kernel
theorem dX8_singInto_121 : decode cX8_singInto 121 = .ok (.getfield 19, 3) := by decide +kernel
theorem dX8_singInto_124 : decode cX8_singInto 124 = .ok (.iload 6, 2) := by decide +kernel
theorem dX8_singInto_126 : decode cX8_singInto 126 = .ok (.invokevirtual 352, 3) := by decide +kernel
theorem dX8_singInto_129 : decode cX8_singInto 129 = .ok (.iload 5, 2) := by decide +kernel
theorem dX8_singInto_131 : decode cX8_singInto 131 = .ok (.invokevirtual 355, 3) := by decide +kernel
theorem dX8_singInto_134 : decode cX8_singInto 134 = .ok (.iadd, 1) := by decide +kernel
theorem dX8_singInto_135 : decode cX8_singInto 135 = .ok (.istore 4, 2) := by decide +kernel
theorem dX8_singInto_137 : decode cX8_singInto 137 = .ok (.aload_n 1, 1) := by decide +kernel
theorem dX8_singInto_138 : decode cX8_singInto 138 = .ok (.getfield 340, 3) := by decide +kernel
theorem dX8_singInto_141 : decode cX8_singInto 141 = .ok (.iload 6, 2) := by decide +kernel
theorem dX8_singInto_143 : decode cX8_singInto 143 = .ok (.aload_n 2, 1) := by decide +kernel
theorem dX8_singInto_144 : decode cX8_singInto 144 = .ok (.iload 4, 2) := by decide +kernel
theorem dX8_singInto_146 : decode cX8_singInto 146 = .ok (.aload_n 2, 1) := by decide +kernel
theorem dX8_singInto_147 : decode cX8_singInto 147 = .ok (.invokevirtual 359, 3) := by decide +kernel
theorem dX8_singInto_150 : decode cX8_singInto 150 = .ok (.iadd, 1) := by decide +kernel
theorem dX8_singInto_151 : decode cX8_singInto 151 = .ok (.aload_n 0, 1) := by decide +kernel
theorem dX8_singInto_152 : decode cX8_singInto 152 = .ok (.aload_n 2, 1) := by decide +kernel
theorem dX8_singInto_153 : decode cX8_singInto 153 = .ok (.iload 6, 2) := by decide +kernel
theorem dX8_singInto_155 : decode cX8_singInto 155 = .ok (.iload_n 3, 1) := by decide +kernel
theorem dX8_singInto_156 : decode cX8_singInto 156 = .ok (.invokevirtual 362, 3) := by decide +kernel
theorem dX8_singInto_159 : decode cX8_singInto 159 = .ok (.iadd, 1) := by decide +kernel
theorem dX8_singInto_160 : decode cX8_singInto 160 = .ok (.invokevirtual 366, 3) := by decide +kernel
theorem dX8_singInto_163 : decode cX8_singInto 163 = .ok (.iastore, 1) := by decide +kernel
theorem dX8_singInto_164 : decode cX8_singInto 164 = .ok (.iinc 5 1, 3) := by decide +kernel
theorem dX8_singInto_167 : decode cX8_singInto 167 = .ok (.iinc 6 1, 3) := by decide +kernel
theorem dX8_singInto_170 : decode cX8_singInto 170 = .ok (.goto (-105), 3) := by decide +kernel
theorem dX8_singInto_173 : decode cX8_singInto 173 = .ok (.return_, 1) := by decide +kernel
theorem dX8_startOff_0 : decode cX8_startOff 0 = .ok (.iload_n 1, 1) := by decide +kernel
theorem dX8_startOff_1 : decode cX8_startOff 1 = .ok (.ifCond .ne 19, 3) := by decide +kernel
theorem dX8_startOff_4 : decode cX8_startOff 4 = .ok (.aload_n 0, 1) := by decide +kernel
theorem dX8_startOff_5 : decode cX8_startOff 5 = .ok (.getfield 47, 3) := by decide +kernel
theorem dX8_startOff_8 : decode cX8_startOff 8 = .ok (.bipush 13, 2) := by decide +kernel
theorem dX8_startOff_10 : decode cX8_startOff 10 = .ok (.invokevirtual 369, 3) := by decide +kernel
theorem dX8_startOff_13 : decode cX8_startOff 13 = .ok (.bipush 6, 2) := by decide +kernel
theorem dX8_startOff_15 : decode cX8_startOff 15 = .ok (.isub, 1) := by decide +kernel
theorem dX8_startOff_16 : decode cX8_startOff 16 = .ok (.bipush 100, 2) := by decide +kernel
theorem dX8_startOff_18 : decode cX8_startOff 18 = .ok (.imul, 1) := by decide +kernel
theorem dX8_startOff_19 : decode cX8_startOff 19 = .ok (.ireturn, 1) := by decide +kernel
theorem dX8_startOff_20 : decode cX8_startOff 20 = .ok (.iload_n 1, 1) := by decide +kernel
theorem dX8_startOff_21 : decode cX8_startOff 21 = .ok (.iconst 1, 1) := by decide +kernel
theorem dX8_startOff_22 : decode cX8_startOff 22 = .ok (.if_icmp .ne 18, 3) := by decide +kernel
theorem dX8_startOff_25 : decode cX8_startOff 25 = .ok (.aload_n 0, 1) := by decide +kernel
theorem dX8_startOff_26 : decode cX8_startOff 26 = .ok (.getfield 47, 3) := by decide +kernel
theorem dX8_startOff_29 : decode cX8_startOff 29 = .ok (.iconst 2, 1) := by decide +kernel
theorem dX8_startOff_30 : decode cX8_startOff 30 = .ok (.invokevirtual 369, 3) := by decide +kernel
theorem dX8_startOff_33 : decode cX8_startOff 33 = .ok (.iconst 1, 1) := by decide +kernel
theorem dX8_startOff_34 : decode cX8_startOff 34 = .ok (.isub, 1) := by decide +kernel
theorem dX8_startOff_35 : decode cX8_startOff 35 = .ok (.sipush 1200, 3) := by decide +kernel
theorem dX8_startOff_38 : decode cX8_startOff 38 = .ok (.imul, 1) := by decide +kernel
theorem dX8_startOff_39 : decode cX8_startOff 39 = .ok (.ireturn, 1) := by decide +kernel
theorem dX8_startOff_40 : decode cX8_startOff 40 = .ok (.iconst 0, 1) := by decide +kernel
theorem dX8_startOff_41 : decode cX8_startOff 41 = .ok (.ireturn, 1) := by decide +kernel
theorem dX8_waver_0 : decode cX8_waver 0 = .ok (.aload_n 1, 1) := by decide +kernel
theorem dX8_waver_1 : decode cX8_waver 1 = .ok (.getfield 169, 3) := by decide +kernel
theorem dX8_waver_4 : decode cX8_waver 4 = .ok (.iconst 1, 1) := by decide +kernel
theorem dX8_waver_5 : decode cX8_waver 5 = .ok (.if_icmp .ne 5, 3) := by decide +kernel
theorem dX8_waver_8 : decode cX8_waver 8 = .ok (.iconst 0, 1) := by decide +kernel
theorem dX8_waver_9 : decode cX8_waver 9 = .ok (.ireturn, 1) := by decide +kernel
theorem dX8_waver_10 : decode cX8_waver 10 = .ok (.iload_n 3, 1) := by decide +kernel
theorem dX8_waver_11 : decode cX8_waver 11 = .ok (.iconst 3, 1) := by decide +kernel
theorem dX8_waver_12 : decode cX8_waver 12 = .ok (.if_icmp .ne 22, 3) := by decide +kernel
theorem dX8_waver_15 : decode cX8_waver 15 = .ok (.iload_n 2, 1) := by decide +kernel
theorem dX8_waver_16 : decode cX8_waver 16 = .ok (.iconst 2, 1) := by decide +kernel
theorem dX8_waver_17 : decode cX8_waver 17 = .ok (.irem, 1) := by decide +kernel
theorem dX8_waver_18 : decode cX8_waver 18 = .ok (.ifCond .ne 10, 3) := by decide +kernel
theorem dX8_waver_21 : decode cX8_waver 21 = .ok (.aload_n 1, 1) := by decide +kernel
theorem dX8_waver_22 : decode cX8_waver 22 = .ok (.getfield 178, 3) := by decide +kernel
theorem dX8_waver_25 : decode cX8_waver 25 = .ok (.goto 8, 3) := by decide +kernel
theorem dX8_waver_28 : decode cX8_waver 28 = .ok (.aload_n 1, 1) := by decide +kernel
theorem dX8_waver_29 : decode cX8_waver 29 = .ok (.getfield 178, 3) := by decide +kernel
theorem dX8_waver_32 : decode cX8_waver 32 = .ok (.ineg, 1) := by decide +kernel
theorem dX8_waver_33 : decode cX8_waver 33 = .ok (.ireturn, 1) := by decide +kernel
theorem dX8_waver_34 : decode cX8_waver 34 = .ok (.aload_n 0, 1) := by decide +kernel
theorem dX8_waver_35 : decode cX8_waver 35 = .ok (.getfield 47, 3) := by decide +kernel
theorem dX8_waver_38 : decode cX8_waver 38 = .ok (.iconst 2, 1) := by decide +kernel
theorem dX8_waver_39 : decode cX8_waver 39 = .ok (.aload_n 1, 1) := by decide +kernel
theorem dX8_waver_40 : decode cX8_waver 40 = .ok (.getfield 178, 3) := by decide +kernel
theorem dX8_waver_43 : decode cX8_waver 43 = .ok (.imul, 1) := by decide +kernel
theorem dX8_waver_44 : decode cX8_waver 44 = .ok (.iconst 1, 1) := by decide +kernel
theorem dX8_waver_45 : decode cX8_waver 45 = .ok (.iadd, 1) := by decide +kernel
theorem dX8_waver_46 : decode cX8_waver 46 = .ok (.invokevirtual 369, 3) := by decide +kernel
theorem dX8_waver_49 : decode cX8_waver 49 = .ok (.aload_n 1, 1) := by decide +kernel
theorem dX8_waver_50 : decode cX8_waver 50 = .ok (.getfield 178, 3) := by decide +kernel
theorem dX8_waver_53 : decode cX8_waver 53 = .ok (.isub, 1) := by decide +kernel
theorem dX8_waver_54 : decode cX8_waver 54 = .ok (.ireturn, 1) := by decide +kernel
theorem dX8_plainPoints_0 : decode cX8_plainPoints 0 = .ok (.aload_n 0, 1) := by decide +kernel
theorem dX8_plainPoints_1 : decode cX8_plainPoints 1 = .ok (.aload_n 0, 1) := by decide +kernel
theorem dX8_plainPoints_2 : decode cX8_plainPoints 2 = .ok (.getfield 80, 3) := by decide +kernel
theorem dX8_plainPoints_5 : decode cX8_plainPoints 5 = .ok (.aload_n 1, 1) := by decide +kernel
theorem dX8_plainPoints_6 : decode cX8_plainPoints 6 = .ok (.iconst 3, 1) := by decide +kernel
theorem dX8_plainPoints_7 : decode cX8_plainPoints 7 = .ok (.invokevirtual 208, 3) := by decide +kernel
theorem dX8_plainPoints_10 : decode cX8_plainPoints 10 = .ok (.aload_n 0, 1) := by decide +kernel
theorem dX8_plainPoints_11 : decode cX8_plainPoints 11 = .ok (.getfield 80, 3) := by decide +kernel
theorem dX8_plainPoints_14 : decode cX8_plainPoints 14 = .ok (.iconst 0, 1) := by decide +kernel
theorem dX8_plainPoints_15 : decode cX8_plainPoints 15 = .ok (.aload_n 0, 1) := by decide +kernel
theorem dX8_plainPoints_16 : decode cX8_plainPoints 16 = .ok (.getfield 19, 3) := by decide +kernel
theorem dX8_plainPoints_19 : decode cX8_plainPoints 19 = .ok (.invokevirtual 212, 3) := by decide +kernel
theorem dX8_plainPoints_22 : decode cX8_plainPoints 22 = .ok (.aload_n 0, 1) := by decide +kernel
theorem dX8_plainPoints_23 : decode cX8_plainPoints 23 = .ok (.getfield 80, 3) := by decide +kernel
theorem dX8_plainPoints_26 : decode cX8_plainPoints 26 = .ok (.iconst 1, 1) := by decide +kernel
theorem dX8_plainPoints_27 : decode cX8_plainPoints 27 = .ok (.aload_n 0, 1) := by decide +kernel
theorem dX8_plainPoints_28 : decode cX8_plainPoints 28 = .ok (.getfield 19, 3) := by decide +kernel
theorem dX8_plainPoints_31 : decode cX8_plainPoints 31 = .ok (.invokevirtual 212, 3) := by decide +kernel
theorem dX8_plainPoints_34 : decode cX8_plainPoints 34 = .ok (.iadd, 1) := by decide +kernel
theorem dX8_plainPoints_35 : decode cX8_plainPoints 35 = .ok (.ireturn, 1) := by decide +kernel
theorem dX8_partOfWeek_0 : decode cX8_partOfWeek 0 = .ok (.iload_n 0, 1) := by decide +kernel
theorem dX8_partOfWeek_1 : decode cX8_partOfWeek 1 = .ok (.iconst 2, 1) := by decide +kernel
theorem dX8_partOfWeek_2 : decode cX8_partOfWeek 2 = .ok (.iload_n 1, 1) := by decide +kernel
theorem dX8_partOfWeek_3 : decode cX8_partOfWeek 3 = .ok (.iload_n 2, 1) := by decide +kernel
theorem dX8_partOfWeek_4 : decode cX8_partOfWeek 4 = .ok (.isub, 1) := by decide +kernel
theorem dX8_partOfWeek_5 : decode cX8_partOfWeek 5 = .ok (.imul, 1) := by decide +kernel
theorem dX8_partOfWeek_6 : decode cX8_partOfWeek 6 = .ok (.ishr, 1) := by decide +kernel
theorem dX8_partOfWeek_7 : decode cX8_partOfWeek 7 = .ok (.iconst 3, 1) := by decide +kernel
theorem dX8_partOfWeek_8 : decode cX8_partOfWeek 8 = .ok (.iand, 1) := by decide +kernel
theorem dX8_partOfWeek_9 : decode cX8_partOfWeek 9 = .ok (.ireturn, 1) := by decide +kernel
theorem dX8_isRising_0 : decode cX8_isRising 0 = .ok (.iconst 2, 1) := by decide +kernel
theorem dX8_isRising_1 : decode cX8_isRising 1 = .ok (.istore_n 2, 1) := by decide +kernel
theorem dX8_isRising_2 : decode cX8_isRising 2 = .ok (.iload_n 2, 1) := by decide +kernel
theorem dX8_isRising_3 : decode cX8_isRising 3 = .ok (.iload_n 1, 1) := by decide +kernel
theorem dX8_isRising_4 : decode cX8_isRising 4 = .ok (.if_icmp .gt 28, 3) := by decide +kernel
theorem dX8_isRising_7 : decode cX8_isRising 7 = .ok (.iload_n 0, 1) := by decide +kernel
theorem dX8_isRising_8 : decode cX8_isRising 8 = .ok (.iload_n 1, 1) := by decide +kernel
theorem dX8_isRising_9 : decode cX8_isRising 9 = .ok (.iload_n 2, 1) := by decide +kernel
theorem dX8_isRising_10 : decode cX8_isRising 10 = .ok (.invokestatic 285, 3) := by decide +kernel
theorem dX8_isRising_13 : decode cX8_isRising 13 = .ok (.iload_n 0, 1) := by decide +kernel
theorem dX8_isRising_14 : decode cX8_isRising 14 = .ok (.iload_n 1, 1) := by decide +kernel
theorem dX8_isRising_15 : decode cX8_isRising 15 = .ok (.iload_n 2, 1) := by decide +kernel
theorem dX8_isRising_16 : decode cX8_isRising 16 = .ok (.iconst 1, 1) := by decide +kernel
theorem dX8_isRising_17 : decode cX8_isRising 17 = .ok (.isub, 1) := by decide +kernel
theorem dX8_isRising_18 : decode cX8_isRising 18 = .ok (.invokestatic 285, 3) := by decide +kernel
theorem dX8_isRising_21 : decode cX8_isRising 21 = .ok (.if_icmp .ge 5, 3) := by decide +kernel
theorem dX8_isRising_24 : decode cX8_isRising 24 = .ok (.iconst 0, 1) := by decide +kernel
theorem dX8_isRising_25 : decode cX8_isRising 25 = .ok (.ireturn, 1) := by decide +kernel
theorem dX8_isRising_26 : decode cX8_isRising 26 = .ok (.iinc 2 1, 3) := by decide +kernel
theorem dX8_isRising_29 : decode cX8_isRising 29 = .ok (.goto (-27), 3) := by decide +kernel
theorem dX8_isRising_32 : decode cX8_isRising 32 = .ok (.iconst 1, 1) := by decide +kernel
theorem dX8_isRising_33 : decode cX8_isRising 33 = .ok (.ireturn, 1) := by decide +kernel
theorem dX8_countAble_0 : decode cX8_countAble 0 = .ok (.iconst 0, 1) := by decide +kernel
theorem dX8_countAble_1 : decode cX8_countAble 1 = .ok (.istore_n 2, 1) := by decide +kernel
theorem dX8_countAble_2 : decode cX8_countAble 2 = .ok (.iconst 0, 1) := by decide +kernel
theorem dX8_countAble_3 : decode cX8_countAble 3 = .ok (.istore_n 3, 1) := by decide +kernel
theorem dX8_countAble_4 : decode cX8_countAble 4 = .ok (.iload_n 3, 1) := by decide +kernel
theorem dX8_countAble_5 : decode cX8_countAble 5 = .ok (.aload_n 0, 1) := by decide +kernel
theorem dX8_countAble_6 : decode cX8_countAble 6 = .ok (.getfield 47, 3) := by decide +kernel
theorem dX8_countAble_9 : decode cX8_countAble 9 = .ok (.getfield 134, 3) := by decide +kernel
theorem dX8_countAble_12 : decode cX8_countAble 12 = .ok (.if_icmp .ge 75, 3) := by decide +kernel
theorem dX8_countAble_15 : decode cX8_countAble 15 = .ok (.aload_n 0, 1) := by decide +kernel
theorem dX8_countAble_16 : decode cX8_countAble 16 = .ok (.getfield 47, 3) := by decide +kernel
theorem dX8_countAble_19 : decode cX8_countAble 19 = .ok (.getfield 131, 3) := by decide +kernel
theorem dX8_countAble_22 : decode cX8_countAble 22 = .ok (.iload_n 3, 1) := by decide +kernel
theorem dX8_countAble_23 : decode cX8_countAble 23 = .ok (.aaload, 1) := by decide +kernel
theorem dX8_countAble_24 : decode cX8_countAble 24 = .ok (.astore 4, 2) := by decide +kernel
theorem dX8_countAble_26 : decode cX8_countAble 26 = .ok (.aload 4, 2) := by decide +kernel
theorem dX8_countAble_28 : decode cX8_countAble 28 = .ok (.getfield 169, 3) := by decide +kernel
theorem dX8_countAble_31 : decode cX8_countAble 31 = .ok (.iconst 4, 1) := by decide +kernel
theorem dX8_countAble_32 : decode cX8_countAble 32 = .ok (.if_icmp .eq 49, 3) := by decide +kernel
theorem dX8_countAble_35 : decode cX8_countAble 35 = .ok (.aload 4, 2) := by decide +kernel
theorem dX8_countAble_37 : decode cX8_countAble 37 = .ok (.getfield 169, 3) := by decide +kernel
theorem dX8_countAble_40 : decode cX8_countAble 40 = .ok (.bipush 7, 2) := by decide +kernel
theorem dX8_countAble_42 : decode cX8_countAble 42 = .ok (.if_icmp .ne 6, 3) := by decide +kernel
theorem dX8_countAble_45 : decode cX8_countAble 45 = .ok (.goto 36, 3) := by decide +kernel
theorem dX8_countAble_48 : decode cX8_countAble 48 = .ok (.aload_n 0, 1) := by decide +kernel
theorem dX8_countAble_49 : decode cX8_countAble 49 = .ok (.getfield 19, 3) := by decide +kernel
theorem dX8_countAble_52 : decode cX8_countAble 52 = .ok (.bipush 100, 2) := by decide +kernel
theorem dX8_countAble_54 : decode cX8_countAble 54 = .ok (.aload 4, 2) := by decide +kernel
theorem dX8_countAble_56 : decode cX8_countAble 56 = .ok (.getfield 184, 3) := by decide +kernel
theorem dX8_countAble_59 : decode cX8_countAble 59 = .ok (.iload_n 1, 1) := by decide +kernel
theorem dX8_countAble_60 : decode cX8_countAble 60 = .ok (.isub, 1) := by decide +kernel
theorem dX8_countAble_61 : decode cX8_countAble 61 = .ok (.imul, 1) := by decide +kernel
theorem dX8_countAble_62 : decode cX8_countAble 62 = .ok (.bipush 100, 2) := by decide +kernel
theorem dX8_countAble_64 : decode cX8_countAble 64 = .ok (.aload 4, 2) := by decide +kernel
theorem dX8_countAble_66 : decode cX8_countAble 66 = .ok (.invokevirtual 372, 3) := by decide +kernel
theorem dX8_countAble_69 : decode cX8_countAble 69 = .ok (.iload_n 1, 1) := by decide +kernel
theorem dX8_countAble_70 : decode cX8_countAble 70 = .ok (.isub, 1) := by decide +kernel
theorem dX8_countAble_71 : decode cX8_countAble 71 = .ok (.imul, 1) := by decide +kernel
theorem dX8_countAble_72 : decode cX8_countAble 72 = .ok (.invokevirtual 375, 3) := by decide +kernel
theorem dX8_countAble_75 : decode cX8_countAble 75 = .ok (.ifCond .eq 6, 3) := by decide +kernel
theorem dX8_countAble_78 : decode cX8_countAble 78 = .ok (.iinc 2 1, 3) := by decide +kernel
theorem dX8_countAble_81 : decode cX8_countAble 81 = .ok (.iinc 3 1, 3) := by decide +kernel
theorem dX8_countAble_84 : decode cX8_countAble 84 = .ok (.goto (-80), 3) := by decide +kernel
theorem dX8_countAble_87 : decode cX8_countAble 87 = .ok (.iload_n 2, 1) := by decide +kernel
theorem dX8_countAble_88 : decode cX8_countAble 88 = .ok (.ireturn, 1) := by decide +kernel
theorem dX8_oddsNow_0 : decode cX8_oddsNow 0 = .ok (.aload_n 0, 1) := by decide +kernel
theorem dX8_oddsNow_1 : decode cX8_oddsNow 1 = .ok (.getfield 47, 3) := by decide +kernel
theorem dX8_oddsNow_4 : decode cX8_oddsNow 4 = .ok (.getfield 237, 3) := by decide +kernel
theorem dX8_oddsNow_7 : decode cX8_oddsNow 7 = .ok (.iload_n 1, 1) := by decide +kernel
theorem dX8_oddsNow_8 : decode cX8_oddsNow 8 = .ok (.iaload, 1) := by decide +kernel
theorem dX8_oddsNow_9 : decode cX8_oddsNow 9 = .ok (.i2l, 1) := by decide +kernel
theorem dX8_oddsNow_10 : decode cX8_oddsNow 10 = .ok (.lstore_n 2, 1) := by decide +kernel
theorem dX8_oddsNow_11 : decode cX8_oddsNow 11 = .ok (.iconst 0, 1) := by decide +kernel
theorem dX8_oddsNow_12 : decode cX8_oddsNow 12 = .ok (.istore 4, 2) := by decide +kernel
theorem dX8_oddsNow_14 : decode cX8_oddsNow 14 = .ok (.iload 4, 2) := by decide +kernel
theorem dX8_oddsNow_16 : decode cX8_oddsNow 16 = .ok (.aload_n 0, 1) := by decide +kernel
theorem dX8_oddsNow_17 : decode cX8_oddsNow 17 = .ok (.getfield 29, 3) := by decide +kernel
theorem dX8_oddsNow_20 : decode cX8_oddsNow 20 = .ok (.getfield 141, 3) := by decide +kernel
theorem dX8_oddsNow_23 : decode cX8_oddsNow 23 = .ok (.if_icmp .ge 44, 3) := by decide +kernel
theorem dX8_oddsNow_26 : decode cX8_oddsNow 26 = .ok (.aload_n 0, 1) := by decide +kernel
theorem dX8_oddsNow_27 : decode cX8_oddsNow 27 = .ok (.getfield 47, 3) := by decide +kernel
theorem dX8_oddsNow_30 : decode cX8_oddsNow 30 = .ok (.iload 4, 2) := by decide +kernel
theorem dX8_oddsNow_32 : decode cX8_oddsNow 32 = .ok (.invokevirtual 240, 3) := by decide +kernel
theorem dX8_oddsNow_35 : decode cX8_oddsNow 35 = .ok (.ifCond .eq 26, 3) := by decide +kernel
theorem dX8_oddsNow_38 : decode cX8_oddsNow 38 = .ok (.lload_n 2, 1) := by decide +kernel
theorem dX8_oddsNow_39 : decode cX8_oddsNow 39 = .ok (.aload_n 0, 1) := by decide +kernel
theorem dX8_oddsNow_40 : decode cX8_oddsNow 40 = .ok (.getfield 29, 3) := by decide +kernel
theorem dX8_oddsNow_43 : decode cX8_oddsNow 43 = .ok (.iload 4, 2) := by decide +kernel
theorem dX8_oddsNow_45 : decode cX8_oddsNow 45 = .ok (.iload_n 1, 1) := by decide +kernel
theorem dX8_oddsNow_46 : decode cX8_oddsNow 46 = .ok (.aload_n 0, 1) := by decide +kernel
theorem dX8_oddsNow_47 : decode cX8_oddsNow 47 = .ok (.getfield 47, 3) := by decide +kernel
theorem dX8_oddsNow_50 : decode cX8_oddsNow 50 = .ok (.iload 4, 2) := by decide +kernel
theorem dX8_oddsNow_52 : decode cX8_oddsNow 52 = .ok (.invokevirtual 378, 3) := by decide +kernel
theorem dX8_oddsNow_55 : decode cX8_oddsNow 55 = .ok (.invokevirtual 381, 3) := by decide +kernel
theorem dX8_oddsNow_58 : decode cX8_oddsNow 58 = .ok (.i2l, 1) := by decide +kernel
theorem dX8_oddsNow_59 : decode cX8_oddsNow 59 = .ok (.lmul, 1) := by decide +kernel
theorem dX8_oddsNow_60 : decode cX8_oddsNow 60 = .ok (.lstore_n 2, 1) := by decide +kernel
theorem dX8_oddsNow_61 : decode cX8_oddsNow 61 = .ok (.iinc 4 1, 3) := by decide +kernel
theorem dX8_oddsNow_64 : decode cX8_oddsNow 64 = .ok (.goto (-50), 3) := by decide +kernel
theorem dX8_oddsNow_67 : decode cX8_oddsNow 67 = .ok (.lload_n 2, 1) := by decide +kernel
theorem dX8_oddsNow_68 : decode cX8_oddsNow 68 = .ok (.lreturn, 1) := by decide +kernel
theorem dX8_greatestWith_0 : decode cX8_greatestWith 0 = .ok (.lconst 0, 1) := by decide +kernel
theorem dX8_greatestWith_1 : decode cX8_greatestWith 1 = .ok (.lstore_n 3, 1) := by decide +kernel
theorem dX8_greatestWith_2 : decode cX8_greatestWith 2 = .ok (.iconst 0, 1) := by decide +kernel
theorem dX8_greatestWith_3 : decode cX8_greatestWith 3 = .ok (.istore 5, 2) := by decide +kernel
theorem dX8_greatestWith_5 : decode cX8_greatestWith 5 = .ok (.iload 5, 2) := by decide +kernel
theorem dX8_greatestWith_7 : decode cX8_greatestWith 7 = .ok (.bipush 16, 2) := by decide +kernel
theorem dX8_greatestWith_9 : decode cX8_greatestWith 9 = .ok (.if_icmp .ge 33, 3) := by decide +kernel
theorem dX8_greatestWith_12 : decode cX8_greatestWith 12 = .ok (.lload_n 3, 1) := by decide +kernel
theorem dX8_greatestWith_13 : decode cX8_greatestWith 13 = .ok (.aload_n 0, 1) := by decide +kernel
theorem dX8_greatestWith_14 : decode cX8_greatestWith 14 = .ok (.iload 5, 2) := by decide +kernel
theorem dX8_greatestWith_16 : decode cX8_greatestWith 16 = .ok (.invokevirtual 248, 3) := by decide +kernel
theorem dX8_greatestWith_19 : decode cX8_greatestWith 19 = .ok (.aload_n 0, 1) := by decide +kernel
theorem dX8_greatestWith_20 : decode cX8_greatestWith 20 = .ok (.getfield 29, 3) := by decide +kernel
theorem dX8_greatestWith_23 : decode cX8_greatestWith 23 = .ok (.iload_n 1, 1) := by decide +kernel
theorem dX8_greatestWith_24 : decode cX8_greatestWith 24 = .ok (.iload 5, 2) := by decide +kernel
theorem dX8_greatestWith_26 : decode cX8_greatestWith 26 = .ok (.iload_n 2, 1) := by decide +kernel
theorem dX8_greatestWith_27 : decode cX8_greatestWith 27 = .ok (.invokevirtual 381, 3) := by decide +kernel
theorem dX8_greatestWith_30 : decode cX8_greatestWith 30 = .ok (.i2l, 1) := by decide +kernel
theorem dX8_greatestWith_31 : decode cX8_greatestWith 31 = .ok (.lmul, 1) := by decide +kernel
theorem dX8_greatestWith_32 : decode cX8_greatestWith 32 = .ok (.invokestatic 385, 3) := by decide +kernel
theorem dX8_greatestWith_35 : decode cX8_greatestWith 35 = .ok (.lstore_n 3, 1) := by decide +kernel
theorem dX8_greatestWith_36 : decode cX8_greatestWith 36 = .ok (.iinc 5 1, 3) := by decide +kernel
theorem dX8_greatestWith_39 : decode cX8_greatestWith 39 = .ok (.goto (-34), 3) := by decide +kernel
theorem dX8_greatestWith_42 : decode cX8_greatestWith 42 = .ok (.lload_n 3, 1) := by decide +kernel
theorem dX8_greatestWith_43 : decode cX8_greatestWith 43 = .ok (.lreturn, 1) := by decide +kernel
theorem dX8_answersNeeded_0 : decode cX8_answersNeeded 0 = .ok (.iload_n 1, 1) := by decide +kernel
theorem dX8_answersNeeded_1 : decode cX8_answersNeeded 1 = .ok (.ifCond .eq 8, 3) := by decide +kernel
theorem dX8_answersNeeded_4 : decode cX8_answersNeeded 4 = .ok (.iload_n 0, 1) := by decide +kernel
theorem dX8_answersNeeded_5 : decode cX8_answersNeeded 5 = .ok (.iconst 1, 1) := by decide +kernel
theorem dX8_answersNeeded_6 : decode cX8_answersNeeded 6 = .ok (.if_icmp .ne 5, 3) := by decide +kernel
theorem dX8_answersNeeded_9 : decode cX8_answersNeeded 9 = .ok (.iload_n 0, 1) := by decide +kernel
theorem dX8_answersNeeded_10 : decode cX8_answersNeeded 10 = .ok (.ireturn, 1) := by decide +kernel
theorem dX8_answersNeeded_11 : decode cX8_answersNeeded 11 = .ok (.iload_n 0, 1) := by decide +kernel
theorem dX8_answersNeeded_12 : decode cX8_answersNeeded 12 = .ok (.iload_n 2, 1) := by decide +kernel
theorem dX8_answersNeeded_13 : decode cX8_answersNeeded 13 = .ok (.iconst 1, 1) := by decide +kernel
theorem dX8_answersNeeded_14 : decode cX8_answersNeeded 14 = .ok (.iadd, 1) := by decide +kernel
theorem dX8_answersNeeded_15 : decode cX8_answersNeeded 15 = .ok (.imul, 1) := by decide +kernel
theorem dX8_answersNeeded_16 : decode cX8_answersNeeded 16 = .ok (.iload_n 0, 1) := by decide +kernel
theorem dX8_answersNeeded_17 : decode cX8_answersNeeded 17 = .ok (.iconst 2, 1) := by decide +kernel
theorem dX8_answersNeeded_18 : decode cX8_answersNeeded 18 = .ok (.irem, 1) := by decide +kernel
theorem dX8_answersNeeded_19 : decode cX8_answersNeeded 19 = .ok (.iconst 1, 1) := by decide +kernel
theorem dX8_answersNeeded_20 : decode cX8_answersNeeded 20 = .ok (.if_icmp .ne 9, 3) := by decide +kernel
theorem dX8_answersNeeded_23 : decode cX8_answersNeeded 23 = .ok (.iload_n 2, 1) := by decide +kernel
theorem dX8_answersNeeded_24 : decode cX8_answersNeeded 24 = .ok (.iconst 1, 1) := by decide +kernel
theorem dX8_answersNeeded_25 : decode cX8_answersNeeded 25 = .ok (.isub, 1) := by decide +kernel
theorem dX8_answersNeeded_26 : decode cX8_answersNeeded 26 = .ok (.goto 4, 3) := by decide +kernel
theorem dX8_answersNeeded_29 : decode cX8_answersNeeded 29 = .ok (.iconst 0, 1) := by decide +kernel
theorem dX8_answersNeeded_30 : decode cX8_answersNeeded 30 = .ok (.iadd, 1) := by decide +kernel
theorem dX8_answersNeeded_31 : decode cX8_answersNeeded 31 = .ok (.ireturn, 1) := by decide +kernel
theorem dX9_init_0 : decode cX9_init 0 = .ok (.aload_n 0, 1) := by decide +kernel
theorem dX9_init_1 : decode cX9_init 1 = .ok (.invokespecial 1, 3) := by decide +kernel
theorem dX9_init_4 : decode cX9_init 4 = .ok (.aload_n 0, 1) := by decide +kernel
theorem dX9_init_5 : decode cX9_init 5 = .ok (.bipush 40, 2) := by decide +kernel
theorem dX9_init_7 : decode cX9_init 7 = .ok (.newarray .int, 2) := by decide +kernel
theorem dX9_init_9 : decode cX9_init 9 = .ok (.putfield 7, 3) := by decide +kernel
theorem dX9_init_12 : decode cX9_init 12 = .ok (.aload_n 0, 1) := by decide +kernel
theorem dX9_init_13 : decode cX9_init 13 = .ok (.bipush 40, 2) := by decide +kernel
theorem dX9_init_15 : decode cX9_init 15 = .ok (.newarray .boolean, 2) := by decide +kernel
theorem dX9_init_17 : decode cX9_init 17 = .ok (.putfield 13, 3) := by decide +kernel
theorem dX9_init_20 : decode cX9_init 20 = .ok (.aload_n 0, 1) := by decide +kernel
theorem dX9_init_21 : decode cX9_init 21 = .ok (.bipush 96, 2) := by decide +kernel
theorem dX9_init_23 : decode cX9_init 23 = .ok (.newarray .int, 2) := by decide +kernel
theorem dX9_init_25 : decode cX9_init 25 = .ok (.putfield 17, 3) := by decide +kernel
theorem dX9_init_28 : decode cX9_init 28 = .ok (.aload_n 0, 1) := by decide +kernel
theorem dX9_init_29 : decode cX9_init 29 = .ok (.bipush 24, 2) := by decide +kernel
theorem dX9_init_31 : decode cX9_init 31 = .ok (.newarray .int, 2) := by decide +kernel
theorem dX9_init_33 : decode cX9_init 33 = .ok (.putfield 20, 3) := by decide +kernel
theorem dX9_init_36 : decode cX9_init 36 = .ok (.aload_n 0, 1) := by decide +kernel
theorem dX9_init_37 : decode cX9_init 37 = .ok (.bipush 16, 2) := by decide +kernel
theorem dX9_init_39 : decode cX9_init 39 = .ok (.newarray .int, 2) := by decide +kernel
theorem dX9_init_41 : decode cX9_init 41 = .ok (.putfield 23, 3) := by decide +kernel
theorem dX9_init_44 : decode cX9_init 44 = .ok (.aload_n 0, 1) := by decide +kernel
theorem dX9_init_45 : decode cX9_init 45 = .ok (.bipush 6, 2) := by decide +kernel
theorem dX9_init_47 : decode cX9_init 47 = .ok (.newarray .int, 2) := by decide +kernel
theorem dX9_init_49 : decode cX9_init 49 = .ok (.putfield 26, 3) := by decide +kernel
theorem dX9_init_52 : decode cX9_init 52 = .ok (.aload_n 0, 1) := by decide +kernel
theorem dX9_init_53 : decode cX9_init 53 = .ok (.iconst (-1), 1) := by decide +kernel
theorem dX9_init_54 : decode cX9_init 54 = .ok (.putfield 29, 3) := by decide +kernel
theorem dX9_init_57 : decode cX9_init 57 = .ok (.aload_n 0, 1) := by decide +kernel
theorem dX9_init_58 : decode cX9_init 58 = .ok (.bipush 40, 2) := by decide +kernel
theorem dX9_init_60 : decode cX9_init 60 = .ok (.newarray .int, 2) := by decide +kernel
theorem dX9_init_62 : decode cX9_init 62 = .ok (.putfield 33, 3) := by decide +kernel
theorem dX9_init_65 : decode cX9_init 65 = .ok (.aload_n 0, 1) := by decide +kernel
theorem dX9_init_66 : decode cX9_init 66 = .ok (.sipush 400, 3) := by decide +kernel
theorem dX9_init_69 : decode cX9_init 69 = .ok (.newarray .int, 2) := by decide +kernel
theorem dX9_init_71 : decode cX9_init 71 = .ok (.putfield 36, 3) := by decide +kernel
theorem dX9_init_74 : decode cX9_init 74 = .ok (.aload_n 0, 1) := by decide +kernel
theorem dX9_init_75 : decode cX9_init 75 = .ok (.iconst (-1), 1) := by decide +kernel
theorem dX9_init_76 : decode cX9_init 76 = .ok (.putfield 39, 3) := by decide +kernel
theorem dX9_init_79 : decode cX9_init 79 = .ok (.aload_n 0, 1) := by decide +kernel
theorem dX9_init_80 : decode cX9_init 80 = .ok (.bipush 40, 2) := by decide +kernel
theorem dX9_init_82 : decode cX9_init 82 = .ok (.newarray .int, 2) := by decide +kernel
theorem dX9_init_84 : decode cX9_init 84 = .ok (.putfield 42, 3) := by decide +kernel
theorem dX9_init_87 : decode cX9_init 87 = .ok (.aload_n 0, 1) := by decide +kernel
theorem dX9_init_88 : decode cX9_init 88 = .ok (.bipush 40, 2) := by decide +kernel
theorem dX9_init_90 : decode cX9_init 90 = .ok (.newarray .boolean, 2) := by decide +kernel
theorem dX9_init_92 : decode cX9_init 92 = .ok (.putfield 45, 3) := by decide +kernel
theorem dX9_init_95 : decode cX9_init 95 = .ok (.aload_n 0, 1) := by decide +kernel
theorem dX9_init_96 : decode cX9_init 96 = .ok (.bipush 96, 2) := by decide +kernel
theorem dX9_init_98 : decode cX9_init 98 = .ok (.newarray .int, 2) := by decide +kernel
theorem dX9_init_100 : decode cX9_init 100 = .ok (.putfield 48, 3) := by decide +kernel
theorem dX9_init_103 : decode cX9_init 103 = .ok (.aload_n 0, 1) := by decide +kernel
theorem dX9_init_104 : decode cX9_init 104 = .ok (.bipush 24, 2) := by decide +kernel
theorem dX9_init_106 : decode cX9_init 106 = .ok (.newarray .int, 2) := by decide +kernel
theorem dX9_init_108 : decode cX9_init 108 = .ok (.putfield 51, 3) := by decide +kernel
theorem dX9_init_111 : decode cX9_init 111 = .ok (.aload_n 0, 1) := by decide +kernel
theorem dX9_init_112 : decode cX9_init 112 = .ok (.sipush 729, 3) := by decide +kernel
theorem dX9_init_115 : decode cX9_init 115 = .ok (.newarray .int, 2) := by decide +kernel
theorem dX9_init_117 : decode cX9_init 117 = .ok (.putfield 54, 3) := by decide +kernel
theorem dX9_init_120 : decode cX9_init 120 = .ok (.aload_n 0, 1) := by decide +kernel
theorem dX9_init_121 : decode cX9_init 121 = .ok (.bipush 6, 2) := by decide +kernel
theorem dX9_init_123 : decode cX9_init 123 = .ok (.newarray .int, 2) := by decide +kernel
theorem dX9_init_125 : decode cX9_init 125 = .ok (.putfield 57, 3) := by decide +kernel
theorem dX9_init_128 : decode cX9_init 128 = .ok (.aload_n 0, 1) := by decide +kernel
theorem dX9_init_129 : decode cX9_init 129 = .ok (.bipush 40, 2) := by decide +kernel
theorem dX9_init_131 : decode cX9_init 131 = .ok (.newarray .int, 2) := by decide +kernel
theorem dX9_init_133 : decode cX9_init 133 = .ok (.putfield 60, 3) := by decide +kernel
theorem dX9_init_136 : decode cX9_init 136 = .ok (.aload_n 0, 1) := by decide +kernel
theorem dX9_init_137 : decode cX9_init 137 = .ok (.bipush 8, 2) := by decide +kernel
theorem dX9_init_139 : decode cX9_init 139 = .ok (.newarray .int, 2) := by decide +kernel
theorem dX9_init_141 : decode cX9_init 141 = .ok (.putfield 63, 3) := by decide +kernel
theorem dX9_init_144 : decode cX9_init 144 = .ok (.aload_n 0, 1) := by decide +kernel
theorem dX9_init_145 : decode cX9_init 145 = .ok (.sipush 1089, 3) := by decide +kernel
theorem dX9_init_148 : decode cX9_init 148 = .ok (.newarray .boolean, 2) := by decide +kernel
theorem dX9_init_150 : decode cX9_init 150 = .ok (.putfield 66, 3) := by decide +kernel
theorem dX9_init_153 : decode cX9_init 153 = .ok (.aload_n 0, 1) := by decide +kernel
theorem dX9_init_154 : decode cX9_init 154 = .ok (.sipush 1089, 3) := by decide +kernel
theorem dX9_init_157 : decode cX9_init 157 = .ok (.newarray .boolean, 2) := by decide +kernel
theorem dX9_init_159 : decode cX9_init 159 = .ok (.putfield 69, 3) := by decide +kernel
theorem dX9_init_162 : decode cX9_init 162 = .ok (.aload_n 0, 1) := by decide +kernel
theorem dX9_init_163 : decode cX9_init 163 = .ok (.bipush 8, 2) := by decide +kernel
theorem dX9_init_165 : decode cX9_init 165 = .ok (.newarray .int, 2) := by decide +kernel
theorem dX9_init_167 : decode cX9_init 167 = .ok (.putfield 72, 3) := by decide +kernel
theorem dX9_init_170 : decode cX9_init 170 = .ok (.aload_n 0, 1) := by decide +kernel
theorem dX9_init_171 : decode cX9_init 171 = .ok (.bipush 8, 2) := by decide +kernel
theorem dX9_init_173 : decode cX9_init 173 = .ok (.newarray .int, 2) := by decide +kernel
theorem dX9_init_175 : decode cX9_init 175 = .ok (.putfield 75, 3) := by decide +kernel
theorem dX9_init_178 : decode cX9_init 178 = .ok (.aload_n 0, 1) := by decide +kernel
theorem dX9_init_179 : decode cX9_init 179 = .ok (.bipush 40, 2) := by decide +kernel
theorem dX9_init_181 : decode cX9_init 181 = .ok (.newarray .int, 2) := by decide +kernel
theorem dX9_init_183 : decode cX9_init 183 = .ok (.putfield 78, 3) := by decide +kernel
theorem dX9_init_186 : decode cX9_init 186 = .ok (.aload_n 0, 1) := by decide +kernel
theorem dX9_init_187 : decode cX9_init 187 = .ok (.sipush 400, 3) := by decide +kernel
theorem dX9_init_190 : decode cX9_init 190 = .ok (.newarray .int, 2) := by decide +kernel
theorem dX9_init_192 : decode cX9_init 192 = .ok (.putfield 81, 3) := by decide +kernel
theorem dX9_init_195 : decode cX9_init 195 = .ok (.aload_n 0, 1) := by decide +kernel
theorem dX9_init_196 : decode cX9_init 196 = .ok (.iconst 2, 1) := by decide +kernel
theorem dX9_init_197 : decode cX9_init 197 = .ok (.newarray .boolean, 2) := by decide +kernel
theorem dX9_init_199 : decode cX9_init 199 = .ok (.putfield 84, 3) := by decide +kernel
theorem dX9_init_202 : decode cX9_init 202 = .ok (.iconst 0, 1) := by decide +kernel
theorem dX9_init_203 : decode cX9_init 203 = .ok (.istore_n 1, 1) := by decide +kernel
theorem dX9_init_204 : decode cX9_init 204 = .ok (.iload_n 1, 1) := by decide +kernel
theorem dX9_init_205 : decode cX9_init 205 = .ok (.bipush 16, 2) := by decide +kernel
theorem dX9_init_207 : decode cX9_init 207 = .ok (.if_icmp .ge 16, 3) := by decide +kernel
theorem dX9_init_210 : decode cX9_init 210 = .ok (.aload_n 0, 1) := by decide +kernel
theorem dX9_init_211 : decode cX9_init 211 = .ok (.getfield 23, 3) := by decide +kernel
theorem dX9_init_214 : decode cX9_init 214 = .ok (.iload_n 1, 1) := by decide +kernel
theorem dX9_init_215 : decode cX9_init 215 = .ok (.iconst 1, 1) := by decide +kernel
theorem dX9_init_216 : decode cX9_init 216 = .ok (.iastore, 1) := by decide +kernel
theorem dX9_init_217 : decode cX9_init 217 = .ok (.iinc 1 1, 3) := by decide +kernel
theorem dX9_init_220 : decode cX9_init 220 = .ok (.goto (-16), 3) := by decide +kernel
theorem dX9_init_223 : decode cX9_init 223 = .ok (.return_, 1) := by decide +kernel
theorem dX9_in_0 : decode cX9_in 0 = .ok (.lload_n 0, 1) := by decide +kernel
theorem dX9_in_1 : decode cX9_in 1 = .ok (.lload_n 2, 1) := by decide +kernel
theorem dX9_in_2 : decode cX9_in 2 = .ok (.lcmp, 1) := by decide +kernel
theorem dX9_in_3 : decode cX9_in 3 = .ok (.ifCond .lt 14, 3) := by decide +kernel
theorem dX9_in_6 : decode cX9_in 6 = .ok (.lload_n 0, 1) := by decide +kernel
theorem dX9_in_7 : decode cX9_in 7 = .ok (.lload 4, 2) := by decide +kernel
theorem dX9_in_9 : decode cX9_in 9 = .ok (.lcmp, 1) := by decide +kernel
theorem dX9_in_10 : decode cX9_in 10 = .ok (.ifCond .gt 7, 3) := by decide +kernel
theorem dX9_in_13 : decode cX9_in 13 = .ok (.iconst 1, 1) := by decide +kernel
theorem dX9_in_14 : decode cX9_in 14 = .ok (.goto 4, 3) := by decide +kernel
theorem dX9_in_17 : decode cX9_in 17 = .ok (.iconst 0, 1) := by decide +kernel
theorem dX9_in_18 : decode cX9_in 18 = .ok (.ireturn, 1) := by decide +kernel
theorem dX9_has_0 : decode cX9_has 0 = .ok (.iload_n 0, 1) := by decide +kernel
theorem dX9_has_1 : decode cX9_has 1 = .ok (.iload_n 1, 1) := by decide +kernel
theorem dX9_has_2 : decode cX9_has 2 = .ok (.ishr, 1) := by decide +kernel
theorem dX9_has_3 : decode cX9_has 3 = .ok (.iconst 1, 1) := by decide +kernel
theorem dX9_has_4 : decode cX9_has 4 = .ok (.iand, 1) := by decide +kernel
theorem dX9_has_5 : decode cX9_has 5 = .ok (.iconst 1, 1) := by decide +kernel
theorem dX9_has_6 : decode cX9_has 6 = .ok (.if_icmp .ne 7, 3) := by decide +kernel
theorem dX9_has_9 : decode cX9_has 9 = .ok (.iconst 1, 1) := by decide +kernel
theorem dX9_has_10 : decode cX9_has 10 = .ok (.goto 4, 3) := by decide +kernel
theorem dX9_has_13 : decode cX9_has 13 = .ok (.iconst 0, 1) := by decide +kernel
theorem dX9_has_14 : decode cX9_has 14 = .ok (.ireturn, 1) := by decide +kernel
theorem dX9_size_0 : decode cX9_size 0 = .ok (.iload_n 0, 1) := by decide +kernel
theorem dX9_size_1 : decode cX9_size 1 = .ok (.ifCond .ge 8, 3) := by decide +kernel
theorem dX9_size_4 : decode cX9_size 4 = .ok (.iload_n 0, 1) := by decide +kernel
theorem dX9_size_5 : decode cX9_size 5 = .ok (.ineg, 1) := by decide +kernel
theorem dX9_size_6 : decode cX9_size 6 = .ok (.goto 4, 3) := by decide +kernel
theorem dX9_size_9 : decode cX9_size 9 = .ok (.iload_n 0, 1) := by decide +kernel
theorem dX9_size_10 : decode cX9_size 10 = .ok (.ireturn, 1) := by decide +kernel
theorem dX9_isSinger_0 : decode cX9_isSinger 0 = .ok (.iload_n 1, 1) := by decide +kernel
theorem dX9_isSinger_1 : decode cX9_isSinger 1 = .ok (.i2l, 1) := by decide +kernel
theorem dX9_isSinger_2 : decode cX9_isSinger 2 = .ok (.lconst 0, 1) := by decide +kernel
theorem dX9_isSinger_3 : decode cX9_isSinger 3 = .ok (.aload_n 0, 1) := by decide +kernel
theorem dX9_isSinger_4 : decode cX9_isSinger 4 = .ok (.getfield 87, 3) := by decide +kernel
theorem dX9_isSinger_7 : decode cX9_isSinger 7 = .ok (.iconst 1, 1) := by decide +kernel
theorem dX9_isSinger_8 : decode cX9_isSinger 8 = .ok (.isub, 1) := by decide +kernel
theorem dX9_isSinger_9 : decode cX9_isSinger 9 = .ok (.i2l, 1) := by decide +kernel
theorem dX9_isSinger_10 : decode cX9_isSinger 10 = .ok (.invokestatic 90, 3) := by decide +kernel
theorem dX9_isSinger_13 : decode cX9_isSinger 13 = .ok (.ireturn, 1) := by decide +kernel
theorem dX9_isTask_0 : decode cX9_isTask 0 = .ok (.iload_n 1, 1) := by decide +kernel
theorem dX9_isTask_1 : decode cX9_isTask 1 = .ok (.i2l, 1) := by decide +kernel
theorem dX9_isTask_2 : decode cX9_isTask 2 = .ok (.lconst 0, 1) := by decide +kernel
theorem dX9_isTask_3 : decode cX9_isTask 3 = .ok (.aload_n 0, 1) := by decide +kernel
theorem dX9_isTask_4 : decode cX9_isTask 4 = .ok (.getfield 94, 3) := by decide +kernel
theorem dX9_isTask_7 : decode cX9_isTask 7 = .ok (.iconst 1, 1) := by decide +kernel
theorem dX9_isTask_8 : decode cX9_isTask 8 = .ok (.isub, 1) := by decide +kernel
theorem dX9_isTask_9 : decode cX9_isTask 9 = .ok (.i2l, 1) := by decide +kernel
theorem dX9_isTask_10 : decode cX9_isTask 10 = .ok (.invokestatic 90, 3) := by decide +kernel
theorem dX9_isTask_13 : decode cX9_isTask 13 = .ok (.ireturn, 1) := by decide +kernel
theorem dX9_feed_0 : decode cX9_feed 0 = .ok (.iload_n 1, 1) := by decide +kernel
theorem dX9_feed_1 : decode cX9_feed 1 = .ok (.i2l, 1) := by decide +kernel
theorem dX9_feed_2 : decode cX9_feed 2 = .ok (.lconst 1, 1) := by decide +kernel
theorem dX9_feed_3 : decode cX9_feed 3 = .ok (.ldc2_w 97, 3) := by decide +kernel
theorem dX9_feed_6 : decode cX9_feed 6 = .ok (.invokestatic 90, 3) := by decide +kernel
theorem dX9_feed_9 : decode cX9_feed 9 = .ok (.ifCond .ne 6, 3) := by decide +kernel
theorem dX9_feed_12 : decode cX9_feed 12 = .ok (.ldc 99, 2) := by decide +kernel
theorem dX9_feed_14 : decode cX9_feed 14 = .ok (.ireturn, 1) := by decide +kernel
theorem dX9_feed_15 : decode cX9_feed 15 = .ok (.aload_n 0, 1) := by decide +kernel
theorem dX9_feed_16 : decode cX9_feed 16 = .ok (.getfield 100, 3) := by decide +kernel
theorem dX9_feed_19 : decode cX9_feed 19 = .ok (.iload_n 1, 1) := by decide +kernel
theorem dX9_feed_20 : decode cX9_feed 20 = .ok (.iadd, 1) := by decide +kernel
theorem dX9_feed_21 : decode cX9_feed 21 = .ok (.sipush 400, 3) := by decide +kernel
theorem dX9_feed_24 : decode cX9_feed 24 = .ok (.if_icmp .le 6, 3) := by decide +kernel
theorem dX9_feed_27 : decode cX9_feed 27 = .ok (.ldc 103, 2) := by decide +kernel
theorem dX9_feed_29 : decode cX9_feed 29 = .ok (.ireturn, 1) := by decide +kernel
theorem dX9_feed_30 : decode cX9_feed 30 = .ok (.iload_n 1, 1) := by decide +kernel
theorem dX9_feed_31 : decode cX9_feed 31 = .ok (.iconst 1, 1) := by decide +kernel
theorem dX9_feed_32 : decode cX9_feed 32 = .ok (.isub, 1) := by decide +kernel
theorem dX9_feed_33 : decode cX9_feed 33 = .ok (.istore 4, 2) := by decide +kernel
theorem dX9_feed_35 : decode cX9_feed 35 = .ok (.iload 4, 2) := by decide +kernel
theorem dX9_feed_37 : decode cX9_feed 37 = .ok (.ifCond .lt 40, 3) := by decide +kernel
theorem dX9_feed_40 : decode cX9_feed 40 = .ok (.aload_n 0, 1) := by decide +kernel
theorem dX9_feed_41 : decode cX9_feed 41 = .ok (.getfield 36, 3) := by decide +kernel
theorem dX9_feed_44 : decode cX9_feed 44 = .ok (.aload_n 0, 1) := by decide +kernel
theorem dX9_feed_45 : decode cX9_feed 45 = .ok (.getfield 100, 3) := by decide +kernel
theorem dX9_feed_48 : decode cX9_feed 48 = .ok (.lload_n 2, 1) := by decide +kernel
theorem dX9_feed_49 : decode cX9_feed 49 = .ok (.bipush 8, 2) := by decide +kernel
theorem dX9_feed_51 : decode cX9_feed 51 = .ok (.iload 4, 2) := by decide +kernel
theorem dX9_feed_53 : decode cX9_feed 53 = .ok (.imul, 1) := by decide +kernel
theorem dX9_feed_54 : decode cX9_feed 54 = .ok (.lshr, 1) := by decide +kernel
theorem dX9_feed_55 : decode cX9_feed 55 = .ok (.ldc2_w 104, 3) := by decide +kernel
theorem dX9_feed_58 : decode cX9_feed 58 = .ok (.land, 1) := by decide +kernel
theorem dX9_feed_59 : decode cX9_feed 59 = .ok (.l2i, 1) := by decide +kernel
theorem dX9_feed_60 : decode cX9_feed 60 = .ok (.iastore, 1) := by decide +kernel
theorem dX9_feed_61 : decode cX9_feed 61 = .ok (.aload_n 0, 1) := by decide +kernel
theorem dX9_feed_62 : decode cX9_feed 62 = .ok (.dup, 1) := by decide +kernel
theorem dX9_feed_63 : decode cX9_feed 63 = .ok (.getfield 100, 3) := by decide +kernel
theorem dX9_feed_66 : decode cX9_feed 66 = .ok (.iconst 1, 1) := by decide +kernel
theorem dX9_feed_67 : decode cX9_feed 67 = .ok (.iadd, 1) := by decide +kernel
theorem dX9_feed_68 : decode cX9_feed 68 = .ok (.putfield 100, 3) := by decide +kernel
theorem dX9_feed_71 : decode cX9_feed 71 = .ok (.iinc 4 (-1), 3) := by decide +kernel
theorem dX9_feed_74 : decode cX9_feed 74 = .ok (.goto (-39), 3) := by decide +kernel
theorem dX9_feed_77 : decode cX9_feed 77 = .ok (.aload_n 0, 1) := by decide +kernel
theorem dX9_feed_78 : decode cX9_feed 78 = .ok (.getfield 100, 3) := by decide +kernel
theorem dX9_feed_81 : decode cX9_feed 81 = .ok (.ireturn, 1) := by decide +kernel
theorem dX9_here_0 : decode cX9_here 0 = .ok (.aload_n 0, 1) := by decide +kernel
theorem dX9_here_1 : decode cX9_here 1 = .ok (.getfield 106, 3) := by decide +kernel
theorem dX9_here_4 : decode cX9_here 4 = .ok (.aload_n 0, 1) := by decide +kernel
theorem dX9_here_5 : decode cX9_here 5 = .ok (.getfield 100, 3) := by decide +kernel
theorem dX9_here_8 : decode cX9_here 8 = .ok (.if_icmp .ge 30, 3) := by decide +kernel
theorem dX9_here_11 : decode cX9_here 11 = .ok (.aload_n 0, 1) := by decide +kernel
theorem dX9_here_12 : decode cX9_here 12 = .ok (.getfield 36, 3) := by decide +kernel
theorem dX9_here_15 : decode cX9_here 15 = .ok (.aload_n 0, 1) := by decide +kernel
theorem dX9_here_16 : decode cX9_here 16 = .ok (.getfield 106, 3) := by decide +kernel
theorem dX9_here_19 : decode cX9_here 19 = .ok (.iaload, 1) := by decide +kernel
theorem dX9_here_20 : decode cX9_here 20 = .ok (.bipush 32, 2) := by decide +kernel
theorem dX9_here_22 : decode cX9_here 22 = .ok (.if_icmp .ne 16, 3) := by decide +kernel
theorem dX9_here_25 : decode cX9_here 25 = .ok (.aload_n 0, 1) := by decide +kernel
theorem dX9_here_26 : decode cX9_here 26 = .ok (.dup, 1) := by decide +kernel
theorem dX9_here_27 : decode cX9_here 27 = .ok (.getfield 106, 3) := by decide +kernel
theorem dX9_here_30 : decode cX9_here 30 = .ok (.iconst 1, 1) := by decide +kernel
theorem dX9_here_31 : decode cX9_here 31 = .ok (.iadd, 1) := by decide +kernel
theorem dX9_here_32 : decode cX9_here 32 = .ok (.putfield 106, 3) := by decide +kernel
theorem dX9_here_35 : decode cX9_here 35 = .ok (.goto (-35), 3) := by decide +kernel
theorem dX9_here_38 : decode cX9_here 38 = .ok (.aload_n 0, 1) := by decide +kernel
theorem dX9_here_39 : decode cX9_here 39 = .ok (.getfield 106, 3) := by decide +kernel
theorem dX9_here_42 : decode cX9_here 42 = .ok (.aload_n 0, 1) := by decide +kernel
theorem dX9_here_43 : decode cX9_here 43 = .ok (.getfield 100, 3) := by decide +kernel
theorem dX9_here_46 : decode cX9_here 46 = .ok (.if_icmp .ge 15, 3) := by decide +kernel
theorem dX9_here_49 : decode cX9_here 49 = .ok (.aload_n 0, 1) := by decide +kernel
theorem dX9_here_50 : decode cX9_here 50 = .ok (.getfield 36, 3) := by decide +kernel
theorem dX9_here_53 : decode cX9_here 53 = .ok (.aload_n 0, 1) := by decide +kernel
theorem dX9_here_54 : decode cX9_here 54 = .ok (.getfield 106, 3) := by decide +kernel
theorem dX9_here_57 : decode cX9_here 57 = .ok (.iaload, 1) := by decide +kernel
theorem dX9_here_58 : decode cX9_here 58 = .ok (.goto 4, 3) := by decide +kernel
theorem dX9_here_61 : decode cX9_here 61 = .ok (.iconst (-1), 1) := by decide +kernel
theorem dX9_here_62 : decode cX9_here 62 = .ok (.ireturn, 1) := by decide +kernel
theorem dX9_fails_0 : decode cX9_fails 0 = .ok (.aload_n 0, 1) := by decide +kernel
theorem dX9_fails_1 : decode cX9_fails 1 = .ok (.iload_n 2, 1) := by decide +kernel
theorem dX9_fails_2 : decode cX9_fails 2 = .ok (.putfield 39, 3) := by decide +kernel
theorem dX9_fails_5 : decode cX9_fails 5 = .ok (.iload_n 1, 1) := by decide +kernel
theorem dX9_fails_6 : decode cX9_fails 6 = .ok (.ireturn, 1) := by decide +kernel
theorem dX9_readWord_0 : decode cX9_readWord 0 = .ok (.aload_n 0, 1) := by decide +kernel
theorem dX9_readWord_1 : decode cX9_readWord 1 = .ok (.invokevirtual 109, 3) := by decide +kernel
theorem dX9_readWord_4 : decode cX9_readWord 4 = .ok (.istore_n 1, 1) := by decide +kernel
theorem dX9_readWord_5 : decode cX9_readWord 5 = .ok (.aload_n 0, 1) := by decide +kernel
theorem dX9_readWord_6 : decode cX9_readWord 6 = .ok (.lconst 0, 1) := by decide +kernel
theorem dX9_readWord_7 : decode cX9_readWord 7 = .ok (.putfield 113, 3) := by decide +kernel
theorem dX9_readWord_10 : decode cX9_readWord 10 = .ok (.aload_n 0, 1) := by decide +kernel
theorem dX9_readWord_11 : decode cX9_readWord 11 = .ok (.aload_n 0, 1) := by decide +kernel
theorem dX9_readWord_12 : decode cX9_readWord 12 = .ok (.getfield 106, 3) := by decide +kernel
theorem dX9_readWord_15 : decode cX9_readWord 15 = .ok (.putfield 117, 3) := by decide +kernel
theorem dX9_readWord_18 : decode cX9_readWord 18 = .ok (.aload_n 0, 1) := by decide +kernel
theorem dX9_readWord_19 : decode cX9_readWord 19 = .ok (.getfield 117, 3) := by decide +kernel
theorem dX9_readWord_22 : decode cX9_readWord 22 = .ok (.aload_n 0, 1) := by decide +kernel
theorem dX9_readWord_23 : decode cX9_readWord 23 = .ok (.getfield 100, 3) := by decide +kernel
theorem dX9_readWord_26 : decode cX9_readWord 26 = .ok (.if_icmp .ge 82, 3) := by decide +kernel
theorem dX9_readWord_29 : decode cX9_readWord 29 = .ok (.aload_n 0, 1) := by decide +kernel
theorem dX9_readWord_30 : decode cX9_readWord 30 = .ok (.getfield 36, 3) := by decide +kernel
theorem dX9_readWord_33 : decode cX9_readWord 33 = .ok (.aload_n 0, 1) := by decide +kernel
theorem dX9_readWord_34 : decode cX9_readWord 34 = .ok (.getfield 117, 3) := by decide +kernel
theorem dX9_readWord_37 : decode cX9_readWord 37 = .ok (.iaload, 1) := by decide +kernel
theorem dX9_readWord_38 : decode cX9_readWord 38 = .ok (.i2l, 1) := by decide +kernel
theorem dX9_readWord_39 : decode cX9_readWord 39 = .ok (.ldc2_w 120, 3) := by decide +kernel
theorem dX9_readWord_42 : decode cX9_readWord 42 = .ok (.ldc2_w 122, 3) := by decide +kernel
theorem dX9_readWord_45 : decode cX9_readWord 45 = .ok (.invokestatic 90, 3) := by decide +kernel
theorem dX9_readWord_48 : decode cX9_readWord 48 = .ok (.ifCond .eq 60, 3) := by decide +kernel
theorem dX9_readWord_51 : decode cX9_readWord 51 = .ok (.aload_n 0, 1) := by decide +kernel
theorem dX9_readWord_52 : decode cX9_readWord 52 = .ok (.aload_n 0, 1) := by decide +kernel
theorem dX9_readWord_53 : decode cX9_readWord 53 = .ok (.getfield 113, 3) := by decide +kernel
theorem dX9_readWord_56 : decode cX9_readWord 56 = .ok (.ldc2_w 124, 3) := by decide +kernel
theorem dX9_readWord_59 : decode cX9_readWord 59 = .ok (.lcmp, 1) := by decide +kernel
theorem dX9_readWord_60 : decode cX9_readWord 60 = .ok (.ifCond .le 9, 3) := by decide +kernel
theorem dX9_readWord_63 : decode cX9_readWord 63 = .ok (.ldc2_w 126, 3) := by decide +kernel
theorem dX9_readWord_66 : decode cX9_readWord 66 = .ok (.goto 26, 3) := by decide +kernel
theorem dX9_readWord_69 : decode cX9_readWord 69 = .ok (.ldc2_w 128, 3) := by decide +kernel
theorem dX9_readWord_72 : decode cX9_readWord 72 = .ok (.aload_n 0, 1) := by decide +kernel
theorem dX9_readWord_73 : decode cX9_readWord 73 = .ok (.getfield 113, 3) := by decide +kernel
theorem dX9_readWord_76 : decode cX9_readWord 76 = .ok (.lmul, 1) := by decide +kernel
theorem dX9_readWord_77 : decode cX9_readWord 77 = .ok (.aload_n 0, 1) := by decide +kernel
theorem dX9_readWord_78 : decode cX9_readWord 78 = .ok (.getfield 36, 3) := by decide +kernel
theorem dX9_readWord_81 : decode cX9_readWord 81 = .ok (.aload_n 0, 1) := by decide +kernel
theorem dX9_readWord_82 : decode cX9_readWord 82 = .ok (.getfield 117, 3) := by decide +kernel
theorem dX9_readWord_85 : decode cX9_readWord 85 = .ok (.iaload, 1) := by decide +kernel
theorem dX9_readWord_86 : decode cX9_readWord 86 = .ok (.i2l, 1) := by decide +kernel
theorem dX9_readWord_87 : decode cX9_readWord 87 = .ok (.ladd, 1) := by decide +kernel
theorem dX9_readWord_88 : decode cX9_readWord 88 = .ok (.ldc2_w 130, 3) := by decide +kernel
theorem dX9_readWord_91 : decode cX9_readWord 91 = .ok (.lsub, 1) := by decide +kernel
theorem dX9_readWord_92 : decode cX9_readWord 92 = .ok (.putfield 113, 3) := by decide +kernel
theorem dX9_readWord_95 : decode cX9_readWord 95 = .ok (.aload_n 0, 1) := by decide +kernel
theorem dX9_readWord_96 : decode cX9_readWord 96 = .ok (.dup, 1) := by decide +kernel
theorem dX9_readWord_97 : decode cX9_readWord 97 = .ok (.getfield 117, 3) := by decide +kernel
theorem dX9_readWord_100 : decode cX9_readWord 100 = .ok (.iconst 1, 1) := by decide +kernel
theorem dX9_readWord_101 : decode cX9_readWord 101 = .ok (.iadd, 1) := by decide +kernel
theorem dX9_readWord_102 : decode cX9_readWord 102 = .ok (.putfield 117, 3) := by decide +kernel
theorem dX9_readWord_105 : decode cX9_readWord 105 = .ok (.goto (-87), 3) := by decide +kernel
theorem dX9_readWord_108 : decode cX9_readWord 108 = .ok (.return_, 1) := by decide +kernel
theorem dX9_code_0 : decode cX9_code 0 = .ok (.ldc2_w 128, 3) := by decide +kernel
theorem dX9_code_3 : decode cX9_code 3 = .ok (.ldc2_w 128, 3) := by decide +kernel
theorem dX9_code_6 : decode cX9_code 6 = .ok (.ldc2_w 128, 3) := by decide +kernel
theorem dX9_code_9 : decode cX9_code 9 = .ok (.iload_n 0, 1) := by decide +kernel
theorem dX9_code_10 : decode cX9_code 10 = .ok (.i2l, 1) := by decide +kernel
theorem dX9_code_11 : decode cX9_code 11 = .ok (.ldc2_w 130, 3) := by decide +kernel
theorem dX9_code_14 : decode cX9_code 14 = .ok (.lsub, 1) := by decide +kernel
theorem dX9_code_15 : decode cX9_code 15 = .ok (.lmul, 1) := by decide +kernel
theorem dX9_code_16 : decode cX9_code 16 = .ok (.iload_n 1, 1) := by decide +kernel
theorem dX9_code_17 : decode cX9_code 17 = .ok (.i2l, 1) := by decide +kernel
theorem dX9_code_18 : decode cX9_code 18 = .ok (.ladd, 1) := by decide +kernel
theorem dX9_code_19 : decode cX9_code 19 = .ok (.ldc2_w 130, 3) := by decide +kernel
theorem dX9_code_22 : decode cX9_code 22 = .ok (.lsub, 1) := by decide +kernel
theorem dX9_code_23 : decode cX9_code 23 = .ok (.lmul, 1) := by decide +kernel
theorem dX9_code_24 : decode cX9_code 24 = .ok (.iload_n 2, 1) := by decide +kernel
theorem dX9_code_25 : decode cX9_code 25 = .ok (.i2l, 1) := by decide +kernel
theorem dX9_code_26 : decode cX9_code 26 = .ok (.ladd, 1) := by decide +kernel
theorem dX9_code_27 : decode cX9_code 27 = .ok (.ldc2_w 130, 3) := by decide +kernel
theorem dX9_code_30 : decode cX9_code 30 = .ok (.lsub, 1) := by decide +kernel
theorem dX9_code_31 : decode cX9_code 31 = .ok (.lmul, 1) := by decide +kernel
theorem dX9_code_32 : decode cX9_code 32 = .ok (.iload_n 3, 1) := by decide +kernel
theorem dX9_code_33 : decode cX9_code 33 = .ok (.i2l, 1) := by decide +kernel
theorem dX9_code_34 : decode cX9_code 34 = .ok (.ladd, 1) := by decide +kernel
theorem dX9_code_35 : decode cX9_code 35 = .ok (.ldc2_w 130, 3) := by decide +kernel
theorem dX9_code_38 : decode cX9_code 38 = .ok (.lsub, 1) := by decide +kernel
theorem dX9_code_39 : decode cX9_code 39 = .ok (.lreturn, 1) := by decide +kernel
theorem dX9_longer_0 : decode cX9_longer 0 = .ok (.ldc2_w 128, 3) := by decide +kernel
theorem dX9_longer_3 : decode cX9_longer 3 = .ok (.lload_n 0, 1) := by decide +kernel
theorem dX9_longer_4 : decode cX9_longer 4 = .ok (.lmul, 1) := by decide +kernel
theorem dX9_longer_5 : decode cX9_longer 5 = .ok (.iload_n 2, 1) := by decide +kernel
theorem dX9_longer_6 : decode cX9_longer 6 = .ok (.i2l, 1) := by decide +kernel
theorem dX9_longer_7 : decode cX9_longer 7 = .ok (.ladd, 1) := by decide +kernel
theorem dX9_longer_8 : decode cX9_longer 8 = .ok (.ldc2_w 130, 3) := by decide +kernel
theorem dX9_longer_11 : decode cX9_longer 11 = .ok (.lsub, 1) := by decide +kernel
theorem dX9_longer_12 : decode cX9_longer 12 = .ok (.lreturn, 1) := by decide +kernel
theorem dX9_takeNumber_0 : decode cX9_takeNumber 0 = .ok (.aload_n 0, 1) := by decide +kernel
theorem dX9_takeNumber_1 : decode cX9_takeNumber 1 = .ok (.invokevirtual 109, 3) := by decide +kernel
theorem dX9_takeNumber_4 : decode cX9_takeNumber 4 = .ok (.istore_n 3, 1) := by decide +kernel
theorem dX9_takeNumber_5 : decode cX9_takeNumber 5 = .ok (.iload_n 3, 1) := by decide +kernel
theorem dX9_takeNumber_6 : decode cX9_takeNumber 6 = .ok (.i2l, 1) := by decide +kernel
theorem dX9_takeNumber_7 : decode cX9_takeNumber 7 = .ok (.ldc2_w 132, 3) := by decide +kernel
theorem dX9_takeNumber_10 : decode cX9_takeNumber 10 = .ok (.ldc2_w 134, 3) := by decide +kernel
theorem dX9_takeNumber_13 : decode cX9_takeNumber 13 = .ok (.invokestatic 90, 3) := by decide +kernel
theorem dX9_takeNumber_16 : decode cX9_takeNumber 16 = .ok (.ifCond .ne 13, 3) := by decide +kernel
theorem dX9_takeNumber_19 : decode cX9_takeNumber 19 = .ok (.aload_n 0, 1) := by decide +kernel
theorem dX9_takeNumber_20 : decode cX9_takeNumber 20 = .ok (.iconst 1, 1) := by decide +kernel
theorem dX9_takeNumber_21 : decode cX9_takeNumber 21 = .ok (.aload_n 0, 1) := by decide +kernel
theorem dX9_takeNumber_22 : decode cX9_takeNumber 22 = .ok (.getfield 106, 3) := by decide +kernel
theorem dX9_takeNumber_25 : decode cX9_takeNumber 25 = .ok (.invokevirtual 136, 3) := by decide +kernel
theorem dX9_takeNumber_28 : decode cX9_takeNumber 28 = .ok (.ireturn, 1) := by decide +kernel
theorem dX9_takeNumber_29 : decode cX9_takeNumber 29 = .ok (.aload_n 0, 1) := by decide +kernel
theorem dX9_takeNumber_30 : decode cX9_takeNumber 30 = .ok (.aload_n 0, 1) := by decide +kernel
theorem dX9_takeNumber_31 : decode cX9_takeNumber 31 = .ok (.getfield 106, 3) := by decide +kernel
theorem dX9_takeNumber_34 : decode cX9_takeNumber 34 = .ok (.putfield 140, 3) := by decide +kernel
theorem dX9_takeNumber_37 : decode cX9_takeNumber 37 = .ok (.aload_n 0, 1) := by decide +kernel
theorem dX9_takeNumber_38 : decode cX9_takeNumber 38 = .ok (.iconst 0, 1) := by decide +kernel
theorem dX9_takeNumber_39 : decode cX9_takeNumber 39 = .ok (.putfield 143, 3) := by decide +kernel
theorem dX9_takeNumber_42 : decode cX9_takeNumber 42 = .ok (.aload_n 0, 1) := by decide +kernel
theorem dX9_takeNumber_43 : decode cX9_takeNumber 43 = .ok (.getfield 106, 3) := by decide +kernel
theorem dX9_takeNumber_46 : decode cX9_takeNumber 46 = .ok (.aload_n 0, 1) := by decide +kernel
theorem dX9_takeNumber_47 : decode cX9_takeNumber 47 = .ok (.getfield 100, 3) := by decide +kernel
theorem dX9_takeNumber_50 : decode cX9_takeNumber 50 = .ok (.if_icmp .ge 79, 3) := by decide +kernel
theorem dX9_takeNumber_53 : decode cX9_takeNumber 53 = .ok (.aload_n 0, 1) := by decide +kernel
theorem dX9_takeNumber_54 : decode cX9_takeNumber 54 = .ok (.getfield 36, 3) := by decide +kernel
theorem dX9_takeNumber_57 : decode cX9_takeNumber 57 = .ok (.aload_n 0, 1) := by decide +kernel
theorem dX9_takeNumber_58 : decode cX9_takeNumber 58 = .ok (.getfield 106, 3) := by decide +kernel
theorem dX9_takeNumber_61 : decode cX9_takeNumber 61 = .ok (.iaload, 1) := by decide +kernel
theorem dX9_takeNumber_62 : decode cX9_takeNumber 62 = .ok (.i2l, 1) := by decide +kernel
theorem dX9_takeNumber_63 : decode cX9_takeNumber 63 = .ok (.ldc2_w 132, 3) := by decide +kernel
theorem dX9_takeNumber_66 : decode cX9_takeNumber 66 = .ok (.ldc2_w 134, 3) := by decide +kernel
theorem dX9_takeNumber_69 : decode cX9_takeNumber 69 = .ok (.invokestatic 90, 3) := by decide +kernel
theorem dX9_takeNumber_72 : decode cX9_takeNumber 72 = .ok (.ifCond .eq 57, 3) := by decide +kernel
theorem dX9_takeNumber_75 : decode cX9_takeNumber 75 = .ok (.aload_n 0, 1) := by decide +kernel
theorem dX9_takeNumber_76 : decode cX9_takeNumber 76 = .ok (.aload_n 0, 1) := by decide +kernel
theorem dX9_takeNumber_77 : decode cX9_takeNumber 77 = .ok (.getfield 143, 3) := by decide +kernel
theorem dX9_takeNumber_80 : decode cX9_takeNumber 80 = .ok (.sipush 10000, 3) := by decide +kernel
theorem dX9_takeNumber_83 : decode cX9_takeNumber 83 = .ok (.if_icmp .le 10, 3) := by decide +kernel
theorem dX9_takeNumber_86 : decode cX9_takeNumber 86 = .ok (.aload_n 0, 1) := by decide +kernel
theorem dX9_takeNumber_87 : decode cX9_takeNumber 87 = .ok (.getfield 143, 3) := by decide +kernel
theorem dX9_takeNumber_90 : decode cX9_takeNumber 90 = .ok (.goto 23, 3) := by decide +kernel
theorem dX9_takeNumber_93 : decode cX9_takeNumber 93 = .ok (.bipush 10, 2) := by decide +kernel
theorem dX9_takeNumber_95 : decode cX9_takeNumber 95 = .ok (.aload_n 0, 1) := by decide +kernel
theorem dX9_takeNumber_96 : decode cX9_takeNumber 96 = .ok (.getfield 143, 3) := by decide +kernel
theorem dX9_takeNumber_99 : decode cX9_takeNumber 99 = .ok (.imul, 1) := by decide +kernel
theorem dX9_takeNumber_100 : decode cX9_takeNumber 100 = .ok (.aload_n 0, 1) := by decide +kernel
theorem dX9_takeNumber_101 : decode cX9_takeNumber 101 = .ok (.getfield 36, 3) := by decide +kernel
theorem dX9_takeNumber_104 : decode cX9_takeNumber 104 = .ok (.aload_n 0, 1) := by decide +kernel
theorem dX9_takeNumber_105 : decode cX9_takeNumber 105 = .ok (.getfield 106, 3) := by decide +kernel
theorem dX9_takeNumber_108 : decode cX9_takeNumber 108 = .ok (.iaload, 1) := by decide +kernel
theorem dX9_takeNumber_109 : decode cX9_takeNumber 109 = .ok (.iadd, 1) := by decide +kernel
theorem dX9_takeNumber_110 : decode cX9_takeNumber 110 = .ok (.bipush 48, 2) := by decide +kernel
theorem dX9_takeNumber_112 : decode cX9_takeNumber 112 = .ok (.isub, 1) := by decide +kernel
theorem dX9_takeNumber_113 : decode cX9_takeNumber 113 = .ok (.putfield 143, 3) := by decide +kernel
theorem dX9_takeNumber_116 : decode cX9_takeNumber 116 = .ok (.aload_n 0, 1) := by decide +kernel
theorem dX9_takeNumber_117 : decode cX9_takeNumber 117 = .ok (.dup, 1) := by decide +kernel
theorem dX9_takeNumber_118 : decode cX9_takeNumber 118 = .ok (.getfield 106, 3) := by decide +kernel
theorem dX9_takeNumber_121 : decode cX9_takeNumber 121 = .ok (.iconst 1, 1) := by decide +kernel
theorem dX9_takeNumber_122 : decode cX9_takeNumber 122 = .ok (.iadd, 1) := by decide +kernel
theorem dX9_takeNumber_123 : decode cX9_takeNumber 123 = .ok (.putfield 106, 3) := by decide +kernel
theorem dX9_takeNumber_126 : decode cX9_takeNumber 126 = .ok (.goto (-84), 3) := by decide +kernel
theorem dX9_takeNumber_129 : decode cX9_takeNumber 129 = .ok (.aload_n 0, 1) := by decide +kernel
theorem dX9_takeNumber_130 : decode cX9_takeNumber 130 = .ok (.getfield 106, 3) := by decide +kernel
theorem dX9_takeNumber_133 : decode cX9_takeNumber 133 = .ok (.aload_n 0, 1) := by decide +kernel
theorem dX9_takeNumber_134 : decode cX9_takeNumber 134 = .ok (.getfield 140, 3) := by decide +kernel
theorem dX9_takeNumber_137 : decode cX9_takeNumber 137 = .ok (.isub, 1) := by decide +kernel
theorem dX9_takeNumber_138 : decode cX9_takeNumber 138 = .ok (.iconst 3, 1) := by decide +kernel
theorem dX9_takeNumber_139 : decode cX9_takeNumber 139 = .ok (.if_icmp .gt 18, 3) := by decide +kernel
theorem dX9_takeNumber_142 : decode cX9_takeNumber 142 = .ok (.aload_n 0, 1) := by decide +kernel
theorem dX9_takeNumber_143 : decode cX9_takeNumber 143 = .ok (.getfield 143, 3) := by decide +kernel
theorem dX9_takeNumber_146 : decode cX9_takeNumber 146 = .ok (.i2l, 1) := by decide +kernel
theorem dX9_takeNumber_147 : decode cX9_takeNumber 147 = .ok (.iload_n 1, 1) := by decide +kernel
theorem dX9_takeNumber_148 : decode cX9_takeNumber 148 = .ok (.i2l, 1) := by decide +kernel
theorem dX9_takeNumber_149 : decode cX9_takeNumber 149 = .ok (.iload_n 2, 1) := by decide +kernel
theorem dX9_takeNumber_150 : decode cX9_takeNumber 150 = .ok (.i2l, 1) := by decide +kernel
theorem dX9_takeNumber_151 : decode cX9_takeNumber 151 = .ok (.invokestatic 90, 3) := by decide +kernel
theorem dX9_takeNumber_154 : decode cX9_takeNumber 154 = .ok (.ifCond .ne 15, 3) := by decide +kernel
theorem dX9_takeNumber_157 : decode cX9_takeNumber 157 = .ok (.aload_n 0, 1) := by decide +kernel
theorem dX9_takeNumber_158 : decode cX9_takeNumber 158 = .ok (.iconst 2, 1) := by decide +kernel
theorem dX9_takeNumber_159 : decode cX9_takeNumber 159 = .ok (.aload_n 0, 1) := by decide +kernel
theorem dX9_takeNumber_160 : decode cX9_takeNumber 160 = .ok (.getfield 140, 3) := by decide +kernel
theorem dX9_takeNumber_163 : decode cX9_takeNumber 163 = .ok (.invokevirtual 136, 3) := by decide +kernel
theorem dX9_takeNumber_166 : decode cX9_takeNumber 166 = .ok (.goto 4, 3) := by decide +kernel
theorem dX9_takeNumber_169 : decode cX9_takeNumber 169 = .ok (.iconst 0, 1) := by decide +kernel
theorem dX9_takeNumber_170 : decode cX9_takeNumber 170 = .ok (.ireturn, 1) := by decide +kernel
theorem dX9_takeStop_0 : decode cX9_takeStop 0 = .ok (.aload_n 0, 1) := by decide +kernel
theorem dX9_takeStop_1 : decode cX9_takeStop 1 = .ok (.invokevirtual 109, 3) := by decide +kernel
theorem dX9_takeStop_4 : decode cX9_takeStop 4 = .ok (.bipush 59, 2) := by decide +kernel
theorem dX9_takeStop_6 : decode cX9_takeStop 6 = .ok (.if_icmp .eq 13, 3) := by decide +kernel
theorem dX9_takeStop_9 : decode cX9_takeStop 9 = .ok (.aload_n 0, 1) := by decide +kernel
theorem dX9_takeStop_10 : decode cX9_takeStop 10 = .ok (.iconst 1, 1) := by decide +kernel
theorem dX9_takeStop_11 : decode cX9_takeStop 11 = .ok (.aload_n 0, 1) := by decide +kernel
theorem dX9_takeStop_12 : decode cX9_takeStop 12 = .ok (.getfield 106, 3) := by decide +kernel
theorem dX9_takeStop_15 : decode cX9_takeStop 15 = .ok (.invokevirtual 136, 3) := by decide +kernel
theorem dX9_takeStop_18 : decode cX9_takeStop 18 = .ok (.ireturn, 1) := by decide +kernel
theorem dX9_takeStop_19 : decode cX9_takeStop 19 = .ok (.aload_n 0, 1) := by decide +kernel
theorem dX9_takeStop_20 : decode cX9_takeStop 20 = .ok (.dup, 1) := by decide +kernel
theorem dX9_takeStop_21 : decode cX9_takeStop 21 = .ok (.getfield 106, 3) := by decide +kernel
theorem dX9_takeStop_24 : decode cX9_takeStop 24 = .ok (.iconst 1, 1) := by decide +kernel
theorem dX9_takeStop_25 : decode cX9_takeStop 25 = .ok (.iadd, 1) := by decide +kernel
theorem dX9_takeStop_26 : decode cX9_takeStop 26 = .ok (.putfield 106, 3) := by decide +kernel
theorem dX9_takeStop_29 : decode cX9_takeStop 29 = .ok (.iconst 0, 1) := by decide +kernel
theorem dX9_takeStop_30 : decode cX9_takeStop 30 = .ok (.ireturn, 1) := by decide +kernel
theorem dX9_into_0 : decode cX9_into 0 = .ok (.aload_n 0, 1) := by decide +kernel
theorem dX9_into_1 : decode cX9_into 1 = .ok (.iload_n 3, 1) := by decide +kernel
theorem dX9_into_2 : decode cX9_into 2 = .ok (.iload 4, 2) := by decide +kernel
theorem dX9_into_4 : decode cX9_into 4 = .ok (.invokevirtual 146, 3) := by decide +kernel
theorem dX9_into_7 : decode cX9_into 7 = .ok (.istore 5, 2) := by decide +kernel
theorem dX9_into_9 : decode cX9_into 9 = .ok (.aload_n 1, 1) := by decide +kernel
theorem dX9_into_10 : decode cX9_into 10 = .ok (.iload_n 2, 1) := by decide +kernel
theorem dX9_into_11 : decode cX9_into 11 = .ok (.aload_n 0, 1) := by decide +kernel
theorem dX9_into_12 : decode cX9_into 12 = .ok (.getfield 143, 3) := by decide +kernel
theorem dX9_into_15 : decode cX9_into 15 = .ok (.iastore, 1) := by decide +kernel
theorem dX9_into_16 : decode cX9_into 16 = .ok (.iload 5, 2) := by decide +kernel
theorem dX9_into_18 : decode cX9_into 18 = .ok (.ireturn, 1) := by decide +kernel
theorem dX9_takeNote_0 : decode cX9_takeNote 0 = .ok (.aload_n 0, 1) := by decide +kernel
theorem dX9_takeNote_1 : decode cX9_takeNote 1 = .ok (.invokevirtual 149, 3) := by decide +kernel
theorem dX9_takeNote_4 : decode cX9_takeNote 4 = .ok (.aload_n 0, 1) := by decide +kernel
theorem dX9_takeNote_5 : decode cX9_takeNote 5 = .ok (.getfield 113, 3) := by decide +kernel
theorem dX9_takeNote_8 : decode cX9_takeNote 8 = .ok (.bipush 110, 2) := by decide +kernel
theorem dX9_takeNote_10 : decode cX9_takeNote 10 = .ok (.bipush 111, 2) := by decide +kernel
theorem dX9_takeNote_12 : decode cX9_takeNote 12 = .ok (.bipush 116, 2) := by decide +kernel
theorem dX9_takeNote_14 : decode cX9_takeNote 14 = .ok (.bipush 101, 2) := by decide +kernel
theorem dX9_takeNote_16 : decode cX9_takeNote 16 = .ok (.invokestatic 152, 3) := by decide +kernel
theorem dX9_takeNote_19 : decode cX9_takeNote 19 = .ok (.lcmp, 1) := by decide +kernel
theorem dX9_takeNote_20 : decode cX9_takeNote 20 = .ok (.ifCond .ne 7, 3) := by decide +kernel
theorem dX9_takeNote_23 : decode cX9_takeNote 23 = .ok (.iconst 1, 1) := by decide +kernel
theorem dX9_takeNote_24 : decode cX9_takeNote 24 = .ok (.goto 4, 3) := by decide +kernel
theorem dX9_takeNote_27 : decode cX9_takeNote 27 = .ok (.iconst 0, 1) := by decide +kernel
theorem dX9_takeNote_28 : decode cX9_takeNote 28 = .ok (.istore_n 2, 1) := by decide +kernel
theorem dX9_takeNote_29 : decode cX9_takeNote 29 = .ok (.iload_n 2, 1) := by decide +kernel
theorem dX9_takeNote_30 : decode cX9_takeNote 30 = .ok (.ifCond .ne 42, 3) := by decide +kernel
theorem dX9_takeNote_33 : decode cX9_takeNote 33 = .ok (.aload_n 0, 1) := by decide +kernel
theorem dX9_takeNote_34 : decode cX9_takeNote 34 = .ok (.getfield 113, 3) := by decide +kernel
theorem dX9_takeNote_37 : decode cX9_takeNote 37 = .ok (.bipush 98, 2) := by decide +kernel
theorem dX9_takeNote_39 : decode cX9_takeNote 39 = .ok (.bipush 114, 2) := by decide +kernel
theorem dX9_takeNote_41 : decode cX9_takeNote 41 = .ok (.bipush 101, 2) := by decide +kernel
theorem dX9_takeNote_43 : decode cX9_takeNote 43 = .ok (.bipush 97, 2) := by decide +kernel
theorem dX9_takeNote_45 : decode cX9_takeNote 45 = .ok (.invokestatic 152, 3) := by decide +kernel
theorem dX9_takeNote_48 : decode cX9_takeNote 48 = .ok (.bipush 116, 2) := by decide +kernel
theorem dX9_takeNote_50 : decode cX9_takeNote 50 = .ok (.invokestatic 156, 3) := by decide +kernel
theorem dX9_takeNote_53 : decode cX9_takeNote 53 = .ok (.bipush 104, 2) := by decide +kernel
theorem dX9_takeNote_55 : decode cX9_takeNote 55 = .ok (.invokestatic 156, 3) := by decide +kernel
theorem dX9_takeNote_58 : decode cX9_takeNote 58 = .ok (.lcmp, 1) := by decide +kernel
theorem dX9_takeNote_59 : decode cX9_takeNote 59 = .ok (.ifCond .eq 13, 3) := by decide +kernel
theorem dX9_takeNote_62 : decode cX9_takeNote 62 = .ok (.aload_n 0, 1) := by decide +kernel
theorem dX9_takeNote_63 : decode cX9_takeNote 63 = .ok (.iconst 1, 1) := by decide +kernel
theorem dX9_takeNote_64 : decode cX9_takeNote 64 = .ok (.aload_n 0, 1) := by decide +kernel
theorem dX9_takeNote_65 : decode cX9_takeNote 65 = .ok (.getfield 106, 3) := by decide +kernel
theorem dX9_takeNote_68 : decode cX9_takeNote 68 = .ok (.invokevirtual 136, 3) := by decide +kernel
theorem dX9_takeNote_71 : decode cX9_takeNote 71 = .ok (.ireturn, 1) := by decide +kernel
theorem dX9_takeNote_72 : decode cX9_takeNote 72 = .ok (.iload_n 2, 1) := by decide +kernel
theorem dX9_takeNote_73 : decode cX9_takeNote 73 = .ok (.ifCond .eq 22, 3) := by decide +kernel
theorem dX9_takeNote_76 : decode cX9_takeNote 76 = .ok (.aload_n 0, 1) := by decide +kernel
theorem dX9_takeNote_77 : decode cX9_takeNote 77 = .ok (.getfield 160, 3) := by decide +kernel
theorem dX9_takeNote_80 : decode cX9_takeNote 80 = .ok (.bipush 40, 2) := by decide +kernel
theorem dX9_takeNote_82 : decode cX9_takeNote 82 = .ok (.if_icmp .ne 13, 3) := by decide +kernel
theorem dX9_takeNote_85 : decode cX9_takeNote 85 = .ok (.aload_n 0, 1) := by decide +kernel
theorem dX9_takeNote_86 : decode cX9_takeNote 86 = .ok (.iconst 3, 1) := by decide +kernel
theorem dX9_takeNote_87 : decode cX9_takeNote 87 = .ok (.aload_n 0, 1) := by decide +kernel
theorem dX9_takeNote_88 : decode cX9_takeNote 88 = .ok (.getfield 106, 3) := by decide +kernel
theorem dX9_takeNote_91 : decode cX9_takeNote 91 = .ok (.invokevirtual 136, 3) := by decide +kernel
theorem dX9_takeNote_94 : decode cX9_takeNote 94 = .ok (.ireturn, 1) := by decide +kernel
theorem dX9_takeNote_95 : decode cX9_takeNote 95 = .ok (.aload_n 0, 1) := by decide +kernel
theorem dX9_takeNote_96 : decode cX9_takeNote 96 = .ok (.aload_n 0, 1) := by decide +kernel
theorem dX9_takeNote_97 : decode cX9_takeNote 97 = .ok (.getfield 117, 3) := by decide +kernel
theorem dX9_takeNote_100 : decode cX9_takeNote 100 = .ok (.putfield 106, 3) := by decide +kernel
theorem dX9_takeNote_103 : decode cX9_takeNote 103 = .ok (.aload_n 0, 1) := by decide +kernel
theorem dX9_takeNote_104 : decode cX9_takeNote 104 = .ok (.iload_n 2, 1) := by decide +kernel
theorem dX9_takeNote_105 : decode cX9_takeNote 105 = .ok (.ifCond .ne 7, 3) := by decide +kernel
theorem dX9_takeNote_108 : decode cX9_takeNote 108 = .ok (.iconst 1, 1) := by decide +kernel
theorem dX9_takeNote_109 : decode cX9_takeNote 109 = .ok (.goto 4, 3) := by decide +kernel
theorem dX9_takeNote_112 : decode cX9_takeNote 112 = .ok (.iconst 0, 1) := by decide +kernel
theorem dX9_takeNote_113 : decode cX9_takeNote 113 = .ok (.putfield 163, 3) := by decide +kernel
theorem dX9_takeNote_116 : decode cX9_takeNote 116 = .ok (.iconst 0, 1) := by decide +kernel
theorem dX9_takeNote_117 : decode cX9_takeNote 117 = .ok (.istore_n 3, 1) := by decide +kernel
theorem dX9_takeNote_118 : decode cX9_takeNote 118 = .ok (.iload_n 2, 1) := by decide +kernel
theorem dX9_takeNote_119 : decode cX9_takeNote 119 = .ok (.ifCond .eq 39, 3) := by decide +kernel
theorem dX9_takeNote_122 : decode cX9_takeNote 122 = .ok (.aload_n 0, 1) := by decide +kernel
theorem dX9_takeNote_123 : decode cX9_takeNote 123 = .ok (.aload_n 0, 1) := by decide +kernel
theorem dX9_takeNote_124 : decode cX9_takeNote 124 = .ok (.getfield 42, 3) := by decide +kernel
theorem dX9_takeNote_127 : decode cX9_takeNote 127 = .ok (.aload_n 0, 1) := by decide +kernel
theorem dX9_takeNote_128 : decode cX9_takeNote 128 = .ok (.getfield 160, 3) := by decide +kernel
theorem dX9_takeNote_131 : decode cX9_takeNote 131 = .ok (.iconst 0, 1) := by decide +kernel
theorem dX9_takeNote_132 : decode cX9_takeNote 132 = .ok (.bipush 36, 2) := by decide +kernel
theorem dX9_takeNote_134 : decode cX9_takeNote 134 = .ok (.invokevirtual 167, 3) := by decide +kernel
theorem dX9_takeNote_137 : decode cX9_takeNote 137 = .ok (.istore_n 3, 1) := by decide +kernel
theorem dX9_takeNote_138 : decode cX9_takeNote 138 = .ok (.aload_n 0, 1) := by decide +kernel
theorem dX9_takeNote_139 : decode cX9_takeNote 139 = .ok (.getfield 45, 3) := by decide +kernel
theorem dX9_takeNote_142 : decode cX9_takeNote 142 = .ok (.aload_n 0, 1) := by decide +kernel
theorem dX9_takeNote_143 : decode cX9_takeNote 143 = .ok (.getfield 160, 3) := by decide +kernel
theorem dX9_takeNote_146 : decode cX9_takeNote 146 = .ok (.iload_n 1, 1) := by decide +kernel
theorem dX9_takeNote_147 : decode cX9_takeNote 147 = .ok (.bastore, 1) := by decide +kernel
theorem dX9_takeNote_148 : decode cX9_takeNote 148 = .ok (.aload_n 0, 1) := by decide +kernel
theorem dX9_takeNote_149 : decode cX9_takeNote 149 = .ok (.dup, 1) := by decide +kernel
theorem dX9_takeNote_150 : decode cX9_takeNote 150 = .ok (.getfield 160, 3) := by decide +kernel
theorem dX9_takeNote_153 : decode cX9_takeNote 153 = .ok (.iconst 1, 1) := by decide +kernel
theorem dX9_takeNote_154 : decode cX9_takeNote 154 = .ok (.iadd, 1) := by decide +kernel
theorem dX9_takeNote_155 : decode cX9_takeNote 155 = .ok (.putfield 160, 3) := by decide +kernel
theorem dX9_takeNote_158 : decode cX9_takeNote 158 = .ok (.iload_n 3, 1) := by decide +kernel
theorem dX9_takeNote_159 : decode cX9_takeNote 159 = .ok (.ifCond .le 7, 3) := by decide +kernel
theorem dX9_takeNote_162 : decode cX9_takeNote 162 = .ok (.iload_n 3, 1) := by decide +kernel
theorem dX9_takeNote_163 : decode cX9_takeNote 163 = .ok (.goto 7, 3) := by decide +kernel
theorem dX9_takeNote_166 : decode cX9_takeNote 166 = .ok (.aload_n 0, 1) := by decide +kernel
theorem dX9_takeNote_167 : decode cX9_takeNote 167 = .ok (.invokevirtual 171, 3) := by decide +kernel
theorem dX9_takeNote_170 : decode cX9_takeNote 170 = .ok (.ireturn, 1) := by decide +kernel
theorem dX9_tune_0 : decode cX9_tune 0 = .ok (.aload_n 0, 1) := by decide +kernel
theorem dX9_tune_1 : decode cX9_tune 1 = .ok (.iconst (-1), 1) := by decide +kernel
theorem dX9_tune_2 : decode cX9_tune 2 = .ok (.putfield 39, 3) := by decide +kernel
theorem dX9_tune_5 : decode cX9_tune 5 = .ok (.aload_n 0, 1) := by decide +kernel
theorem dX9_tune_6 : decode cX9_tune 6 = .ok (.iconst 0, 1) := by decide +kernel
theorem dX9_tune_7 : decode cX9_tune 7 = .ok (.putfield 106, 3) := by decide +kernel
theorem dX9_tune_10 : decode cX9_tune 10 = .ok (.aload_n 0, 1) := by decide +kernel
theorem dX9_tune_11 : decode cX9_tune 11 = .ok (.iconst 0, 1) := by decide +kernel
theorem dX9_tune_12 : decode cX9_tune 12 = .ok (.putfield 160, 3) := by decide +kernel
theorem dX9_tune_15 : decode cX9_tune 15 = .ok (.iconst 0, 1) := by decide +kernel
theorem dX9_tune_16 : decode cX9_tune 16 = .ok (.istore_n 1, 1) := by decide +kernel
theorem dX9_tune_17 : decode cX9_tune 17 = .ok (.iconst 0, 1) := by decide +kernel
theorem dX9_tune_18 : decode cX9_tune 18 = .ok (.istore_n 2, 1) := by decide +kernel
theorem dX9_tune_19 : decode cX9_tune 19 = .ok (.iload_n 1, 1) := by decide +kernel
theorem dX9_tune_20 : decode cX9_tune 20 = .ok (.ifCond .ne 24, 3) := by decide +kernel
theorem dX9_tune_23 : decode cX9_tune 23 = .ok (.aload_n 0, 1) := by decide +kernel
theorem dX9_tune_24 : decode cX9_tune 24 = .ok (.invokevirtual 109, 3) := by decide +kernel
theorem dX9_tune_27 : decode cX9_tune 27 = .ok (.ifCond .lt 17, 3) := by decide +kernel
theorem dX9_tune_30 : decode cX9_tune 30 = .ok (.aload_n 0, 1) := by decide +kernel
theorem dX9_tune_31 : decode cX9_tune 31 = .ok (.iload_n 2, 1) := by decide +kernel
theorem dX9_tune_32 : decode cX9_tune 32 = .ok (.invokevirtual 174, 3) := by decide +kernel
theorem dX9_tune_35 : decode cX9_tune 35 = .ok (.istore_n 1, 1) := by decide +kernel
theorem dX9_tune_36 : decode cX9_tune 36 = .ok (.aload_n 0, 1) := by decide +kernel
theorem dX9_tune_37 : decode cX9_tune 37 = .ok (.getfield 163, 3) := by decide +kernel
theorem dX9_tune_40 : decode cX9_tune 40 = .ok (.istore_n 2, 1) := by decide +kernel
theorem dX9_tune_41 : decode cX9_tune 41 = .ok (.goto (-22), 3) := by decide +kernel
theorem dX9_tune_44 : decode cX9_tune 44 = .ok (.aload_n 0, 1) := by decide +kernel
theorem dX9_tune_45 : decode cX9_tune 45 = .ok (.iconst 0, 1) := by decide +kernel
theorem dX9_tune_46 : decode cX9_tune 46 = .ok (.putfield 100, 3) := by decide +kernel
theorem dX9_tune_49 : decode cX9_tune 49 = .ok (.iload_n 1, 1) := by decide +kernel
theorem dX9_tune_50 : decode cX9_tune 50 = .ok (.ifCond .le 8, 3) := by decide +kernel
theorem dX9_tune_53 : decode cX9_tune 53 = .ok (.bipush (-10), 2) := by decide +kernel
theorem dX9_tune_55 : decode cX9_tune 55 = .ok (.iload_n 1, 1) := by decide +kernel
theorem dX9_tune_56 : decode cX9_tune 56 = .ok (.isub, 1) := by decide +kernel
theorem dX9_tune_57 : decode cX9_tune 57 = .ok (.ireturn, 1) := by decide +kernel
theorem dX9_tune_58 : decode cX9_tune 58 = .ok (.aload_n 0, 1) := by decide +kernel
theorem dX9_tune_59 : decode cX9_tune 59 = .ok (.aload_n 0, 1) := by decide +kernel
theorem dX9_tune_60 : decode cX9_tune 60 = .ok (.getfield 160, 3) := by decide +kernel
theorem dX9_tune_63 : decode cX9_tune 63 = .ok (.putfield 178, 3) := by decide +kernel
theorem dX9_tune_66 : decode cX9_tune 66 = .ok (.iconst 0, 1) := by decide +kernel
theorem dX9_tune_67 : decode cX9_tune 67 = .ok (.istore_n 3, 1) := by decide +kernel
theorem dX9_tune_68 : decode cX9_tune 68 = .ok (.iload_n 3, 1) := by decide +kernel
theorem dX9_tune_69 : decode cX9_tune 69 = .ok (.bipush 40, 2) := by decide +kernel
theorem dX9_tune_71 : decode cX9_tune 71 = .ok (.if_icmp .ge 36, 3) := by decide +kernel
theorem dX9_tune_74 : decode cX9_tune 74 = .ok (.aload_n 0, 1) := by decide +kernel
theorem dX9_tune_75 : decode cX9_tune 75 = .ok (.getfield 7, 3) := by decide +kernel
theorem dX9_tune_78 : decode cX9_tune 78 = .ok (.iload_n 3, 1) := by decide +kernel
theorem dX9_tune_79 : decode cX9_tune 79 = .ok (.bipush 100, 2) := by decide +kernel
theorem dX9_tune_81 : decode cX9_tune 81 = .ok (.aload_n 0, 1) := by decide +kernel
theorem dX9_tune_82 : decode cX9_tune 82 = .ok (.getfield 42, 3) := by decide +kernel
theorem dX9_tune_85 : decode cX9_tune 85 = .ok (.iload_n 3, 1) := by decide +kernel
theorem dX9_tune_86 : decode cX9_tune 86 = .ok (.iaload, 1) := by decide +kernel
theorem dX9_tune_87 : decode cX9_tune 87 = .ok (.imul, 1) := by decide +kernel
theorem dX9_tune_88 : decode cX9_tune 88 = .ok (.iastore, 1) := by decide +kernel
theorem dX9_tune_89 : decode cX9_tune 89 = .ok (.aload_n 0, 1) := by decide +kernel
theorem dX9_tune_90 : decode cX9_tune 90 = .ok (.getfield 13, 3) := by decide +kernel
theorem dX9_tune_93 : decode cX9_tune 93 = .ok (.iload_n 3, 1) := by decide +kernel
theorem dX9_tune_94 : decode cX9_tune 94 = .ok (.aload_n 0, 1) := by decide +kernel
theorem dX9_tune_95 : decode cX9_tune 95 = .ok (.getfield 45, 3) := by decide +kernel
theorem dX9_tune_98 : decode cX9_tune 98 = .ok (.iload_n 3, 1) := by decide +kernel
theorem dX9_tune_99 : decode cX9_tune 99 = .ok (.baload, 1) := by decide +kernel
theorem dX9_tune_100 : decode cX9_tune 100 = .ok (.bastore, 1) := by decide +kernel
theorem dX9_tune_101 : decode cX9_tune 101 = .ok (.iinc 3 1, 3) := by decide +kernel
theorem dX9_tune_104 : decode cX9_tune 104 = .ok (.goto (-36), 3) := by decide +kernel
theorem dX9_tune_107 : decode cX9_tune 107 = .ok (.aload_n 0, 1) := by decide +kernel
theorem dX9_tune_108 : decode cX9_tune 108 = .ok (.invokevirtual 181, 3) := by decide +kernel
theorem dX9_tune_111 : decode cX9_tune 111 = .ok (.aload_n 0, 1) := by decide +kernel
theorem dX9_tune_112 : decode cX9_tune 112 = .ok (.getfield 178, 3) := by decide +kernel
theorem dX9_tune_115 : decode cX9_tune 115 = .ok (.ireturn, 1) := by decide +kernel
theorem dX9_endSong_0 : decode cX9_endSong 0 = .ok (.aload_n 0, 1) := by decide +kernel
theorem dX9_endSong_1 : decode cX9_endSong 1 = .ok (.iconst (-1), 1) := by decide +kernel
theorem dX9_endSong_2 : decode cX9_endSong 2 = .ok (.putfield 29, 3) := by decide +kernel
theorem dX9_endSong_5 : decode cX9_endSong 5 = .ok (.aload_n 0, 1) := by decide +kernel
theorem dX9_endSong_6 : decode cX9_endSong 6 = .ok (.iconst 0, 1) := by decide +kernel
theorem dX9_endSong_7 : decode cX9_endSong 7 = .ok (.putfield 184, 3) := by decide +kernel
theorem dX9_endSong_10 : decode cX9_endSong 10 = .ok (.aload_n 0, 1) := by decide +kernel
theorem dX9_endSong_11 : decode cX9_endSong 11 = .ok (.getfield 84, 3) := by decide +kernel
theorem dX9_endSong_14 : decode cX9_endSong 14 = .ok (.iconst 0, 1) := by decide +kernel
theorem dX9_endSong_15 : decode cX9_endSong 15 = .ok (.iconst 0, 1) := by decide +kernel
theorem dX9_endSong_16 : decode cX9_endSong 16 = .ok (.bastore, 1) := by decide +kernel
theorem dX9_endSong_17 : decode cX9_endSong 17 = .ok (.aload_n 0, 1) := by decide +kernel
theorem dX9_endSong_18 : decode cX9_endSong 18 = .ok (.getfield 84, 3) := by decide +kernel
theorem dX9_endSong_21 : decode cX9_endSong 21 = .ok (.iconst 1, 1) := by decide +kernel
theorem dX9_endSong_22 : decode cX9_endSong 22 = .ok (.iconst 0, 1) := by decide +kernel
theorem dX9_endSong_23 : decode cX9_endSong 23 = .ok (.bastore, 1) := by decide +kernel
theorem dX9_endSong_24 : decode cX9_endSong 24 = .ok (.return_, 1) := by decide +kernel
theorem dX9_kindOf_0 : decode cX9_kindOf 0 = .ok (.aload_n 0, 1) := by decide +kernel
theorem dX9_kindOf_1 : decode cX9_kindOf 1 = .ok (.getfield 113, 3) := by decide +kernel
theorem dX9_kindOf_4 : decode cX9_kindOf 4 = .ok (.bipush 112, 2) := by decide +kernel
theorem dX9_kindOf_6 : decode cX9_kindOf 6 = .ok (.bipush 108, 2) := by decide +kernel
theorem dX9_kindOf_8 : decode cX9_kindOf 8 = .ok (.bipush 97, 2) := by decide +kernel
theorem dX9_kindOf_10 : decode cX9_kindOf 10 = .ok (.bipush 105, 2) := by decide +kernel
theorem dX9_kindOf_12 : decode cX9_kindOf 12 = .ok (.invokestatic 152, 3) := by decide +kernel
theorem dX9_kindOf_15 : decode cX9_kindOf 15 = .ok (.bipush 110, 2) := by decide +kernel
theorem dX9_kindOf_17 : decode cX9_kindOf 17 = .ok (.invokestatic 156, 3) := by decide +kernel
theorem dX9_kindOf_20 : decode cX9_kindOf 20 = .ok (.lcmp, 1) := by decide +kernel
theorem dX9_kindOf_21 : decode cX9_kindOf 21 = .ok (.ifCond .ne 7, 3) := by decide +kernel
theorem dX9_kindOf_24 : decode cX9_kindOf 24 = .ok (.iconst 0, 1) := by decide +kernel
theorem dX9_kindOf_25 : decode cX9_kindOf 25 = .ok (.goto 103, 3) := by decide +kernel
theorem dX9_kindOf_28 : decode cX9_kindOf 28 = .ok (.aload_n 0, 1) := by decide +kernel
theorem dX9_kindOf_29 : decode cX9_kindOf 29 = .ok (.getfield 113, 3) := by decide +kernel
theorem dX9_kindOf_32 : decode cX9_kindOf 32 = .ok (.bipush 116, 2) := by decide +kernel
theorem dX9_kindOf_34 : decode cX9_kindOf 34 = .ok (.bipush 114, 2) := by decide +kernel
theorem dX9_kindOf_36 : decode cX9_kindOf 36 = .ok (.bipush 117, 2) := by decide +kernel
theorem dX9_kindOf_38 : decode cX9_kindOf 38 = .ok (.bipush 101, 2) := by decide +kernel
theorem dX9_kindOf_40 : decode cX9_kindOf 40 = .ok (.invokestatic 152, 3) := by decide +kernel
theorem dX9_kindOf_43 : decode cX9_kindOf 43 = .ok (.lcmp, 1) := by decide +kernel
theorem dX9_kindOf_44 : decode cX9_kindOf 44 = .ok (.ifCond .ne 7, 3) := by decide +kernel
theorem dX9_kindOf_47 : decode cX9_kindOf 47 = .ok (.iconst 1, 1) := by decide +kernel
theorem dX9_kindOf_48 : decode cX9_kindOf 48 = .ok (.goto 80, 3) := by decide +kernel
theorem dX9_kindOf_51 : decode cX9_kindOf 51 = .ok (.aload_n 0, 1) := by decide +kernel
theorem dX9_kindOf_52 : decode cX9_kindOf 52 = .ok (.getfield 113, 3) := by decide +kernel
theorem dX9_kindOf_55 : decode cX9_kindOf 55 = .ok (.bipush 100, 2) := by decide +kernel
theorem dX9_kindOf_57 : decode cX9_kindOf 57 = .ok (.bipush 114, 2) := by decide +kernel
theorem dX9_kindOf_59 : decode cX9_kindOf 59 = .ok (.bipush 105, 2) := by decide +kernel
theorem dX9_kindOf_61 : decode cX9_kindOf 61 = .ok (.bipush 102, 2) := by decide +kernel
theorem dX9_kindOf_63 : decode cX9_kindOf 63 = .ok (.invokestatic 152, 3) := by decide +kernel
theorem dX9_kindOf_66 : decode cX9_kindOf 66 = .ok (.bipush 116, 2) := by decide +kernel
theorem dX9_kindOf_68 : decode cX9_kindOf 68 = .ok (.invokestatic 156, 3) := by decide +kernel
theorem dX9_kindOf_71 : decode cX9_kindOf 71 = .ok (.bipush 105, 2) := by decide +kernel
theorem dX9_kindOf_73 : decode cX9_kindOf 73 = .ok (.invokestatic 156, 3) := by decide +kernel
theorem dX9_kindOf_76 : decode cX9_kindOf 76 = .ok (.bipush 110, 2) := by decide +kernel
theorem dX9_kindOf_78 : decode cX9_kindOf 78 = .ok (.invokestatic 156, 3) := by decide +kernel
theorem dX9_kindOf_81 : decode cX9_kindOf 81 = .ok (.bipush 103, 2) := by decide +kernel
theorem dX9_kindOf_83 : decode cX9_kindOf 83 = .ok (.invokestatic 156, 3) := by decide +kernel
theorem dX9_kindOf_86 : decode cX9_kindOf 86 = .ok (.lcmp, 1) := by decide +kernel
theorem dX9_kindOf_87 : decode cX9_kindOf 87 = .ok (.ifCond .ne 7, 3) := by decide +kernel
theorem dX9_kindOf_90 : decode cX9_kindOf 90 = .ok (.iconst 2, 1) := by decide +kernel
theorem dX9_kindOf_91 : decode cX9_kindOf 91 = .ok (.goto 37, 3) := by decide +kernel
theorem dX9_kindOf_94 : decode cX9_kindOf 94 = .ok (.aload_n 0, 1) := by decide +kernel
theorem dX9_kindOf_95 : decode cX9_kindOf 95 = .ok (.getfield 113, 3) := by decide +kernel
theorem dX9_kindOf_98 : decode cX9_kindOf 98 = .ok (.bipush 110, 2) := by decide +kernel
theorem dX9_kindOf_100 : decode cX9_kindOf 100 = .ok (.bipush 97, 2) := by decide +kernel
theorem dX9_kindOf_102 : decode cX9_kindOf 102 = .ok (.bipush 114, 2) := by decide +kernel
theorem dX9_kindOf_104 : decode cX9_kindOf 104 = .ok (.bipush 114, 2) := by decide +kernel
theorem dX9_kindOf_106 : decode cX9_kindOf 106 = .ok (.invokestatic 152, 3) := by decide +kernel
theorem dX9_kindOf_109 : decode cX9_kindOf 109 = .ok (.bipush 111, 2) := by decide +kernel
theorem dX9_kindOf_111 : decode cX9_kindOf 111 = .ok (.invokestatic 156, 3) := by decide +kernel
theorem dX9_kindOf_114 : decode cX9_kindOf 114 = .ok (.bipush 119, 2) := by decide +kernel
theorem dX9_kindOf_116 : decode cX9_kindOf 116 = .ok (.invokestatic 156, 3) := by decide +kernel
theorem dX9_kindOf_119 : decode cX9_kindOf 119 = .ok (.lcmp, 1) := by decide +kernel
theorem dX9_kindOf_120 : decode cX9_kindOf 120 = .ok (.ifCond .ne 7, 3) := by decide +kernel
theorem dX9_kindOf_123 : decode cX9_kindOf 123 = .ok (.iconst 3, 1) := by decide +kernel
theorem dX9_kindOf_124 : decode cX9_kindOf 124 = .ok (.goto 4, 3) := by decide +kernel
theorem dX9_kindOf_127 : decode cX9_kindOf 127 = .ok (.iconst (-1), 1) := by decide +kernel
theorem dX9_kindOf_128 : decode cX9_kindOf 128 = .ok (.istore_n 1, 1) := by decide +kernel
theorem dX9_kindOf_129 : decode cX9_kindOf 129 = .ok (.aload_n 0, 1) := by decide +kernel
theorem dX9_kindOf_130 : decode cX9_kindOf 130 = .ok (.getfield 113, 3) := by decide +kernel
theorem dX9_kindOf_133 : decode cX9_kindOf 133 = .ok (.bipush 103, 2) := by decide +kernel
theorem dX9_kindOf_135 : decode cX9_kindOf 135 = .ok (.bipush 114, 2) := by decide +kernel
theorem dX9_kindOf_137 : decode cX9_kindOf 137 = .ok (.bipush 111, 2) := by decide +kernel
theorem dX9_kindOf_139 : decode cX9_kindOf 139 = .ok (.bipush 119, 2) := by decide +kernel
theorem dX9_kindOf_141 : decode cX9_kindOf 141 = .ok (.invokestatic 152, 3) := by decide +kernel
theorem dX9_kindOf_144 : decode cX9_kindOf 144 = .ok (.bipush 108, 2) := by decide +kernel
theorem dX9_kindOf_146 : decode cX9_kindOf 146 = .ok (.invokestatic 156, 3) := by decide +kernel
theorem dX9_kindOf_149 : decode cX9_kindOf 149 = .ok (.bipush 105, 2) := by decide +kernel
theorem dX9_kindOf_151 : decode cX9_kindOf 151 = .ok (.invokestatic 156, 3) := by decide +kernel
theorem dX9_kindOf_154 : decode cX9_kindOf 154 = .ok (.bipush 110, 2) := by decide +kernel
theorem dX9_kindOf_156 : decode cX9_kindOf 156 = .ok (.invokestatic 156, 3) := by decide +kernel
theorem dX9_kindOf_159 : decode cX9_kindOf 159 = .ok (.bipush 103, 2) := by decide +kernel
theorem dX9_kindOf_161 : decode cX9_kindOf 161 = .ok (.invokestatic 156, 3) := by decide +kernel
theorem dX9_kindOf_164 : decode cX9_kindOf 164 = .ok (.lcmp, 1) := by decide +kernel
theorem dX9_kindOf_165 : decode cX9_kindOf 165 = .ok (.ifCond .ne 7, 3) := by decide +kernel
theorem dX9_kindOf_168 : decode cX9_kindOf 168 = .ok (.iconst 4, 1) := by decide +kernel
theorem dX9_kindOf_169 : decode cX9_kindOf 169 = .ok (.goto 90, 3) := by decide +kernel
theorem dX9_kindOf_172 : decode cX9_kindOf 172 = .ok (.aload_n 0, 1) := by decide +kernel
theorem dX9_kindOf_173 : decode cX9_kindOf 173 = .ok (.getfield 113, 3) := by decide +kernel
theorem dX9_kindOf_176 : decode cX9_kindOf 176 = .ok (.bipush 115, 2) := by decide +kernel
theorem dX9_kindOf_178 : decode cX9_kindOf 178 = .ok (.bipush 104, 2) := by decide +kernel
theorem dX9_kindOf_180 : decode cX9_kindOf 180 = .ok (.bipush 111, 2) := by decide +kernel
theorem dX9_kindOf_182 : decode cX9_kindOf 182 = .ok (.bipush 114, 2) := by decide +kernel
theorem dX9_kindOf_184 : decode cX9_kindOf 184 = .ok (.invokestatic 152, 3) := by decide +kernel
theorem dX9_kindOf_187 : decode cX9_kindOf 187 = .ok (.bipush 116, 2) := by decide +kernel
theorem dX9_kindOf_189 : decode cX9_kindOf 189 = .ok (.invokestatic 156, 3) := by decide +kernel
theorem dX9_kindOf_192 : decode cX9_kindOf 192 = .ok (.lcmp, 1) := by decide +kernel
theorem dX9_kindOf_193 : decode cX9_kindOf 193 = .ok (.ifCond .ne 7, 3) := by decide +kernel
theorem dX9_kindOf_196 : decode cX9_kindOf 196 = .ok (.iconst 5, 1) := by decide +kernel
theorem dX9_kindOf_197 : decode cX9_kindOf 197 = .ok (.goto 62, 3) := by decide +kernel
theorem dX9_kindOf_200 : decode cX9_kindOf 200 = .ok (.aload_n 0, 1) := by decide +kernel
theorem dX9_kindOf_201 : decode cX9_kindOf 201 = .ok (.getfield 113, 3) := by decide +kernel
theorem dX9_kindOf_204 : decode cX9_kindOf 204 = .ok (.bipush 100, 2) := by decide +kernel
theorem dX9_kindOf_206 : decode cX9_kindOf 206 = .ok (.bipush 101, 2) := by decide +kernel
theorem dX9_kindOf_208 : decode cX9_kindOf 208 = .ok (.bipush 97, 2) := by decide +kernel
theorem dX9_kindOf_210 : decode cX9_kindOf 210 = .ok (.bipush 102, 2) := by decide +kernel
theorem dX9_kindOf_212 : decode cX9_kindOf 212 = .ok (.invokestatic 152, 3) := by decide +kernel
theorem dX9_kindOf_215 : decode cX9_kindOf 215 = .ok (.lcmp, 1) := by decide +kernel
theorem dX9_kindOf_216 : decode cX9_kindOf 216 = .ok (.ifCond .ne 8, 3) := by decide +kernel
theorem dX9_kindOf_219 : decode cX9_kindOf 219 = .ok (.bipush 6, 2) := by decide +kernel
theorem dX9_kindOf_221 : decode cX9_kindOf 221 = .ok (.goto 38, 3) := by decide +kernel
theorem dX9_kindOf_224 : decode cX9_kindOf 224 = .ok (.aload_n 0, 1) := by decide +kernel
theorem dX9_kindOf_225 : decode cX9_kindOf 225 = .ok (.getfield 113, 3) := by decide +kernel
theorem dX9_kindOf_228 : decode cX9_kindOf 228 = .ok (.bipush 104, 2) := by decide +kernel
theorem dX9_kindOf_230 : decode cX9_kindOf 230 = .ok (.bipush 117, 2) := by decide +kernel
theorem dX9_kindOf_232 : decode cX9_kindOf 232 = .ok (.bipush 115, 2) := by decide +kernel
theorem dX9_kindOf_234 : decode cX9_kindOf 234 = .ok (.bipush 104, 2) := by decide +kernel
theorem dX9_kindOf_236 : decode cX9_kindOf 236 = .ok (.invokestatic 152, 3) := by decide +kernel
theorem dX9_kindOf_239 : decode cX9_kindOf 239 = .ok (.bipush 101, 2) := by decide +kernel
theorem dX9_kindOf_241 : decode cX9_kindOf 241 = .ok (.invokestatic 156, 3) := by decide +kernel
theorem dX9_kindOf_244 : decode cX9_kindOf 244 = .ok (.bipush 100, 2) := by decide +kernel
theorem dX9_kindOf_246 : decode cX9_kindOf 246 = .ok (.invokestatic 156, 3) := by decide +kernel
theorem dX9_kindOf_249 : decode cX9_kindOf 249 = .ok (.lcmp, 1) := by decide +kernel
theorem dX9_kindOf_250 : decode cX9_kindOf 250 = .ok (.ifCond .ne 8, 3) := by decide +kernel
theorem dX9_kindOf_253 : decode cX9_kindOf 253 = .ok (.bipush 7, 2) := by decide +kernel
theorem dX9_kindOf_255 : decode cX9_kindOf 255 = .ok (.goto 4, 3) := by decide +kernel
theorem dX9_kindOf_258 : decode cX9_kindOf 258 = .ok (.iconst (-1), 1) := by decide +kernel
theorem dX9_kindOf_259 : decode cX9_kindOf 259 = .ok (.istore_n 2, 1) := by decide +kernel
theorem dX9_kindOf_260 : decode cX9_kindOf 260 = .ok (.iload_n 1, 1) := by decide +kernel
theorem dX9_kindOf_261 : decode cX9_kindOf 261 = .ok (.ifCond .lt 7, 3) := by decide +kernel
theorem dX9_kindOf_264 : decode cX9_kindOf 264 = .ok (.iload_n 1, 1) := by decide +kernel
theorem dX9_kindOf_265 : decode cX9_kindOf 265 = .ok (.goto 4, 3) := by decide +kernel
theorem dX9_kindOf_268 : decode cX9_kindOf 268 = .ok (.iload_n 2, 1) := by decide +kernel
theorem dX9_kindOf_269 : decode cX9_kindOf 269 = .ok (.ireturn, 1) := by decide +kernel
theorem dX9_takeSinger_0 : decode cX9_takeSinger 0 = .ok (.aload_n 0, 1) := by decide +kernel
theorem dX9_takeSinger_1 : decode cX9_takeSinger 1 = .ok (.invokevirtual 149, 3) := by decide +kernel
theorem dX9_takeSinger_4 : decode cX9_takeSinger 4 = .ok (.aload_n 0, 1) := by decide +kernel
theorem dX9_takeSinger_5 : decode cX9_takeSinger 5 = .ok (.getfield 113, 3) := by decide +kernel
theorem dX9_takeSinger_8 : decode cX9_takeSinger 8 = .ok (.bipush 115, 2) := by decide +kernel
theorem dX9_takeSinger_10 : decode cX9_takeSinger 10 = .ok (.bipush 105, 2) := by decide +kernel
theorem dX9_takeSinger_12 : decode cX9_takeSinger 12 = .ok (.bipush 110, 2) := by decide +kernel
theorem dX9_takeSinger_14 : decode cX9_takeSinger 14 = .ok (.bipush 103, 2) := by decide +kernel
theorem dX9_takeSinger_16 : decode cX9_takeSinger 16 = .ok (.invokestatic 152, 3) := by decide +kernel
theorem dX9_takeSinger_19 : decode cX9_takeSinger 19 = .ok (.bipush 101, 2) := by decide +kernel
theorem dX9_takeSinger_21 : decode cX9_takeSinger 21 = .ok (.invokestatic 156, 3) := by decide +kernel
theorem dX9_takeSinger_24 : decode cX9_takeSinger 24 = .ok (.bipush 114, 2) := by decide +kernel
theorem dX9_takeSinger_26 : decode cX9_takeSinger 26 = .ok (.invokestatic 156, 3) := by decide +kernel
theorem dX9_takeSinger_29 : decode cX9_takeSinger 29 = .ok (.lcmp, 1) := by decide +kernel
theorem dX9_takeSinger_30 : decode cX9_takeSinger 30 = .ok (.ifCond .eq 13, 3) := by decide +kernel
theorem dX9_takeSinger_33 : decode cX9_takeSinger 33 = .ok (.aload_n 0, 1) := by decide +kernel
theorem dX9_takeSinger_34 : decode cX9_takeSinger 34 = .ok (.iconst 1, 1) := by decide +kernel
theorem dX9_takeSinger_35 : decode cX9_takeSinger 35 = .ok (.aload_n 0, 1) := by decide +kernel
theorem dX9_takeSinger_36 : decode cX9_takeSinger 36 = .ok (.getfield 106, 3) := by decide +kernel
theorem dX9_takeSinger_39 : decode cX9_takeSinger 39 = .ok (.invokevirtual 136, 3) := by decide +kernel
theorem dX9_takeSinger_42 : decode cX9_takeSinger 42 = .ok (.ireturn, 1) := by decide +kernel
theorem dX9_takeSinger_43 : decode cX9_takeSinger 43 = .ok (.aload_n 0, 1) := by decide +kernel
theorem dX9_takeSinger_44 : decode cX9_takeSinger 44 = .ok (.getfield 160, 3) := by decide +kernel
theorem dX9_takeSinger_47 : decode cX9_takeSinger 47 = .ok (.bipush 12, 2) := by decide +kernel
theorem dX9_takeSinger_49 : decode cX9_takeSinger 49 = .ok (.if_icmp .ne 13, 3) := by decide +kernel
theorem dX9_takeSinger_52 : decode cX9_takeSinger 52 = .ok (.aload_n 0, 1) := by decide +kernel
theorem dX9_takeSinger_53 : decode cX9_takeSinger 53 = .ok (.iconst 3, 1) := by decide +kernel
theorem dX9_takeSinger_54 : decode cX9_takeSinger 54 = .ok (.aload_n 0, 1) := by decide +kernel
theorem dX9_takeSinger_55 : decode cX9_takeSinger 55 = .ok (.getfield 106, 3) := by decide +kernel
theorem dX9_takeSinger_58 : decode cX9_takeSinger 58 = .ok (.invokevirtual 136, 3) := by decide +kernel
theorem dX9_takeSinger_61 : decode cX9_takeSinger 61 = .ok (.ireturn, 1) := by decide +kernel
theorem dX9_takeSinger_62 : decode cX9_takeSinger 62 = .ok (.aload_n 0, 1) := by decide +kernel
theorem dX9_takeSinger_63 : decode cX9_takeSinger 63 = .ok (.aload_n 0, 1) := by decide +kernel
theorem dX9_takeSinger_64 : decode cX9_takeSinger 64 = .ok (.getfield 117, 3) := by decide +kernel
theorem dX9_takeSinger_67 : decode cX9_takeSinger 67 = .ok (.putfield 106, 3) := by decide +kernel
theorem dX9_takeSinger_70 : decode cX9_takeSinger 70 = .ok (.aload_n 0, 1) := by decide +kernel
theorem dX9_takeSinger_71 : decode cX9_takeSinger 71 = .ok (.invokevirtual 149, 3) := by decide +kernel
theorem dX9_takeSinger_74 : decode cX9_takeSinger 74 = .ok (.bipush 8, 2) := by decide +kernel
theorem dX9_takeSinger_76 : decode cX9_takeSinger 76 = .ok (.aload_n 0, 1) := by decide +kernel
theorem dX9_takeSinger_77 : decode cX9_takeSinger 77 = .ok (.getfield 160, 3) := by decide +kernel
theorem dX9_takeSinger_80 : decode cX9_takeSinger 80 = .ok (.imul, 1) := by decide +kernel
theorem dX9_takeSinger_81 : decode cX9_takeSinger 81 = .ok (.istore_n 1, 1) := by decide +kernel
theorem dX9_takeSinger_82 : decode cX9_takeSinger 82 = .ok (.aload_n 0, 1) := by decide +kernel
theorem dX9_takeSinger_83 : decode cX9_takeSinger 83 = .ok (.getfield 48, 3) := by decide +kernel
theorem dX9_takeSinger_86 : decode cX9_takeSinger 86 = .ok (.iload_n 1, 1) := by decide +kernel
theorem dX9_takeSinger_87 : decode cX9_takeSinger 87 = .ok (.aload_n 0, 1) := by decide +kernel
theorem dX9_takeSinger_88 : decode cX9_takeSinger 88 = .ok (.invokevirtual 187, 3) := by decide +kernel
theorem dX9_takeSinger_91 : decode cX9_takeSinger 91 = .ok (.iastore, 1) := by decide +kernel
theorem dX9_takeSinger_92 : decode cX9_takeSinger 92 = .ok (.aload_n 0, 1) := by decide +kernel
theorem dX9_takeSinger_93 : decode cX9_takeSinger 93 = .ok (.getfield 48, 3) := by decide +kernel
theorem dX9_takeSinger_96 : decode cX9_takeSinger 96 = .ok (.iload_n 1, 1) := by decide +kernel
theorem dX9_takeSinger_97 : decode cX9_takeSinger 97 = .ok (.iaload, 1) := by decide +kernel
theorem dX9_takeSinger_98 : decode cX9_takeSinger 98 = .ok (.ifCond .ge 13, 3) := by decide +kernel
theorem dX9_takeSinger_101 : decode cX9_takeSinger 101 = .ok (.aload_n 0, 1) := by decide +kernel
theorem dX9_takeSinger_102 : decode cX9_takeSinger 102 = .ok (.iconst 1, 1) := by decide +kernel
theorem dX9_takeSinger_103 : decode cX9_takeSinger 103 = .ok (.aload_n 0, 1) := by decide +kernel
theorem dX9_takeSinger_104 : decode cX9_takeSinger 104 = .ok (.getfield 106, 3) := by decide +kernel
theorem dX9_takeSinger_107 : decode cX9_takeSinger 107 = .ok (.invokevirtual 136, 3) := by decide +kernel
theorem dX9_takeSinger_110 : decode cX9_takeSinger 110 = .ok (.ireturn, 1) := by decide +kernel
theorem dX9_takeSinger_111 : decode cX9_takeSinger 111 = .ok (.aload_n 0, 1) := by decide +kernel
theorem dX9_takeSinger_112 : decode cX9_takeSinger 112 = .ok (.aload_n 0, 1) := by decide +kernel
theorem dX9_takeSinger_113 : decode cX9_takeSinger 113 = .ok (.getfield 117, 3) := by decide +kernel
theorem dX9_takeSinger_116 : decode cX9_takeSinger 116 = .ok (.putfield 106, 3) := by decide +kernel
theorem dX9_takeSinger_119 : decode cX9_takeSinger 119 = .ok (.aload_n 0, 1) := by decide +kernel
theorem dX9_takeSinger_120 : decode cX9_takeSinger 120 = .ok (.aload_n 0, 1) := by decide +kernel
theorem dX9_takeSinger_121 : decode cX9_takeSinger 121 = .ok (.getfield 48, 3) := by decide +kernel
theorem dX9_takeSinger_124 : decode cX9_takeSinger 124 = .ok (.iload_n 1, 1) := by decide +kernel
theorem dX9_takeSinger_125 : decode cX9_takeSinger 125 = .ok (.iconst 1, 1) := by decide +kernel
theorem dX9_takeSinger_126 : decode cX9_takeSinger 126 = .ok (.iadd, 1) := by decide +kernel
theorem dX9_takeSinger_127 : decode cX9_takeSinger 127 = .ok (.iconst 0, 1) := by decide +kernel
theorem dX9_takeSinger_128 : decode cX9_takeSinger 128 = .ok (.bipush 99, 2) := by decide +kernel
theorem dX9_takeSinger_130 : decode cX9_takeSinger 130 = .ok (.invokevirtual 167, 3) := by decide +kernel
theorem dX9_takeSinger_133 : decode cX9_takeSinger 133 = .ok (.istore_n 2, 1) := by decide +kernel
theorem dX9_takeSinger_134 : decode cX9_takeSinger 134 = .ok (.iload_n 2, 1) := by decide +kernel
theorem dX9_takeSinger_135 : decode cX9_takeSinger 135 = .ok (.ifCond .le 7, 3) := by decide +kernel
theorem dX9_takeSinger_138 : decode cX9_takeSinger 138 = .ok (.iload_n 2, 1) := by decide +kernel
theorem dX9_takeSinger_139 : decode cX9_takeSinger 139 = .ok (.goto 17, 3) := by decide +kernel
theorem dX9_takeSinger_142 : decode cX9_takeSinger 142 = .ok (.aload_n 0, 1) := by decide +kernel
theorem dX9_takeSinger_143 : decode cX9_takeSinger 143 = .ok (.aload_n 0, 1) := by decide +kernel
theorem dX9_takeSinger_144 : decode cX9_takeSinger 144 = .ok (.getfield 48, 3) := by decide +kernel
theorem dX9_takeSinger_147 : decode cX9_takeSinger 147 = .ok (.iload_n 1, 1) := by decide +kernel
theorem dX9_takeSinger_148 : decode cX9_takeSinger 148 = .ok (.iconst 2, 1) := by decide +kernel
theorem dX9_takeSinger_149 : decode cX9_takeSinger 149 = .ok (.iadd, 1) := by decide +kernel
theorem dX9_takeSinger_150 : decode cX9_takeSinger 150 = .ok (.iconst 0, 1) := by decide +kernel
theorem dX9_takeSinger_151 : decode cX9_takeSinger 151 = .ok (.bipush 99, 2) := by decide +kernel
theorem dX9_takeSinger_153 : decode cX9_takeSinger 153 = .ok (.invokevirtual 167, 3) := by decide +kernel
theorem dX9_takeSinger_156 : decode cX9_takeSinger 156 = .ok (.istore_n 2, 1) := by decide +kernel
theorem dX9_takeSinger_157 : decode cX9_takeSinger 157 = .ok (.iload_n 2, 1) := by decide +kernel
theorem dX9_takeSinger_158 : decode cX9_takeSinger 158 = .ok (.ifCond .le 7, 3) := by decide +kernel
theorem dX9_takeSinger_161 : decode cX9_takeSinger 161 = .ok (.iload_n 2, 1) := by decide +kernel
theorem dX9_takeSinger_162 : decode cX9_takeSinger 162 = .ok (.goto 17, 3) := by decide +kernel
theorem dX9_takeSinger_165 : decode cX9_takeSinger 165 = .ok (.aload_n 0, 1) := by decide +kernel
theorem dX9_takeSinger_166 : decode cX9_takeSinger 166 = .ok (.aload_n 0, 1) := by decide +kernel
theorem dX9_takeSinger_167 : decode cX9_takeSinger 167 = .ok (.getfield 48, 3) := by decide +kernel
theorem dX9_takeSinger_170 : decode cX9_takeSinger 170 = .ok (.iload_n 1, 1) := by decide +kernel
theorem dX9_takeSinger_171 : decode cX9_takeSinger 171 = .ok (.iconst 3, 1) := by decide +kernel
theorem dX9_takeSinger_172 : decode cX9_takeSinger 172 = .ok (.iadd, 1) := by decide +kernel
theorem dX9_takeSinger_173 : decode cX9_takeSinger 173 = .ok (.iconst 0, 1) := by decide +kernel
theorem dX9_takeSinger_174 : decode cX9_takeSinger 174 = .ok (.bipush 99, 2) := by decide +kernel
theorem dX9_takeSinger_176 : decode cX9_takeSinger 176 = .ok (.invokevirtual 167, 3) := by decide +kernel
theorem dX9_takeSinger_179 : decode cX9_takeSinger 179 = .ok (.istore_n 2, 1) := by decide +kernel
theorem dX9_takeSinger_180 : decode cX9_takeSinger 180 = .ok (.iload_n 2, 1) := by decide +kernel
theorem dX9_takeSinger_181 : decode cX9_takeSinger 181 = .ok (.ifCond .le 7, 3) := by decide +kernel
theorem dX9_takeSinger_184 : decode cX9_takeSinger 184 = .ok (.iload_n 2, 1) := by decide +kernel
theorem dX9_takeSinger_185 : decode cX9_takeSinger 185 = .ok (.goto 17, 3) := by decide +kernel
theorem dX9_takeSinger_188 : decode cX9_takeSinger 188 = .ok (.aload_n 0, 1) := by decide +kernel
theorem dX9_takeSinger_189 : decode cX9_takeSinger 189 = .ok (.aload_n 0, 1) := by decide +kernel
theorem dX9_takeSinger_190 : decode cX9_takeSinger 190 = .ok (.getfield 48, 3) := by decide +kernel
theorem dX9_takeSinger_193 : decode cX9_takeSinger 193 = .ok (.iload_n 1, 1) := by decide +kernel
theorem dX9_takeSinger_194 : decode cX9_takeSinger 194 = .ok (.iconst 4, 1) := by decide +kernel
theorem dX9_takeSinger_195 : decode cX9_takeSinger 195 = .ok (.iadd, 1) := by decide +kernel
theorem dX9_takeSinger_196 : decode cX9_takeSinger 196 = .ok (.iconst 1, 1) := by decide +kernel
theorem dX9_takeSinger_197 : decode cX9_takeSinger 197 = .ok (.bipush 40, 2) := by decide +kernel
theorem dX9_takeSinger_199 : decode cX9_takeSinger 199 = .ok (.invokevirtual 167, 3) := by decide +kernel
theorem dX9_takeSinger_202 : decode cX9_takeSinger 202 = .ok (.istore_n 2, 1) := by decide +kernel
theorem dX9_takeSinger_203 : decode cX9_takeSinger 203 = .ok (.iload_n 2, 1) := by decide +kernel
theorem dX9_takeSinger_204 : decode cX9_takeSinger 204 = .ok (.ifCond .le 7, 3) := by decide +kernel
theorem dX9_takeSinger_207 : decode cX9_takeSinger 207 = .ok (.iload_n 2, 1) := by decide +kernel
theorem dX9_takeSinger_208 : decode cX9_takeSinger 208 = .ok (.goto 17, 3) := by decide +kernel
theorem dX9_takeSinger_211 : decode cX9_takeSinger 211 = .ok (.aload_n 0, 1) := by decide +kernel
theorem dX9_takeSinger_212 : decode cX9_takeSinger 212 = .ok (.aload_n 0, 1) := by decide +kernel
theorem dX9_takeSinger_213 : decode cX9_takeSinger 213 = .ok (.getfield 48, 3) := by decide +kernel
theorem dX9_takeSinger_216 : decode cX9_takeSinger 216 = .ok (.iload_n 1, 1) := by decide +kernel
theorem dX9_takeSinger_217 : decode cX9_takeSinger 217 = .ok (.iconst 5, 1) := by decide +kernel
theorem dX9_takeSinger_218 : decode cX9_takeSinger 218 = .ok (.iadd, 1) := by decide +kernel
theorem dX9_takeSinger_219 : decode cX9_takeSinger 219 = .ok (.iconst 0, 1) := by decide +kernel
theorem dX9_takeSinger_220 : decode cX9_takeSinger 220 = .ok (.bipush 36, 2) := by decide +kernel
theorem dX9_takeSinger_222 : decode cX9_takeSinger 222 = .ok (.invokevirtual 167, 3) := by decide +kernel
theorem dX9_takeSinger_225 : decode cX9_takeSinger 225 = .ok (.istore_n 2, 1) := by decide +kernel
theorem dX9_takeSinger_226 : decode cX9_takeSinger 226 = .ok (.iload_n 2, 1) := by decide +kernel
theorem dX9_takeSinger_227 : decode cX9_takeSinger 227 = .ok (.ifCond .le 7, 3) := by decide +kernel
theorem dX9_takeSinger_230 : decode cX9_takeSinger 230 = .ok (.iload_n 2, 1) := by decide +kernel
theorem dX9_takeSinger_231 : decode cX9_takeSinger 231 = .ok (.goto 18, 3) := by decide +kernel
theorem dX9_takeSinger_234 : decode cX9_takeSinger 234 = .ok (.aload_n 0, 1) := by decide +kernel
theorem dX9_takeSinger_235 : decode cX9_takeSinger 235 = .ok (.aload_n 0, 1) := by decide +kernel
theorem dX9_takeSinger_236 : decode cX9_takeSinger 236 = .ok (.getfield 48, 3) := by decide +kernel
theorem dX9_takeSinger_239 : decode cX9_takeSinger 239 = .ok (.iload_n 1, 1) := by decide +kernel
theorem dX9_takeSinger_240 : decode cX9_takeSinger 240 = .ok (.bipush 6, 2) := by decide +kernel
theorem dX9_takeSinger_242 : decode cX9_takeSinger 242 = .ok (.iadd, 1) := by decide +kernel
theorem dX9_takeSinger_243 : decode cX9_takeSinger 243 = .ok (.iconst 0, 1) := by decide +kernel
theorem dX9_takeSinger_244 : decode cX9_takeSinger 244 = .ok (.bipush 36, 2) := by decide +kernel
theorem dX9_takeSinger_246 : decode cX9_takeSinger 246 = .ok (.invokevirtual 167, 3) := by decide +kernel
theorem dX9_takeSinger_249 : decode cX9_takeSinger 249 = .ok (.istore_n 2, 1) := by decide +kernel
theorem dX9_takeSinger_250 : decode cX9_takeSinger 250 = .ok (.iload_n 2, 1) := by decide +kernel
theorem dX9_takeSinger_251 : decode cX9_takeSinger 251 = .ok (.ifCond .ne 30, 3) := by decide +kernel
theorem dX9_takeSinger_254 : decode cX9_takeSinger 254 = .ok (.aload_n 0, 1) := by decide +kernel
theorem dX9_takeSinger_255 : decode cX9_takeSinger 255 = .ok (.getfield 143, 3) := by decide +kernel
theorem dX9_takeSinger_258 : decode cX9_takeSinger 258 = .ok (.aload_n 0, 1) := by decide +kernel
theorem dX9_takeSinger_259 : decode cX9_takeSinger 259 = .ok (.getfield 48, 3) := by decide +kernel
theorem dX9_takeSinger_262 : decode cX9_takeSinger 262 = .ok (.iload_n 1, 1) := by decide +kernel
theorem dX9_takeSinger_263 : decode cX9_takeSinger 263 = .ok (.iconst 5, 1) := by decide +kernel
theorem dX9_takeSinger_264 : decode cX9_takeSinger 264 = .ok (.iadd, 1) := by decide +kernel
theorem dX9_takeSinger_265 : decode cX9_takeSinger 265 = .ok (.iaload, 1) := by decide +kernel
theorem dX9_takeSinger_266 : decode cX9_takeSinger 266 = .ok (.if_icmp .ge 15, 3) := by decide +kernel
theorem dX9_takeSinger_269 : decode cX9_takeSinger 269 = .ok (.aload_n 0, 1) := by decide +kernel
theorem dX9_takeSinger_270 : decode cX9_takeSinger 270 = .ok (.iconst 4, 1) := by decide +kernel
theorem dX9_takeSinger_271 : decode cX9_takeSinger 271 = .ok (.aload_n 0, 1) := by decide +kernel
theorem dX9_takeSinger_272 : decode cX9_takeSinger 272 = .ok (.getfield 140, 3) := by decide +kernel
theorem dX9_takeSinger_275 : decode cX9_takeSinger 275 = .ok (.invokevirtual 136, 3) := by decide +kernel
theorem dX9_takeSinger_278 : decode cX9_takeSinger 278 = .ok (.goto 4, 3) := by decide +kernel
theorem dX9_takeSinger_281 : decode cX9_takeSinger 281 = .ok (.iload_n 2, 1) := by decide +kernel
theorem dX9_takeSinger_282 : decode cX9_takeSinger 282 = .ok (.istore_n 2, 1) := by decide +kernel
theorem dX9_takeSinger_283 : decode cX9_takeSinger 283 = .ok (.iload_n 2, 1) := by decide +kernel
theorem dX9_takeSinger_284 : decode cX9_takeSinger 284 = .ok (.ifCond .le 7, 3) := by decide +kernel
theorem dX9_takeSinger_287 : decode cX9_takeSinger 287 = .ok (.iload_n 2, 1) := by decide +kernel
theorem dX9_takeSinger_288 : decode cX9_takeSinger 288 = .ok (.goto 18, 3) := by decide +kernel
theorem dX9_takeSinger_291 : decode cX9_takeSinger 291 = .ok (.aload_n 0, 1) := by decide +kernel
theorem dX9_takeSinger_292 : decode cX9_takeSinger 292 = .ok (.aload_n 0, 1) := by decide +kernel
theorem dX9_takeSinger_293 : decode cX9_takeSinger 293 = .ok (.getfield 48, 3) := by decide +kernel
theorem dX9_takeSinger_296 : decode cX9_takeSinger 296 = .ok (.iload_n 1, 1) := by decide +kernel
theorem dX9_takeSinger_297 : decode cX9_takeSinger 297 = .ok (.bipush 7, 2) := by decide +kernel
theorem dX9_takeSinger_299 : decode cX9_takeSinger 299 = .ok (.iadd, 1) := by decide +kernel
theorem dX9_takeSinger_300 : decode cX9_takeSinger 300 = .ok (.iconst 0, 1) := by decide +kernel
theorem dX9_takeSinger_301 : decode cX9_takeSinger 301 = .ok (.bipush 40, 2) := by decide +kernel
theorem dX9_takeSinger_303 : decode cX9_takeSinger 303 = .ok (.invokevirtual 167, 3) := by decide +kernel
theorem dX9_takeSinger_306 : decode cX9_takeSinger 306 = .ok (.istore_n 2, 1) := by decide +kernel
theorem dX9_takeSinger_307 : decode cX9_takeSinger 307 = .ok (.aload_n 0, 1) := by decide +kernel
theorem dX9_takeSinger_308 : decode cX9_takeSinger 308 = .ok (.getfield 48, 3) := by decide +kernel
theorem dX9_takeSinger_311 : decode cX9_takeSinger 311 = .ok (.iload_n 1, 1) := by decide +kernel
theorem dX9_takeSinger_312 : decode cX9_takeSinger 312 = .ok (.iconst 2, 1) := by decide +kernel
theorem dX9_takeSinger_313 : decode cX9_takeSinger 313 = .ok (.iadd, 1) := by decide +kernel
theorem dX9_takeSinger_314 : decode cX9_takeSinger 314 = .ok (.dup2, 1) := by decide +kernel
theorem dX9_takeSinger_315 : decode cX9_takeSinger 315 = .ok (.iaload, 1) := by decide +kernel
theorem dX9_takeSinger_316 : decode cX9_takeSinger 316 = .ok (.bipush 50, 2) := by decide +kernel
theorem dX9_takeSinger_318 : decode cX9_takeSinger 318 = .ok (.isub, 1) := by decide +kernel
theorem dX9_takeSinger_319 : decode cX9_takeSinger 319 = .ok (.iastore, 1) := by decide +kernel
theorem dX9_takeSinger_320 : decode cX9_takeSinger 320 = .ok (.aload_n 0, 1) := by decide +kernel
theorem dX9_takeSinger_321 : decode cX9_takeSinger 321 = .ok (.getfield 48, 3) := by decide +kernel
theorem dX9_takeSinger_324 : decode cX9_takeSinger 324 = .ok (.iload_n 1, 1) := by decide +kernel
theorem dX9_takeSinger_325 : decode cX9_takeSinger 325 = .ok (.bipush 7, 2) := by decide +kernel
theorem dX9_takeSinger_327 : decode cX9_takeSinger 327 = .ok (.iadd, 1) := by decide +kernel
theorem dX9_takeSinger_328 : decode cX9_takeSinger 328 = .ok (.dup2, 1) := by decide +kernel
theorem dX9_takeSinger_329 : decode cX9_takeSinger 329 = .ok (.iaload, 1) := by decide +kernel
theorem dX9_takeSinger_330 : decode cX9_takeSinger 330 = .ok (.bipush 20, 2) := by decide +kernel
theorem dX9_takeSinger_332 : decode cX9_takeSinger 332 = .ok (.isub, 1) := by decide +kernel
theorem dX9_takeSinger_333 : decode cX9_takeSinger 333 = .ok (.iastore, 1) := by decide +kernel
theorem dX9_takeSinger_334 : decode cX9_takeSinger 334 = .ok (.aload_n 0, 1) := by decide +kernel
theorem dX9_takeSinger_335 : decode cX9_takeSinger 335 = .ok (.dup, 1) := by decide +kernel
theorem dX9_takeSinger_336 : decode cX9_takeSinger 336 = .ok (.getfield 160, 3) := by decide +kernel
theorem dX9_takeSinger_339 : decode cX9_takeSinger 339 = .ok (.iconst 1, 1) := by decide +kernel
theorem dX9_takeSinger_340 : decode cX9_takeSinger 340 = .ok (.iadd, 1) := by decide +kernel
theorem dX9_takeSinger_341 : decode cX9_takeSinger 341 = .ok (.putfield 160, 3) := by decide +kernel
theorem dX9_takeSinger_344 : decode cX9_takeSinger 344 = .ok (.iload_n 2, 1) := by decide +kernel
theorem dX9_takeSinger_345 : decode cX9_takeSinger 345 = .ok (.ifCond .le 7, 3) := by decide +kernel
theorem dX9_takeSinger_348 : decode cX9_takeSinger 348 = .ok (.iload_n 2, 1) := by decide +kernel
theorem dX9_takeSinger_349 : decode cX9_takeSinger 349 = .ok (.goto 7, 3) := by decide +kernel
theorem dX9_takeSinger_352 : decode cX9_takeSinger 352 = .ok (.aload_n 0, 1) := by decide +kernel
theorem dX9_takeSinger_353 : decode cX9_takeSinger 353 = .ok (.invokevirtual 171, 3) := by decide +kernel
theorem dX9_takeSinger_356 : decode cX9_takeSinger 356 = .ok (.ireturn, 1) := by decide +kernel
theorem dX9_singers_0 : decode cX9_singers 0 = .ok (.aload_n 0, 1) := by decide +kernel
theorem dX9_singers_1 : decode cX9_singers 1 = .ok (.iconst (-1), 1) := by decide +kernel
theorem dX9_singers_2 : decode cX9_singers 2 = .ok (.putfield 39, 3) := by decide +kernel
theorem dX9_singers_5 : decode cX9_singers 5 = .ok (.aload_n 0, 1) := by decide +kernel
theorem dX9_singers_6 : decode cX9_singers 6 = .ok (.iconst 0, 1) := by decide +kernel
theorem dX9_singers_7 : decode cX9_singers 7 = .ok (.putfield 106, 3) := by decide +kernel
theorem dX9_singers_10 : decode cX9_singers 10 = .ok (.aload_n 0, 1) := by decide +kernel
theorem dX9_singers_11 : decode cX9_singers 11 = .ok (.iconst 0, 1) := by decide +kernel
theorem dX9_singers_12 : decode cX9_singers 12 = .ok (.putfield 160, 3) := by decide +kernel
theorem dX9_singers_15 : decode cX9_singers 15 = .ok (.iconst 0, 1) := by decide +kernel
theorem dX9_singers_16 : decode cX9_singers 16 = .ok (.istore_n 1, 1) := by decide +kernel
theorem dX9_singers_17 : decode cX9_singers 17 = .ok (.iload_n 1, 1) := by decide +kernel
theorem dX9_singers_18 : decode cX9_singers 18 = .ok (.ifCond .ne 18, 3) := by decide +kernel
theorem dX9_singers_21 : decode cX9_singers 21 = .ok (.aload_n 0, 1) := by decide +kernel
theorem dX9_singers_22 : decode cX9_singers 22 = .ok (.invokevirtual 109, 3) := by decide +kernel
theorem dX9_singers_25 : decode cX9_singers 25 = .ok (.ifCond .lt 11, 3) := by decide +kernel
theorem dX9_singers_28 : decode cX9_singers 28 = .ok (.aload_n 0, 1) := by decide +kernel
theorem dX9_singers_29 : decode cX9_singers 29 = .ok (.invokevirtual 190, 3) := by decide +kernel
theorem dX9_singers_32 : decode cX9_singers 32 = .ok (.istore_n 1, 1) := by decide +kernel
theorem dX9_singers_33 : decode cX9_singers 33 = .ok (.goto (-16), 3) := by decide +kernel
theorem dX9_singers_36 : decode cX9_singers 36 = .ok (.aload_n 0, 1) := by decide +kernel
theorem dX9_singers_37 : decode cX9_singers 37 = .ok (.iconst 0, 1) := by decide +kernel
theorem dX9_singers_38 : decode cX9_singers 38 = .ok (.putfield 100, 3) := by decide +kernel
theorem dX9_singers_41 : decode cX9_singers 41 = .ok (.iload_n 1, 1) := by decide +kernel
theorem dX9_singers_42 : decode cX9_singers 42 = .ok (.ifCond .le 8, 3) := by decide +kernel
theorem dX9_singers_45 : decode cX9_singers 45 = .ok (.bipush (-10), 2) := by decide +kernel
theorem dX9_singers_47 : decode cX9_singers 47 = .ok (.iload_n 1, 1) := by decide +kernel
theorem dX9_singers_48 : decode cX9_singers 48 = .ok (.isub, 1) := by decide +kernel
theorem dX9_singers_49 : decode cX9_singers 49 = .ok (.ireturn, 1) := by decide +kernel
theorem dX9_singers_50 : decode cX9_singers 50 = .ok (.aload_n 0, 1) := by decide +kernel
theorem dX9_singers_51 : decode cX9_singers 51 = .ok (.aload_n 0, 1) := by decide +kernel
theorem dX9_singers_52 : decode cX9_singers 52 = .ok (.getfield 160, 3) := by decide +kernel
theorem dX9_singers_55 : decode cX9_singers 55 = .ok (.putfield 87, 3) := by decide +kernel
theorem dX9_singers_58 : decode cX9_singers 58 = .ok (.iconst 0, 1) := by decide +kernel
end
section
theorem dX9_singers_59 : decode cX9_singers 59 = .ok (.istore_n 2, 1) := by decide +kernel
theorem dX9_singers_60 : decode cX9_singers 60 = .ok (.iload_n 2, 1) := by decide +kernel
theorem dX9_singers_61 : decode cX9_singers 61 = .ok (.bipush 96, 2) := by decide +kernel
theorem dX9_singers_63 : decode cX9_singers 63 = .ok (.if_icmp .ge 21, 3) := by decide +kernel
theorem dX9_singers_66 : decode cX9_singers 66 = .ok (.aload_n 0, 1) := by decide +kernel
theorem dX9_singers_67 : decode cX9_singers 67 = .ok (.getfield 17, 3) := by decide +kernel
theorem dX9_singers_70 : decode cX9_singers 70 = .ok (.iload_n 2, 1) := by decide +kernel
theorem dX9_singers_71 : decode cX9_singers 71 = .ok (.aload_n 0, 1) := by decide +kernel
theorem dX9_singers_72 : decode cX9_singers 72 = .ok (.getfield 48, 3) := by decide +kernel
theorem dX9_singers_75 : decode cX9_singers 75 = .ok (.iload_n 2, 1) := by decide +kernel
theorem dX9_singers_76 : decode cX9_singers 76 = .ok (.iaload, 1) := by decide +kernel
theorem dX9_singers_77 : decode cX9_singers 77 = .ok (.iastore, 1) := by decide +kernel
theorem dX9_singers_78 : decode cX9_singers 78 = .ok (.iinc 2 1, 3) := by decide +kernel
theorem dX9_singers_81 : decode cX9_singers 81 = .ok (.goto (-21), 3) := by decide +kernel
theorem dX9_singers_84 : decode cX9_singers 84 = .ok (.aload_n 0, 1) := by decide +kernel
theorem dX9_singers_85 : decode cX9_singers 85 = .ok (.invokevirtual 181, 3) := by decide +kernel
theorem dX9_singers_88 : decode cX9_singers 88 = .ok (.aload_n 0, 1) := by decide +kernel
theorem dX9_singers_89 : decode cX9_singers 89 = .ok (.getfield 87, 3) := by decide +kernel
theorem dX9_singers_92 : decode cX9_singers 92 = .ok (.ireturn, 1) := by decide +kernel
theorem dX9_takePart_0 : decode cX9_takePart 0 = .ok (.aload_n 0, 1) := by decide +kernel
theorem dX9_takePart_1 : decode cX9_takePart 1 = .ok (.invokevirtual 149, 3) := by decide +kernel
theorem dX9_takePart_4 : decode cX9_takePart 4 = .ok (.aload_n 0, 1) := by decide +kernel
theorem dX9_takePart_5 : decode cX9_takePart 5 = .ok (.getfield 113, 3) := by decide +kernel
theorem dX9_takePart_8 : decode cX9_takePart 8 = .ok (.ldc2_w 193, 3) := by decide +kernel
theorem dX9_takePart_11 : decode cX9_takePart 11 = .ok (.lcmp, 1) := by decide +kernel
theorem dX9_takePart_12 : decode cX9_takePart 12 = .ok (.ifCond .ne 7, 3) := by decide +kernel
theorem dX9_takePart_15 : decode cX9_takePart 15 = .ok (.iconst 0, 1) := by decide +kernel
theorem dX9_takePart_16 : decode cX9_takePart 16 = .ok (.goto 93, 3) := by decide +kernel
theorem dX9_takePart_19 : decode cX9_takePart 19 = .ok (.aload_n 0, 1) := by decide +kernel
theorem dX9_takePart_20 : decode cX9_takePart 20 = .ok (.getfield 113, 3) := by decide +kernel
theorem dX9_takePart_23 : decode cX9_takePart 23 = .ok (.bipush 118, 2) := by decide +kernel
theorem dX9_takePart_25 : decode cX9_takePart 25 = .ok (.bipush 111, 2) := by decide +kernel
theorem dX9_takePart_27 : decode cX9_takePart 27 = .ok (.bipush 105, 2) := by decide +kernel
theorem dX9_takePart_29 : decode cX9_takePart 29 = .ok (.bipush 99, 2) := by decide +kernel
theorem dX9_takePart_31 : decode cX9_takePart 31 = .ok (.invokestatic 152, 3) := by decide +kernel
theorem dX9_takePart_34 : decode cX9_takePart 34 = .ok (.bipush 101, 2) := by decide +kernel
theorem dX9_takePart_36 : decode cX9_takePart 36 = .ok (.invokestatic 156, 3) := by decide +kernel
theorem dX9_takePart_39 : decode cX9_takePart 39 = .ok (.lcmp, 1) := by decide +kernel
theorem dX9_takePart_40 : decode cX9_takePart 40 = .ok (.ifCond .ne 7, 3) := by decide +kernel
theorem dX9_takePart_43 : decode cX9_takePart 43 = .ok (.iconst 1, 1) := by decide +kernel
theorem dX9_takePart_44 : decode cX9_takePart 44 = .ok (.goto 65, 3) := by decide +kernel
theorem dX9_takePart_47 : decode cX9_takePart 47 = .ok (.aload_n 0, 1) := by decide +kernel
theorem dX9_takePart_48 : decode cX9_takePart 48 = .ok (.getfield 113, 3) := by decide +kernel
theorem dX9_takePart_51 : decode cX9_takePart 51 = .ok (.bipush 109, 2) := by decide +kernel
theorem dX9_takePart_53 : decode cX9_takePart 53 = .ok (.bipush 101, 2) := by decide +kernel
theorem dX9_takePart_55 : decode cX9_takePart 55 = .ok (.bipush 109, 2) := by decide +kernel
theorem dX9_takePart_57 : decode cX9_takePart 57 = .ok (.bipush 111, 2) := by decide +kernel
theorem dX9_takePart_59 : decode cX9_takePart 59 = .ok (.invokestatic 152, 3) := by decide +kernel
theorem dX9_takePart_62 : decode cX9_takePart 62 = .ok (.bipush 114, 2) := by decide +kernel
theorem dX9_takePart_64 : decode cX9_takePart 64 = .ok (.invokestatic 156, 3) := by decide +kernel
theorem dX9_takePart_67 : decode cX9_takePart 67 = .ok (.bipush 121, 2) := by decide +kernel
theorem dX9_takePart_69 : decode cX9_takePart 69 = .ok (.invokestatic 156, 3) := by decide +kernel
theorem dX9_takePart_72 : decode cX9_takePart 72 = .ok (.lcmp, 1) := by decide +kernel
theorem dX9_takePart_73 : decode cX9_takePart 73 = .ok (.ifCond .ne 7, 3) := by decide +kernel
theorem dX9_takePart_76 : decode cX9_takePart 76 = .ok (.iconst 2, 1) := by decide +kernel
theorem dX9_takePart_77 : decode cX9_takePart 77 = .ok (.goto 32, 3) := by decide +kernel
theorem dX9_takePart_80 : decode cX9_takePart 80 = .ok (.aload_n 0, 1) := by decide +kernel
theorem dX9_takePart_81 : decode cX9_takePart 81 = .ok (.getfield 113, 3) := by decide +kernel
theorem dX9_takePart_84 : decode cX9_takePart 84 = .ok (.bipush 114, 2) := by decide +kernel
theorem dX9_takePart_86 : decode cX9_takePart 86 = .ok (.bipush 97, 2) := by decide +kernel
theorem dX9_takePart_88 : decode cX9_takePart 88 = .ok (.bipush 110, 2) := by decide +kernel
theorem dX9_takePart_90 : decode cX9_takePart 90 = .ok (.bipush 103, 2) := by decide +kernel
theorem dX9_takePart_92 : decode cX9_takePart 92 = .ok (.invokestatic 152, 3) := by decide +kernel
theorem dX9_takePart_95 : decode cX9_takePart 95 = .ok (.bipush 101, 2) := by decide +kernel
theorem dX9_takePart_97 : decode cX9_takePart 97 = .ok (.invokestatic 156, 3) := by decide +kernel
theorem dX9_takePart_100 : decode cX9_takePart 100 = .ok (.lcmp, 1) := by decide +kernel
theorem dX9_takePart_101 : decode cX9_takePart 101 = .ok (.ifCond .ne 7, 3) := by decide +kernel
theorem dX9_takePart_104 : decode cX9_takePart 104 = .ok (.iconst 3, 1) := by decide +kernel
theorem dX9_takePart_105 : decode cX9_takePart 105 = .ok (.goto 4, 3) := by decide +kernel
theorem dX9_takePart_108 : decode cX9_takePart 108 = .ok (.iconst (-1), 1) := by decide +kernel
theorem dX9_takePart_109 : decode cX9_takePart 109 = .ok (.istore_n 2, 1) := by decide +kernel
theorem dX9_takePart_110 : decode cX9_takePart 110 = .ok (.iload_n 2, 1) := by decide +kernel
theorem dX9_takePart_111 : decode cX9_takePart 111 = .ok (.ifCond .ge 13, 3) := by decide +kernel
theorem dX9_takePart_114 : decode cX9_takePart 114 = .ok (.aload_n 0, 1) := by decide +kernel
theorem dX9_takePart_115 : decode cX9_takePart 115 = .ok (.iconst 1, 1) := by decide +kernel
theorem dX9_takePart_116 : decode cX9_takePart 116 = .ok (.aload_n 0, 1) := by decide +kernel
theorem dX9_takePart_117 : decode cX9_takePart 117 = .ok (.getfield 106, 3) := by decide +kernel
theorem dX9_takePart_120 : decode cX9_takePart 120 = .ok (.invokevirtual 136, 3) := by decide +kernel
theorem dX9_takePart_123 : decode cX9_takePart 123 = .ok (.ireturn, 1) := by decide +kernel
theorem dX9_takePart_124 : decode cX9_takePart 124 = .ok (.aload_n 0, 1) := by decide +kernel
theorem dX9_takePart_125 : decode cX9_takePart 125 = .ok (.getfield 51, 3) := by decide +kernel
theorem dX9_takePart_128 : decode cX9_takePart 128 = .ok (.iload_n 1, 1) := by decide +kernel
theorem dX9_takePart_129 : decode cX9_takePart 129 = .ok (.iconst 3, 1) := by decide +kernel
theorem dX9_takePart_130 : decode cX9_takePart 130 = .ok (.iadd, 1) := by decide +kernel
theorem dX9_takePart_131 : decode cX9_takePart 131 = .ok (.iaload, 1) := by decide +kernel
theorem dX9_takePart_132 : decode cX9_takePart 132 = .ok (.iload_n 2, 1) := by decide +kernel
theorem dX9_takePart_133 : decode cX9_takePart 133 = .ok (.invokestatic 195, 3) := by decide +kernel
theorem dX9_takePart_136 : decode cX9_takePart 136 = .ok (.ifCond .eq 13, 3) := by decide +kernel
theorem dX9_takePart_139 : decode cX9_takePart 139 = .ok (.aload_n 0, 1) := by decide +kernel
theorem dX9_takePart_140 : decode cX9_takePart 140 = .ok (.iconst 4, 1) := by decide +kernel
theorem dX9_takePart_141 : decode cX9_takePart 141 = .ok (.aload_n 0, 1) := by decide +kernel
theorem dX9_takePart_142 : decode cX9_takePart 142 = .ok (.getfield 106, 3) := by decide +kernel
theorem dX9_takePart_145 : decode cX9_takePart 145 = .ok (.invokevirtual 136, 3) := by decide +kernel
theorem dX9_takePart_148 : decode cX9_takePart 148 = .ok (.ireturn, 1) := by decide +kernel
theorem dX9_takePart_149 : decode cX9_takePart 149 = .ok (.aload_n 0, 1) := by decide +kernel
theorem dX9_takePart_150 : decode cX9_takePart 150 = .ok (.aload_n 0, 1) := by decide +kernel
theorem dX9_takePart_151 : decode cX9_takePart 151 = .ok (.getfield 117, 3) := by decide +kernel
theorem dX9_takePart_154 : decode cX9_takePart 154 = .ok (.putfield 106, 3) := by decide +kernel
theorem dX9_takePart_157 : decode cX9_takePart 157 = .ok (.aload_n 0, 1) := by decide +kernel
theorem dX9_takePart_158 : decode cX9_takePart 158 = .ok (.getfield 51, 3) := by decide +kernel
theorem dX9_takePart_161 : decode cX9_takePart 161 = .ok (.iload_n 1, 1) := by decide +kernel
theorem dX9_takePart_162 : decode cX9_takePart 162 = .ok (.iconst 3, 1) := by decide +kernel
theorem dX9_takePart_163 : decode cX9_takePart 163 = .ok (.iadd, 1) := by decide +kernel
theorem dX9_takePart_164 : decode cX9_takePart 164 = .ok (.dup2, 1) := by decide +kernel
theorem dX9_takePart_165 : decode cX9_takePart 165 = .ok (.iaload, 1) := by decide +kernel
theorem dX9_takePart_166 : decode cX9_takePart 166 = .ok (.iconst 1, 1) := by decide +kernel
theorem dX9_takePart_167 : decode cX9_takePart 167 = .ok (.iload_n 2, 1) := by decide +kernel
theorem dX9_takePart_168 : decode cX9_takePart 168 = .ok (.ishl, 1) := by decide +kernel
theorem dX9_takePart_169 : decode cX9_takePart 169 = .ok (.ior, 1) := by decide +kernel
theorem dX9_takePart_170 : decode cX9_takePart 170 = .ok (.iastore, 1) := by decide +kernel
theorem dX9_takePart_171 : decode cX9_takePart 171 = .ok (.iconst 0, 1) := by decide +kernel
theorem dX9_takePart_172 : decode cX9_takePart 172 = .ok (.ireturn, 1) := by decide +kernel
theorem dX9_takeTask_0 : decode cX9_takeTask 0 = .ok (.aload_n 0, 1) := by decide +kernel
theorem dX9_takeTask_1 : decode cX9_takeTask 1 = .ok (.invokevirtual 149, 3) := by decide +kernel
theorem dX9_takeTask_4 : decode cX9_takeTask 4 = .ok (.aload_n 0, 1) := by decide +kernel
theorem dX9_takeTask_5 : decode cX9_takeTask 5 = .ok (.getfield 113, 3) := by decide +kernel
theorem dX9_takeTask_8 : decode cX9_takeTask 8 = .ok (.bipush 116, 2) := by decide +kernel
theorem dX9_takeTask_10 : decode cX9_takeTask 10 = .ok (.bipush 97, 2) := by decide +kernel
theorem dX9_takeTask_12 : decode cX9_takeTask 12 = .ok (.bipush 115, 2) := by decide +kernel
theorem dX9_takeTask_14 : decode cX9_takeTask 14 = .ok (.bipush 107, 2) := by decide +kernel
theorem dX9_takeTask_16 : decode cX9_takeTask 16 = .ok (.invokestatic 152, 3) := by decide +kernel
theorem dX9_takeTask_19 : decode cX9_takeTask 19 = .ok (.lcmp, 1) := by decide +kernel
theorem dX9_takeTask_20 : decode cX9_takeTask 20 = .ok (.ifCond .eq 13, 3) := by decide +kernel
theorem dX9_takeTask_23 : decode cX9_takeTask 23 = .ok (.aload_n 0, 1) := by decide +kernel
theorem dX9_takeTask_24 : decode cX9_takeTask 24 = .ok (.iconst 1, 1) := by decide +kernel
theorem dX9_takeTask_25 : decode cX9_takeTask 25 = .ok (.aload_n 0, 1) := by decide +kernel
theorem dX9_takeTask_26 : decode cX9_takeTask 26 = .ok (.getfield 106, 3) := by decide +kernel
theorem dX9_takeTask_29 : decode cX9_takeTask 29 = .ok (.invokevirtual 136, 3) := by decide +kernel
theorem dX9_takeTask_32 : decode cX9_takeTask 32 = .ok (.ireturn, 1) := by decide +kernel
theorem dX9_takeTask_33 : decode cX9_takeTask 33 = .ok (.aload_n 0, 1) := by decide +kernel
theorem dX9_takeTask_34 : decode cX9_takeTask 34 = .ok (.getfield 160, 3) := by decide +kernel
theorem dX9_takeTask_37 : decode cX9_takeTask 37 = .ok (.bipush 6, 2) := by decide +kernel
theorem dX9_takeTask_39 : decode cX9_takeTask 39 = .ok (.if_icmp .ne 13, 3) := by decide +kernel
theorem dX9_takeTask_42 : decode cX9_takeTask 42 = .ok (.aload_n 0, 1) := by decide +kernel
theorem dX9_takeTask_43 : decode cX9_takeTask 43 = .ok (.iconst 3, 1) := by decide +kernel
theorem dX9_takeTask_44 : decode cX9_takeTask 44 = .ok (.aload_n 0, 1) := by decide +kernel
theorem dX9_takeTask_45 : decode cX9_takeTask 45 = .ok (.getfield 106, 3) := by decide +kernel
theorem dX9_takeTask_48 : decode cX9_takeTask 48 = .ok (.invokevirtual 136, 3) := by decide +kernel
theorem dX9_takeTask_51 : decode cX9_takeTask 51 = .ok (.ireturn, 1) := by decide +kernel
theorem dX9_takeTask_52 : decode cX9_takeTask 52 = .ok (.aload_n 0, 1) := by decide +kernel
theorem dX9_takeTask_53 : decode cX9_takeTask 53 = .ok (.aload_n 0, 1) := by decide +kernel
theorem dX9_takeTask_54 : decode cX9_takeTask 54 = .ok (.getfield 117, 3) := by decide +kernel
theorem dX9_takeTask_57 : decode cX9_takeTask 57 = .ok (.putfield 106, 3) := by decide +kernel
theorem dX9_takeTask_60 : decode cX9_takeTask 60 = .ok (.iconst 4, 1) := by decide +kernel
theorem dX9_takeTask_61 : decode cX9_takeTask 61 = .ok (.aload_n 0, 1) := by decide +kernel
theorem dX9_takeTask_62 : decode cX9_takeTask 62 = .ok (.getfield 160, 3) := by decide +kernel
theorem dX9_takeTask_65 : decode cX9_takeTask 65 = .ok (.imul, 1) := by decide +kernel
theorem dX9_takeTask_66 : decode cX9_takeTask 66 = .ok (.istore_n 1, 1) := by decide +kernel
theorem dX9_takeTask_67 : decode cX9_takeTask 67 = .ok (.aload_n 0, 1) := by decide +kernel
theorem dX9_takeTask_68 : decode cX9_takeTask 68 = .ok (.getfield 51, 3) := by decide +kernel
theorem dX9_takeTask_71 : decode cX9_takeTask 71 = .ok (.iload_n 1, 1) := by decide +kernel
theorem dX9_takeTask_72 : decode cX9_takeTask 72 = .ok (.iconst 3, 1) := by decide +kernel
theorem dX9_takeTask_73 : decode cX9_takeTask 73 = .ok (.iadd, 1) := by decide +kernel
theorem dX9_takeTask_74 : decode cX9_takeTask 74 = .ok (.iconst 0, 1) := by decide +kernel
theorem dX9_takeTask_75 : decode cX9_takeTask 75 = .ok (.iastore, 1) := by decide +kernel
theorem dX9_takeTask_76 : decode cX9_takeTask 76 = .ok (.aload_n 0, 1) := by decide +kernel
theorem dX9_takeTask_77 : decode cX9_takeTask 77 = .ok (.aload_n 0, 1) := by decide +kernel
theorem dX9_takeTask_78 : decode cX9_takeTask 78 = .ok (.getfield 51, 3) := by decide +kernel
theorem dX9_takeTask_81 : decode cX9_takeTask 81 = .ok (.iload_n 1, 1) := by decide +kernel
theorem dX9_takeTask_82 : decode cX9_takeTask 82 = .ok (.iconst 1, 1) := by decide +kernel
theorem dX9_takeTask_83 : decode cX9_takeTask 83 = .ok (.bipush 30, 2) := by decide +kernel
theorem dX9_takeTask_85 : decode cX9_takeTask 85 = .ok (.invokevirtual 167, 3) := by decide +kernel
theorem dX9_takeTask_88 : decode cX9_takeTask 88 = .ok (.istore_n 2, 1) := by decide +kernel
theorem dX9_takeTask_89 : decode cX9_takeTask 89 = .ok (.iload_n 2, 1) := by decide +kernel
theorem dX9_takeTask_90 : decode cX9_takeTask 90 = .ok (.ifCond .le 7, 3) := by decide +kernel
theorem dX9_takeTask_93 : decode cX9_takeTask 93 = .ok (.iload_n 2, 1) := by decide +kernel
theorem dX9_takeTask_94 : decode cX9_takeTask 94 = .ok (.goto 17, 3) := by decide +kernel
theorem dX9_takeTask_97 : decode cX9_takeTask 97 = .ok (.aload_n 0, 1) := by decide +kernel
theorem dX9_takeTask_98 : decode cX9_takeTask 98 = .ok (.aload_n 0, 1) := by decide +kernel
theorem dX9_takeTask_99 : decode cX9_takeTask 99 = .ok (.getfield 51, 3) := by decide +kernel
theorem dX9_takeTask_102 : decode cX9_takeTask 102 = .ok (.iload_n 1, 1) := by decide +kernel
theorem dX9_takeTask_103 : decode cX9_takeTask 103 = .ok (.iconst 1, 1) := by decide +kernel
theorem dX9_takeTask_104 : decode cX9_takeTask 104 = .ok (.iadd, 1) := by decide +kernel
theorem dX9_takeTask_105 : decode cX9_takeTask 105 = .ok (.iconst 0, 1) := by decide +kernel
theorem dX9_takeTask_106 : decode cX9_takeTask 106 = .ok (.bipush 49, 2) := by decide +kernel
theorem dX9_takeTask_108 : decode cX9_takeTask 108 = .ok (.invokevirtual 167, 3) := by decide +kernel
theorem dX9_takeTask_111 : decode cX9_takeTask 111 = .ok (.istore_n 2, 1) := by decide +kernel
theorem dX9_takeTask_112 : decode cX9_takeTask 112 = .ok (.iload_n 2, 1) := by decide +kernel
theorem dX9_takeTask_113 : decode cX9_takeTask 113 = .ok (.ifCond .le 7, 3) := by decide +kernel
theorem dX9_takeTask_116 : decode cX9_takeTask 116 = .ok (.iload_n 2, 1) := by decide +kernel
theorem dX9_takeTask_117 : decode cX9_takeTask 117 = .ok (.goto 17, 3) := by decide +kernel
theorem dX9_takeTask_120 : decode cX9_takeTask 120 = .ok (.aload_n 0, 1) := by decide +kernel
theorem dX9_takeTask_121 : decode cX9_takeTask 121 = .ok (.aload_n 0, 1) := by decide +kernel
theorem dX9_takeTask_122 : decode cX9_takeTask 122 = .ok (.getfield 51, 3) := by decide +kernel
theorem dX9_takeTask_125 : decode cX9_takeTask 125 = .ok (.iload_n 1, 1) := by decide +kernel
theorem dX9_takeTask_126 : decode cX9_takeTask 126 = .ok (.iconst 2, 1) := by decide +kernel
theorem dX9_takeTask_127 : decode cX9_takeTask 127 = .ok (.iadd, 1) := by decide +kernel
theorem dX9_takeTask_128 : decode cX9_takeTask 128 = .ok (.iconst 0, 1) := by decide +kernel
theorem dX9_takeTask_129 : decode cX9_takeTask 129 = .ok (.bipush 49, 2) := by decide +kernel
theorem dX9_takeTask_131 : decode cX9_takeTask 131 = .ok (.invokevirtual 167, 3) := by decide +kernel
theorem dX9_takeTask_134 : decode cX9_takeTask 134 = .ok (.istore_n 2, 1) := by decide +kernel
theorem dX9_takeTask_135 : decode cX9_takeTask 135 = .ok (.iload_n 2, 1) := by decide +kernel
theorem dX9_takeTask_136 : decode cX9_takeTask 136 = .ok (.ifCond .le 5, 3) := by decide +kernel
theorem dX9_takeTask_139 : decode cX9_takeTask 139 = .ok (.iload_n 2, 1) := by decide +kernel
theorem dX9_takeTask_140 : decode cX9_takeTask 140 = .ok (.ireturn, 1) := by decide +kernel
theorem dX9_takeTask_141 : decode cX9_takeTask 141 = .ok (.aload_n 0, 1) := by decide +kernel
theorem dX9_takeTask_142 : decode cX9_takeTask 142 = .ok (.invokevirtual 109, 3) := by decide +kernel
theorem dX9_takeTask_145 : decode cX9_takeTask 145 = .ok (.bipush 59, 2) := by decide +kernel
theorem dX9_takeTask_147 : decode cX9_takeTask 147 = .ok (.if_icmp .eq 7, 3) := by decide +kernel
theorem dX9_takeTask_150 : decode cX9_takeTask 150 = .ok (.iconst 1, 1) := by decide +kernel
theorem dX9_takeTask_151 : decode cX9_takeTask 151 = .ok (.goto 4, 3) := by decide +kernel
theorem dX9_takeTask_154 : decode cX9_takeTask 154 = .ok (.iconst 0, 1) := by decide +kernel
theorem dX9_takeTask_155 : decode cX9_takeTask 155 = .ok (.istore_n 3, 1) := by decide +kernel
theorem dX9_takeTask_156 : decode cX9_takeTask 156 = .ok (.iload_n 3, 1) := by decide +kernel
theorem dX9_takeTask_157 : decode cX9_takeTask 157 = .ok (.ifCond .eq 51, 3) := by decide +kernel
theorem dX9_takeTask_160 : decode cX9_takeTask 160 = .ok (.aload_n 0, 1) := by decide +kernel
theorem dX9_takeTask_161 : decode cX9_takeTask 161 = .ok (.iload_n 1, 1) := by decide +kernel
theorem dX9_takeTask_162 : decode cX9_takeTask 162 = .ok (.invokevirtual 199, 3) := by decide +kernel
theorem dX9_takeTask_165 : decode cX9_takeTask 165 = .ok (.istore_n 2, 1) := by decide +kernel
theorem dX9_takeTask_166 : decode cX9_takeTask 166 = .ok (.iload_n 2, 1) := by decide +kernel
theorem dX9_takeTask_167 : decode cX9_takeTask 167 = .ok (.ifCond .le 5, 3) := by decide +kernel
theorem dX9_takeTask_170 : decode cX9_takeTask 170 = .ok (.iload_n 2, 1) := by decide +kernel
theorem dX9_takeTask_171 : decode cX9_takeTask 171 = .ok (.ireturn, 1) := by decide +kernel
theorem dX9_takeTask_172 : decode cX9_takeTask 172 = .ok (.aload_n 0, 1) := by decide +kernel
theorem dX9_takeTask_173 : decode cX9_takeTask 173 = .ok (.invokevirtual 109, 3) := by decide +kernel
theorem dX9_takeTask_176 : decode cX9_takeTask 176 = .ok (.bipush 44, 2) := by decide +kernel
theorem dX9_takeTask_178 : decode cX9_takeTask 178 = .ok (.if_icmp .ne 7, 3) := by decide +kernel
theorem dX9_takeTask_181 : decode cX9_takeTask 181 = .ok (.iconst 1, 1) := by decide +kernel
theorem dX9_takeTask_182 : decode cX9_takeTask 182 = .ok (.goto 4, 3) := by decide +kernel
theorem dX9_takeTask_185 : decode cX9_takeTask 185 = .ok (.iconst 0, 1) := by decide +kernel
theorem dX9_takeTask_186 : decode cX9_takeTask 186 = .ok (.istore_n 3, 1) := by decide +kernel
theorem dX9_takeTask_187 : decode cX9_takeTask 187 = .ok (.aload_n 0, 1) := by decide +kernel
theorem dX9_takeTask_188 : decode cX9_takeTask 188 = .ok (.dup, 1) := by decide +kernel
theorem dX9_takeTask_189 : decode cX9_takeTask 189 = .ok (.getfield 106, 3) := by decide +kernel
theorem dX9_takeTask_192 : decode cX9_takeTask 192 = .ok (.iload_n 3, 1) := by decide +kernel
theorem dX9_takeTask_193 : decode cX9_takeTask 193 = .ok (.ifCond .eq 7, 3) := by decide +kernel
theorem dX9_takeTask_196 : decode cX9_takeTask 196 = .ok (.iconst 1, 1) := by decide +kernel
theorem dX9_takeTask_197 : decode cX9_takeTask 197 = .ok (.goto 4, 3) := by decide +kernel
theorem dX9_takeTask_200 : decode cX9_takeTask 200 = .ok (.iconst 0, 1) := by decide +kernel
theorem dX9_takeTask_201 : decode cX9_takeTask 201 = .ok (.iadd, 1) := by decide +kernel
theorem dX9_takeTask_202 : decode cX9_takeTask 202 = .ok (.putfield 106, 3) := by decide +kernel
theorem dX9_takeTask_205 : decode cX9_takeTask 205 = .ok (.goto (-49), 3) := by decide +kernel
theorem dX9_takeTask_208 : decode cX9_takeTask 208 = .ok (.aload_n 0, 1) := by decide +kernel
theorem dX9_takeTask_209 : decode cX9_takeTask 209 = .ok (.dup, 1) := by decide +kernel
theorem dX9_takeTask_210 : decode cX9_takeTask 210 = .ok (.getfield 160, 3) := by decide +kernel
theorem dX9_takeTask_213 : decode cX9_takeTask 213 = .ok (.iconst 1, 1) := by decide +kernel
theorem dX9_takeTask_214 : decode cX9_takeTask 214 = .ok (.iadd, 1) := by decide +kernel
theorem dX9_takeTask_215 : decode cX9_takeTask 215 = .ok (.putfield 160, 3) := by decide +kernel
theorem dX9_takeTask_218 : decode cX9_takeTask 218 = .ok (.aload_n 0, 1) := by decide +kernel
theorem dX9_takeTask_219 : decode cX9_takeTask 219 = .ok (.invokevirtual 171, 3) := by decide +kernel
theorem dX9_takeTask_222 : decode cX9_takeTask 222 = .ok (.ireturn, 1) := by decide +kernel
theorem dX9_tasks_0 : decode cX9_tasks 0 = .ok (.aload_n 0, 1) := by decide +kernel
theorem dX9_tasks_1 : decode cX9_tasks 1 = .ok (.iconst (-1), 1) := by decide +kernel
theorem dX9_tasks_2 : decode cX9_tasks 2 = .ok (.putfield 39, 3) := by decide +kernel
theorem dX9_tasks_5 : decode cX9_tasks 5 = .ok (.aload_n 0, 1) := by decide +kernel
theorem dX9_tasks_6 : decode cX9_tasks 6 = .ok (.iconst 0, 1) := by decide +kernel
theorem dX9_tasks_7 : decode cX9_tasks 7 = .ok (.putfield 106, 3) := by decide +kernel
theorem dX9_tasks_10 : decode cX9_tasks 10 = .ok (.aload_n 0, 1) := by decide +kernel
theorem dX9_tasks_11 : decode cX9_tasks 11 = .ok (.iconst 0, 1) := by decide +kernel
theorem dX9_tasks_12 : decode cX9_tasks 12 = .ok (.putfield 160, 3) := by decide +kernel
theorem dX9_tasks_15 : decode cX9_tasks 15 = .ok (.iconst 0, 1) := by decide +kernel
theorem dX9_tasks_16 : decode cX9_tasks 16 = .ok (.istore_n 1, 1) := by decide +kernel
theorem dX9_tasks_17 : decode cX9_tasks 17 = .ok (.iload_n 1, 1) := by decide +kernel
theorem dX9_tasks_18 : decode cX9_tasks 18 = .ok (.ifCond .ne 18, 3) := by decide +kernel
theorem dX9_tasks_21 : decode cX9_tasks 21 = .ok (.aload_n 0, 1) := by decide +kernel
theorem dX9_tasks_22 : decode cX9_tasks 22 = .ok (.invokevirtual 109, 3) := by decide +kernel
theorem dX9_tasks_25 : decode cX9_tasks 25 = .ok (.ifCond .lt 11, 3) := by decide +kernel
theorem dX9_tasks_28 : decode cX9_tasks 28 = .ok (.aload_n 0, 1) := by decide +kernel
theorem dX9_tasks_29 : decode cX9_tasks 29 = .ok (.invokevirtual 203, 3) := by decide +kernel
theorem dX9_tasks_32 : decode cX9_tasks 32 = .ok (.istore_n 1, 1) := by decide +kernel
theorem dX9_tasks_33 : decode cX9_tasks 33 = .ok (.goto (-16), 3) := by decide +kernel
theorem dX9_tasks_36 : decode cX9_tasks 36 = .ok (.aload_n 0, 1) := by decide +kernel
theorem dX9_tasks_37 : decode cX9_tasks 37 = .ok (.iconst 0, 1) := by decide +kernel
theorem dX9_tasks_38 : decode cX9_tasks 38 = .ok (.putfield 100, 3) := by decide +kernel
theorem dX9_tasks_41 : decode cX9_tasks 41 = .ok (.iload_n 1, 1) := by decide +kernel
theorem dX9_tasks_42 : decode cX9_tasks 42 = .ok (.ifCond .le 8, 3) := by decide +kernel
theorem dX9_tasks_45 : decode cX9_tasks 45 = .ok (.bipush (-10), 2) := by decide +kernel
theorem dX9_tasks_47 : decode cX9_tasks 47 = .ok (.iload_n 1, 1) := by decide +kernel
theorem dX9_tasks_48 : decode cX9_tasks 48 = .ok (.isub, 1) := by decide +kernel
theorem dX9_tasks_49 : decode cX9_tasks 49 = .ok (.ireturn, 1) := by decide +kernel
theorem dX9_tasks_50 : decode cX9_tasks 50 = .ok (.aload_n 0, 1) := by decide +kernel
theorem dX9_tasks_51 : decode cX9_tasks 51 = .ok (.aload_n 0, 1) := by decide +kernel
theorem dX9_tasks_52 : decode cX9_tasks 52 = .ok (.getfield 160, 3) := by decide +kernel
theorem dX9_tasks_55 : decode cX9_tasks 55 = .ok (.putfield 94, 3) := by decide +kernel
theorem dX9_tasks_58 : decode cX9_tasks 58 = .ok (.iconst 0, 1) := by decide +kernel
theorem dX9_tasks_59 : decode cX9_tasks 59 = .ok (.istore_n 2, 1) := by decide +kernel
theorem dX9_tasks_60 : decode cX9_tasks 60 = .ok (.iload_n 2, 1) := by decide +kernel
theorem dX9_tasks_61 : decode cX9_tasks 61 = .ok (.bipush 24, 2) := by decide +kernel
theorem dX9_tasks_63 : decode cX9_tasks 63 = .ok (.if_icmp .ge 21, 3) := by decide +kernel
theorem dX9_tasks_66 : decode cX9_tasks 66 = .ok (.aload_n 0, 1) := by decide +kernel
theorem dX9_tasks_67 : decode cX9_tasks 67 = .ok (.getfield 20, 3) := by decide +kernel
theorem dX9_tasks_70 : decode cX9_tasks 70 = .ok (.iload_n 2, 1) := by decide +kernel
theorem dX9_tasks_71 : decode cX9_tasks 71 = .ok (.aload_n 0, 1) := by decide +kernel
theorem dX9_tasks_72 : decode cX9_tasks 72 = .ok (.getfield 51, 3) := by decide +kernel
theorem dX9_tasks_75 : decode cX9_tasks 75 = .ok (.iload_n 2, 1) := by decide +kernel
theorem dX9_tasks_76 : decode cX9_tasks 76 = .ok (.iaload, 1) := by decide +kernel
theorem dX9_tasks_77 : decode cX9_tasks 77 = .ok (.iastore, 1) := by decide +kernel
theorem dX9_tasks_78 : decode cX9_tasks 78 = .ok (.iinc 2 1, 3) := by decide +kernel
theorem dX9_tasks_81 : decode cX9_tasks 81 = .ok (.goto (-21), 3) := by decide +kernel
theorem dX9_tasks_84 : decode cX9_tasks 84 = .ok (.iconst 0, 1) := by decide +kernel
theorem dX9_tasks_85 : decode cX9_tasks 85 = .ok (.istore_n 2, 1) := by decide +kernel
theorem dX9_tasks_86 : decode cX9_tasks 86 = .ok (.iload_n 2, 1) := by decide +kernel
theorem dX9_tasks_87 : decode cX9_tasks 87 = .ok (.bipush 6, 2) := by decide +kernel
theorem dX9_tasks_89 : decode cX9_tasks 89 = .ok (.if_icmp .ge 16, 3) := by decide +kernel
theorem dX9_tasks_92 : decode cX9_tasks 92 = .ok (.aload_n 0, 1) := by decide +kernel
theorem dX9_tasks_93 : decode cX9_tasks 93 = .ok (.getfield 26, 3) := by decide +kernel
theorem dX9_tasks_96 : decode cX9_tasks 96 = .ok (.iload_n 2, 1) := by decide +kernel
theorem dX9_tasks_97 : decode cX9_tasks 97 = .ok (.iconst 0, 1) := by decide +kernel
theorem dX9_tasks_98 : decode cX9_tasks 98 = .ok (.iastore, 1) := by decide +kernel
theorem dX9_tasks_99 : decode cX9_tasks 99 = .ok (.iinc 2 1, 3) := by decide +kernel
theorem dX9_tasks_102 : decode cX9_tasks 102 = .ok (.goto (-16), 3) := by decide +kernel
theorem dX9_tasks_105 : decode cX9_tasks 105 = .ok (.aload_n 0, 1) := by decide +kernel
theorem dX9_tasks_106 : decode cX9_tasks 106 = .ok (.getfield 84, 3) := by decide +kernel
theorem dX9_tasks_109 : decode cX9_tasks 109 = .ok (.iconst 0, 1) := by decide +kernel
theorem dX9_tasks_110 : decode cX9_tasks 110 = .ok (.iconst 0, 1) := by decide +kernel
theorem dX9_tasks_111 : decode cX9_tasks 111 = .ok (.bastore, 1) := by decide +kernel
theorem dX9_tasks_112 : decode cX9_tasks 112 = .ok (.aload_n 0, 1) := by decide +kernel
theorem dX9_tasks_113 : decode cX9_tasks 113 = .ok (.getfield 84, 3) := by decide +kernel
theorem dX9_tasks_116 : decode cX9_tasks 116 = .ok (.iconst 1, 1) := by decide +kernel
theorem dX9_tasks_117 : decode cX9_tasks 117 = .ok (.iconst 0, 1) := by decide +kernel
theorem dX9_tasks_118 : decode cX9_tasks 118 = .ok (.bastore, 1) := by decide +kernel
theorem dX9_tasks_119 : decode cX9_tasks 119 = .ok (.aload_n 0, 1) := by decide +kernel
theorem dX9_tasks_120 : decode cX9_tasks 120 = .ok (.getfield 94, 3) := by decide +kernel
theorem dX9_tasks_123 : decode cX9_tasks 123 = .ok (.ireturn, 1) := by decide +kernel
theorem dX9_fault_0 : decode cX9_fault 0 = .ok (.aload_n 0, 1) := by decide +kernel
theorem dX9_fault_1 : decode cX9_fault 1 = .ok (.getfield 39, 3) := by decide +kernel
theorem dX9_fault_4 : decode cX9_fault 4 = .ok (.ireturn, 1) := by decide +kernel
theorem dX9_doneSet_0 : decode cX9_doneSet 0 = .ok (.iconst 0, 1) := by decide +kernel
theorem dX9_doneSet_1 : decode cX9_doneSet 1 = .ok (.istore_n 2, 1) := by decide +kernel
theorem dX9_doneSet_2 : decode cX9_doneSet 2 = .ok (.iconst 0, 1) := by decide +kernel
theorem dX9_doneSet_3 : decode cX9_doneSet 3 = .ok (.istore_n 3, 1) := by decide +kernel
theorem dX9_doneSet_4 : decode cX9_doneSet 4 = .ok (.iload_n 3, 1) := by decide +kernel
theorem dX9_doneSet_5 : decode cX9_doneSet 5 = .ok (.aload_n 0, 1) := by decide +kernel
theorem dX9_doneSet_6 : decode cX9_doneSet 6 = .ok (.getfield 94, 3) := by decide +kernel
theorem dX9_doneSet_9 : decode cX9_doneSet 9 = .ok (.if_icmp .ge 43, 3) := by decide +kernel
theorem dX9_doneSet_12 : decode cX9_doneSet 12 = .ok (.iload_n 2, 1) := by decide +kernel
theorem dX9_doneSet_13 : decode cX9_doneSet 13 = .ok (.aload_n 0, 1) := by decide +kernel
theorem dX9_doneSet_14 : decode cX9_doneSet 14 = .ok (.getfield 26, 3) := by decide +kernel
theorem dX9_doneSet_17 : decode cX9_doneSet 17 = .ok (.iload_n 3, 1) := by decide +kernel
theorem dX9_doneSet_18 : decode cX9_doneSet 18 = .ok (.iaload, 1) := by decide +kernel
theorem dX9_doneSet_19 : decode cX9_doneSet 19 = .ok (.iconst 1, 1) := by decide +kernel
theorem dX9_doneSet_20 : decode cX9_doneSet 20 = .ok (.if_icmp .eq 17, 3) := by decide +kernel
theorem dX9_doneSet_23 : decode cX9_doneSet 23 = .ok (.aload_n 0, 1) := by decide +kernel
theorem dX9_doneSet_24 : decode cX9_doneSet 24 = .ok (.getfield 26, 3) := by decide +kernel
theorem dX9_doneSet_27 : decode cX9_doneSet 27 = .ok (.iload_n 3, 1) := by decide +kernel
theorem dX9_doneSet_28 : decode cX9_doneSet 28 = .ok (.iaload, 1) := by decide +kernel
theorem dX9_doneSet_29 : decode cX9_doneSet 29 = .ok (.iconst 2, 1) := by decide +kernel
theorem dX9_doneSet_30 : decode cX9_doneSet 30 = .ok (.if_icmp .ne 13, 3) := by decide +kernel
theorem dX9_doneSet_33 : decode cX9_doneSet 33 = .ok (.iload_n 1, 1) := by decide +kernel
theorem dX9_doneSet_34 : decode cX9_doneSet 34 = .ok (.ifCond .ne 9, 3) := by decide +kernel
theorem dX9_doneSet_37 : decode cX9_doneSet 37 = .ok (.iconst 1, 1) := by decide +kernel
theorem dX9_doneSet_38 : decode cX9_doneSet 38 = .ok (.iload_n 3, 1) := by decide +kernel
theorem dX9_doneSet_39 : decode cX9_doneSet 39 = .ok (.ishl, 1) := by decide +kernel
theorem dX9_doneSet_40 : decode cX9_doneSet 40 = .ok (.goto 4, 3) := by decide +kernel
theorem dX9_doneSet_43 : decode cX9_doneSet 43 = .ok (.iconst 0, 1) := by decide +kernel
theorem dX9_doneSet_44 : decode cX9_doneSet 44 = .ok (.ior, 1) := by decide +kernel
theorem dX9_doneSet_45 : decode cX9_doneSet 45 = .ok (.istore_n 2, 1) := by decide +kernel
theorem dX9_doneSet_46 : decode cX9_doneSet 46 = .ok (.iinc 3 1, 3) := by decide +kernel
theorem dX9_doneSet_49 : decode cX9_doneSet 49 = .ok (.goto (-45), 3) := by decide +kernel
theorem dX9_doneSet_52 : decode cX9_doneSet 52 = .ok (.iload_n 2, 1) := by decide +kernel
theorem dX9_doneSet_53 : decode cX9_doneSet 53 = .ok (.ireturn, 1) := by decide +kernel
theorem dX9_told_0 : decode cX9_told 0 = .ok (.iload_n 1, 1) := by decide +kernel
theorem dX9_told_1 : decode cX9_told 1 = .ok (.tableswitch 98 0 8 #[51, 56, 61, 66, 71, 76, 81, 86, 92], 51) := by decide +kernel
theorem dX9_told_52 : decode cX9_told 52 = .ok (.aload_n 0, 1) := by decide +kernel
theorem dX9_told_53 : decode cX9_told 53 = .ok (.getfield 178, 3) := by decide +kernel
theorem dX9_told_56 : decode cX9_told 56 = .ok (.ireturn, 1) := by decide +kernel
theorem dX9_told_57 : decode cX9_told 57 = .ok (.aload_n 0, 1) := by decide +kernel
theorem dX9_told_58 : decode cX9_told 58 = .ok (.getfield 87, 3) := by decide +kernel
theorem dX9_told_61 : decode cX9_told 61 = .ok (.ireturn, 1) := by decide +kernel
theorem dX9_told_62 : decode cX9_told 62 = .ok (.aload_n 0, 1) := by decide +kernel
theorem dX9_told_63 : decode cX9_told 63 = .ok (.getfield 94, 3) := by decide +kernel
theorem dX9_told_66 : decode cX9_told 66 = .ok (.ireturn, 1) := by decide +kernel
theorem dX9_told_67 : decode cX9_told 67 = .ok (.aload_n 0, 1) := by decide +kernel
theorem dX9_told_68 : decode cX9_told 68 = .ok (.getfield 100, 3) := by decide +kernel
theorem dX9_told_71 : decode cX9_told 71 = .ok (.ireturn, 1) := by decide +kernel
theorem dX9_told_72 : decode cX9_told 72 = .ok (.aload_n 0, 1) := by decide +kernel
theorem dX9_told_73 : decode cX9_told 73 = .ok (.getfield 29, 3) := by decide +kernel
theorem dX9_told_76 : decode cX9_told 76 = .ok (.ireturn, 1) := by decide +kernel
theorem dX9_told_77 : decode cX9_told 77 = .ok (.aload_n 0, 1) := by decide +kernel
theorem dX9_told_78 : decode cX9_told 78 = .ok (.getfield 184, 3) := by decide +kernel
theorem dX9_told_81 : decode cX9_told 81 = .ok (.ireturn, 1) := by decide +kernel
theorem dX9_told_82 : decode cX9_told 82 = .ok (.aload_n 0, 1) := by decide +kernel
theorem dX9_told_83 : decode cX9_told 83 = .ok (.getfield 206, 3) := by decide +kernel
theorem dX9_told_86 : decode cX9_told 86 = .ok (.ireturn, 1) := by decide +kernel
theorem dX9_told_87 : decode cX9_told 87 = .ok (.aload_n 0, 1) := by decide +kernel
theorem dX9_told_88 : decode cX9_told 88 = .ok (.iconst 0, 1) := by decide +kernel
theorem dX9_told_89 : decode cX9_told 89 = .ok (.invokevirtual 209, 3) := by decide +kernel
theorem dX9_told_92 : decode cX9_told 92 = .ok (.ireturn, 1) := by decide +kernel
theorem dX9_told_93 : decode cX9_told 93 = .ok (.aload_n 0, 1) := by decide +kernel
theorem dX9_told_94 : decode cX9_told 94 = .ok (.iconst 1, 1) := by decide +kernel
theorem dX9_told_95 : decode cX9_told 95 = .ok (.invokevirtual 209, 3) := by decide +kernel
theorem dX9_told_98 : decode cX9_told 98 = .ok (.ireturn, 1) := by decide +kernel
theorem dX9_told_99 : decode cX9_told 99 = .ok (.ldc 99, 2) := by decide +kernel
theorem dX9_told_101 : decode cX9_told 101 = .ok (.ireturn, 1) := by decide +kernel
theorem dX9_isNote_0 : decode cX9_isNote 0 = .ok (.iload_n 1, 1) := by decide +kernel
theorem dX9_isNote_1 : decode cX9_isNote 1 = .ok (.i2l, 1) := by decide +kernel
theorem dX9_isNote_2 : decode cX9_isNote 2 = .ok (.lconst 0, 1) := by decide +kernel
theorem dX9_isNote_3 : decode cX9_isNote 3 = .ok (.aload_n 0, 1) := by decide +kernel
theorem dX9_isNote_4 : decode cX9_isNote 4 = .ok (.getfield 178, 3) := by decide +kernel
theorem dX9_isNote_7 : decode cX9_isNote 7 = .ok (.iconst 1, 1) := by decide +kernel
theorem dX9_isNote_8 : decode cX9_isNote 8 = .ok (.isub, 1) := by decide +kernel
theorem dX9_isNote_9 : decode cX9_isNote 9 = .ok (.i2l, 1) := by decide +kernel
theorem dX9_isNote_10 : decode cX9_isNote 10 = .ok (.invokestatic 90, 3) := by decide +kernel
theorem dX9_isNote_13 : decode cX9_isNote 13 = .ok (.ireturn, 1) := by decide +kernel
theorem dX9_note_0 : decode cX9_note 0 = .ok (.aload_n 0, 1) := by decide +kernel
theorem dX9_note_1 : decode cX9_note 1 = .ok (.iload_n 1, 1) := by decide +kernel
theorem dX9_note_2 : decode cX9_note 2 = .ok (.invokevirtual 212, 3) := by decide +kernel
theorem dX9_note_5 : decode cX9_note 5 = .ok (.ifCond .ne 6, 3) := by decide +kernel
theorem dX9_note_8 : decode cX9_note 8 = .ok (.ldc 216, 2) := by decide +kernel
theorem dX9_note_10 : decode cX9_note 10 = .ok (.ireturn, 1) := by decide +kernel
theorem dX9_note_11 : decode cX9_note 11 = .ok (.iload_n 2, 1) := by decide +kernel
theorem dX9_note_12 : decode cX9_note 12 = .ok (.ifCond .ne 12, 3) := by decide +kernel
theorem dX9_note_15 : decode cX9_note 15 = .ok (.aload_n 0, 1) := by decide +kernel
theorem dX9_note_16 : decode cX9_note 16 = .ok (.getfield 7, 3) := by decide +kernel
theorem dX9_note_19 : decode cX9_note 19 = .ok (.iload_n 1, 1) := by decide +kernel
theorem dX9_note_20 : decode cX9_note 20 = .ok (.iaload, 1) := by decide +kernel
theorem dX9_note_21 : decode cX9_note 21 = .ok (.goto 27, 3) := by decide +kernel
theorem dX9_note_24 : decode cX9_note 24 = .ok (.iload_n 2, 1) := by decide +kernel
theorem dX9_note_25 : decode cX9_note 25 = .ok (.iconst 1, 1) := by decide +kernel
theorem dX9_note_26 : decode cX9_note 26 = .ok (.if_icmp .ne 20, 3) := by decide +kernel
theorem dX9_note_29 : decode cX9_note 29 = .ok (.aload_n 0, 1) := by decide +kernel
theorem dX9_note_30 : decode cX9_note 30 = .ok (.getfield 13, 3) := by decide +kernel
theorem dX9_note_33 : decode cX9_note 33 = .ok (.iload_n 1, 1) := by decide +kernel
theorem dX9_note_34 : decode cX9_note 34 = .ok (.baload, 1) := by decide +kernel
theorem dX9_note_35 : decode cX9_note 35 = .ok (.ifCond .eq 7, 3) := by decide +kernel
theorem dX9_note_38 : decode cX9_note 38 = .ok (.iconst 1, 1) := by decide +kernel
theorem dX9_note_39 : decode cX9_note 39 = .ok (.goto 9, 3) := by decide +kernel
theorem dX9_note_42 : decode cX9_note 42 = .ok (.iconst 0, 1) := by decide +kernel
theorem dX9_note_43 : decode cX9_note 43 = .ok (.goto 5, 3) := by decide +kernel
theorem dX9_note_46 : decode cX9_note 46 = .ok (.ldc 99, 2) := by decide +kernel
theorem dX9_note_48 : decode cX9_note 48 = .ok (.ireturn, 1) := by decide +kernel
theorem dX9_singer_0 : decode cX9_singer 0 = .ok (.aload_n 0, 1) := by decide +kernel
theorem dX9_singer_1 : decode cX9_singer 1 = .ok (.iload_n 1, 1) := by decide +kernel
theorem dX9_singer_2 : decode cX9_singer 2 = .ok (.invokevirtual 217, 3) := by decide +kernel
theorem dX9_singer_5 : decode cX9_singer 5 = .ok (.ifCond .ne 6, 3) := by decide +kernel
theorem dX9_singer_8 : decode cX9_singer 8 = .ok (.ldc 216, 2) := by decide +kernel
theorem dX9_singer_10 : decode cX9_singer 10 = .ok (.ireturn, 1) := by decide +kernel
theorem dX9_singer_11 : decode cX9_singer 11 = .ok (.iload_n 2, 1) := by decide +kernel
theorem dX9_singer_12 : decode cX9_singer 12 = .ok (.i2l, 1) := by decide +kernel
theorem dX9_singer_13 : decode cX9_singer 13 = .ok (.lconst 0, 1) := by decide +kernel
theorem dX9_singer_14 : decode cX9_singer 14 = .ok (.ldc2_w 220, 3) := by decide +kernel
theorem dX9_singer_17 : decode cX9_singer 17 = .ok (.invokestatic 90, 3) := by decide +kernel
theorem dX9_singer_20 : decode cX9_singer 20 = .ok (.ifCond .eq 17, 3) := by decide +kernel
theorem dX9_singer_23 : decode cX9_singer 23 = .ok (.aload_n 0, 1) := by decide +kernel
theorem dX9_singer_24 : decode cX9_singer 24 = .ok (.getfield 17, 3) := by decide +kernel
theorem dX9_singer_27 : decode cX9_singer 27 = .ok (.bipush 8, 2) := by decide +kernel
theorem dX9_singer_29 : decode cX9_singer 29 = .ok (.iload_n 1, 1) := by decide +kernel
theorem dX9_singer_30 : decode cX9_singer 30 = .ok (.imul, 1) := by decide +kernel
theorem dX9_singer_31 : decode cX9_singer 31 = .ok (.iload_n 2, 1) := by decide +kernel
theorem dX9_singer_32 : decode cX9_singer 32 = .ok (.iadd, 1) := by decide +kernel
theorem dX9_singer_33 : decode cX9_singer 33 = .ok (.iaload, 1) := by decide +kernel
theorem dX9_singer_34 : decode cX9_singer 34 = .ok (.goto 5, 3) := by decide +kernel
theorem dX9_singer_37 : decode cX9_singer 37 = .ok (.ldc 99, 2) := by decide +kernel
theorem dX9_singer_39 : decode cX9_singer 39 = .ok (.ireturn, 1) := by decide +kernel
theorem dX9_task_0 : decode cX9_task 0 = .ok (.aload_n 0, 1) := by decide +kernel
theorem dX9_task_1 : decode cX9_task 1 = .ok (.iload_n 1, 1) := by decide +kernel
theorem dX9_task_2 : decode cX9_task 2 = .ok (.invokevirtual 222, 3) := by decide +kernel
theorem dX9_task_5 : decode cX9_task 5 = .ok (.ifCond .ne 6, 3) := by decide +kernel
theorem dX9_task_8 : decode cX9_task 8 = .ok (.ldc 216, 2) := by decide +kernel
theorem dX9_task_10 : decode cX9_task 10 = .ok (.ireturn, 1) := by decide +kernel
theorem dX9_task_11 : decode cX9_task 11 = .ok (.iload_n 2, 1) := by decide +kernel
theorem dX9_task_12 : decode cX9_task 12 = .ok (.i2l, 1) := by decide +kernel
theorem dX9_task_13 : decode cX9_task 13 = .ok (.lconst 0, 1) := by decide +kernel
theorem dX9_task_14 : decode cX9_task 14 = .ok (.ldc2_w 225, 3) := by decide +kernel
theorem dX9_task_17 : decode cX9_task 17 = .ok (.invokestatic 90, 3) := by decide +kernel
theorem dX9_task_20 : decode cX9_task 20 = .ok (.ifCond .eq 16, 3) := by decide +kernel
theorem dX9_task_23 : decode cX9_task 23 = .ok (.aload_n 0, 1) := by decide +kernel
theorem dX9_task_24 : decode cX9_task 24 = .ok (.getfield 20, 3) := by decide +kernel
theorem dX9_task_27 : decode cX9_task 27 = .ok (.iconst 4, 1) := by decide +kernel
theorem dX9_task_28 : decode cX9_task 28 = .ok (.iload_n 1, 1) := by decide +kernel
theorem dX9_task_29 : decode cX9_task 29 = .ok (.imul, 1) := by decide +kernel
theorem dX9_task_30 : decode cX9_task 30 = .ok (.iload_n 2, 1) := by decide +kernel
theorem dX9_task_31 : decode cX9_task 31 = .ok (.iadd, 1) := by decide +kernel
theorem dX9_task_32 : decode cX9_task 32 = .ok (.iaload, 1) := by decide +kernel
theorem dX9_task_33 : decode cX9_task 33 = .ok (.goto 5, 3) := by decide +kernel
theorem dX9_task_36 : decode cX9_task 36 = .ok (.ldc 99, 2) := by decide +kernel
theorem dX9_task_38 : decode cX9_task 38 = .ok (.ireturn, 1) := by decide +kernel
theorem dX9_draw_0 : decode cX9_draw 0 = .ok (.aload_n 0, 1) := by decide +kernel
theorem dX9_draw_1 : decode cX9_draw 1 = .ok (.aload_n 0, 1) := by decide +kernel
theorem dX9_draw_2 : decode cX9_draw 2 = .ok (.getfield 227, 3) := by decide +kernel
theorem dX9_draw_5 : decode cX9_draw 5 = .ok (.i2l, 1) := by decide +kernel
theorem dX9_draw_6 : decode cX9_draw 6 = .ok (.ldc2_w 230, 3) := by decide +kernel
theorem dX9_draw_9 : decode cX9_draw 9 = .ok (.lmul, 1) := by decide +kernel
theorem dX9_draw_10 : decode cX9_draw 10 = .ok (.ldc2_w 232, 3) := by decide +kernel
theorem dX9_draw_13 : decode cX9_draw 13 = .ok (.ladd, 1) := by decide +kernel
theorem dX9_draw_14 : decode cX9_draw 14 = .ok (.ldc2_w 234, 3) := by decide +kernel
theorem dX9_draw_17 : decode cX9_draw 17 = .ok (.lrem, 1) := by decide +kernel
theorem dX9_draw_18 : decode cX9_draw 18 = .ok (.l2i, 1) := by decide +kernel
theorem dX9_draw_19 : decode cX9_draw 19 = .ok (.putfield 227, 3) := by decide +kernel
theorem dX9_draw_22 : decode cX9_draw 22 = .ok (.aload_n 0, 1) := by decide +kernel
theorem dX9_draw_23 : decode cX9_draw 23 = .ok (.getfield 227, 3) := by decide +kernel
theorem dX9_draw_26 : decode cX9_draw 26 = .ok (.ldc 236, 2) := by decide +kernel
theorem dX9_draw_28 : decode cX9_draw 28 = .ok (.idiv, 1) := by decide +kernel
theorem dX9_draw_29 : decode cX9_draw 29 = .ok (.iload_n 1, 1) := by decide +kernel
theorem dX9_draw_30 : decode cX9_draw 30 = .ok (.irem, 1) := by decide +kernel
theorem dX9_draw_31 : decode cX9_draw 31 = .ok (.ireturn, 1) := by decide +kernel
theorem dX9_highOf_0 : decode cX9_highOf 0 = .ok (.aload_n 0, 1) := by decide +kernel
theorem dX9_highOf_1 : decode cX9_highOf 1 = .ok (.getfield 17, 3) := by decide +kernel
theorem dX9_highOf_4 : decode cX9_highOf 4 = .ok (.bipush 8, 2) := by decide +kernel
theorem dX9_highOf_6 : decode cX9_highOf 6 = .ok (.iload_n 1, 1) := by decide +kernel
theorem dX9_highOf_7 : decode cX9_highOf 7 = .ok (.imul, 1) := by decide +kernel
theorem dX9_highOf_8 : decode cX9_highOf 8 = .ok (.bipush 6, 2) := by decide +kernel
theorem dX9_highOf_10 : decode cX9_highOf 10 = .ok (.iadd, 1) := by decide +kernel
theorem dX9_highOf_11 : decode cX9_highOf 11 = .ok (.iaload, 1) := by decide +kernel
theorem dX9_highOf_12 : decode cX9_highOf 12 = .ok (.istore_n 2, 1) := by decide +kernel
theorem dX9_highOf_13 : decode cX9_highOf 13 = .ok (.aload_n 0, 1) := by decide +kernel
theorem dX9_highOf_14 : decode cX9_highOf 14 = .ok (.getfield 17, 3) := by decide +kernel
theorem dX9_highOf_17 : decode cX9_highOf 17 = .ok (.bipush 8, 2) := by decide +kernel
theorem dX9_highOf_19 : decode cX9_highOf 19 = .ok (.iload_n 1, 1) := by decide +kernel
theorem dX9_highOf_20 : decode cX9_highOf 20 = .ok (.imul, 1) := by decide +kernel
theorem dX9_highOf_21 : decode cX9_highOf 21 = .ok (.iconst 5, 1) := by decide +kernel
theorem dX9_highOf_22 : decode cX9_highOf 22 = .ok (.iadd, 1) := by decide +kernel
theorem dX9_highOf_23 : decode cX9_highOf 23 = .ok (.iaload, 1) := by decide +kernel
theorem dX9_highOf_24 : decode cX9_highOf 24 = .ok (.iconst 5, 1) := by decide +kernel
theorem dX9_highOf_25 : decode cX9_highOf 25 = .ok (.iadd, 1) := by decide +kernel
theorem dX9_highOf_26 : decode cX9_highOf 26 = .ok (.istore_n 3, 1) := by decide +kernel
theorem dX9_highOf_27 : decode cX9_highOf 27 = .ok (.aload_n 0, 1) := by decide +kernel
theorem dX9_highOf_28 : decode cX9_highOf 28 = .ok (.getfield 17, 3) := by decide +kernel
theorem dX9_highOf_31 : decode cX9_highOf 31 = .ok (.bipush 8, 2) := by decide +kernel
theorem dX9_highOf_33 : decode cX9_highOf 33 = .ok (.iload_n 1, 1) := by decide +kernel
theorem dX9_highOf_34 : decode cX9_highOf 34 = .ok (.imul, 1) := by decide +kernel
theorem dX9_highOf_35 : decode cX9_highOf 35 = .ok (.iaload, 1) := by decide +kernel
theorem dX9_highOf_36 : decode cX9_highOf 36 = .ok (.iconst 3, 1) := by decide +kernel
theorem dX9_highOf_37 : decode cX9_highOf 37 = .ok (.if_icmp .ne 12, 3) := by decide +kernel
theorem dX9_highOf_40 : decode cX9_highOf 40 = .ok (.iload_n 3, 1) := by decide +kernel
theorem dX9_highOf_41 : decode cX9_highOf 41 = .ok (.iload_n 2, 1) := by decide +kernel
theorem dX9_highOf_42 : decode cX9_highOf 42 = .ok (.if_icmp .ge 7, 3) := by decide +kernel
theorem dX9_highOf_45 : decode cX9_highOf 45 = .ok (.iload_n 3, 1) := by decide +kernel
theorem dX9_highOf_46 : decode cX9_highOf 46 = .ok (.goto 4, 3) := by decide +kernel
theorem dX9_highOf_49 : decode cX9_highOf 49 = .ok (.iload_n 2, 1) := by decide +kernel
theorem dX9_highOf_50 : decode cX9_highOf 50 = .ok (.ireturn, 1) := by decide +kernel
theorem dX9_heldTo_0 : decode cX9_heldTo 0 = .ok (.bipush 100, 2) := by decide +kernel
theorem dX9_heldTo_2 : decode cX9_heldTo 2 = .ok (.aload_n 0, 1) := by decide +kernel
theorem dX9_heldTo_3 : decode cX9_heldTo 3 = .ok (.getfield 17, 3) := by decide +kernel
theorem dX9_heldTo_6 : decode cX9_heldTo 6 = .ok (.bipush 8, 2) := by decide +kernel
theorem dX9_heldTo_8 : decode cX9_heldTo 8 = .ok (.iload_n 1, 1) := by decide +kernel
theorem dX9_heldTo_9 : decode cX9_heldTo 9 = .ok (.imul, 1) := by decide +kernel
theorem dX9_heldTo_10 : decode cX9_heldTo 10 = .ok (.iconst 5, 1) := by decide +kernel
theorem dX9_heldTo_11 : decode cX9_heldTo 11 = .ok (.iadd, 1) := by decide +kernel
theorem dX9_heldTo_12 : decode cX9_heldTo 12 = .ok (.iaload, 1) := by decide +kernel
theorem dX9_heldTo_13 : decode cX9_heldTo 13 = .ok (.imul, 1) := by decide +kernel
theorem dX9_heldTo_14 : decode cX9_heldTo 14 = .ok (.istore_n 3, 1) := by decide +kernel
theorem dX9_heldTo_15 : decode cX9_heldTo 15 = .ok (.bipush 100, 2) := by decide +kernel
theorem dX9_heldTo_17 : decode cX9_heldTo 17 = .ok (.aload_n 0, 1) := by decide +kernel
theorem dX9_heldTo_18 : decode cX9_heldTo 18 = .ok (.iload_n 1, 1) := by decide +kernel
theorem dX9_heldTo_19 : decode cX9_heldTo 19 = .ok (.invokevirtual 237, 3) := by decide +kernel
theorem dX9_heldTo_22 : decode cX9_heldTo 22 = .ok (.imul, 1) := by decide +kernel
theorem dX9_heldTo_23 : decode cX9_heldTo 23 = .ok (.istore 4, 2) := by decide +kernel
theorem dX9_heldTo_25 : decode cX9_heldTo 25 = .ok (.iload_n 2, 1) := by decide +kernel
theorem dX9_heldTo_26 : decode cX9_heldTo 26 = .ok (.iload_n 3, 1) := by decide +kernel
theorem dX9_heldTo_27 : decode cX9_heldTo 27 = .ok (.if_icmp .ge 7, 3) := by decide +kernel
theorem dX9_heldTo_30 : decode cX9_heldTo 30 = .ok (.iload_n 3, 1) := by decide +kernel
theorem dX9_heldTo_31 : decode cX9_heldTo 31 = .ok (.goto 15, 3) := by decide +kernel
theorem dX9_heldTo_34 : decode cX9_heldTo 34 = .ok (.iload_n 2, 1) := by decide +kernel
theorem dX9_heldTo_35 : decode cX9_heldTo 35 = .ok (.iload 4, 2) := by decide +kernel
theorem dX9_heldTo_37 : decode cX9_heldTo 37 = .ok (.if_icmp .le 8, 3) := by decide +kernel
theorem dX9_heldTo_40 : decode cX9_heldTo 40 = .ok (.iload 4, 2) := by decide +kernel
theorem dX9_heldTo_42 : decode cX9_heldTo 42 = .ok (.goto 4, 3) := by decide +kernel
theorem dX9_heldTo_45 : decode cX9_heldTo 45 = .ok (.iload_n 2, 1) := by decide +kernel
theorem dX9_heldTo_46 : decode cX9_heldTo 46 = .ok (.ireturn, 1) := by decide +kernel
theorem dX9_firstAim_0 : decode cX9_firstAim 0 = .ok (.aload_n 0, 1) := by decide +kernel
theorem dX9_firstAim_1 : decode cX9_firstAim 1 = .ok (.getfield 7, 3) := by decide +kernel
theorem dX9_firstAim_4 : decode cX9_firstAim 4 = .ok (.iconst 0, 1) := by decide +kernel
theorem dX9_firstAim_5 : decode cX9_firstAim 5 = .ok (.iaload, 1) := by decide +kernel
theorem dX9_firstAim_6 : decode cX9_firstAim 6 = .ok (.iload_n 1, 1) := by decide +kernel
theorem dX9_firstAim_7 : decode cX9_firstAim 7 = .ok (.ifCond .ne 18, 3) := by decide +kernel
theorem dX9_firstAim_10 : decode cX9_firstAim 10 = .ok (.bipush 100, 2) := by decide +kernel
theorem dX9_firstAim_12 : decode cX9_firstAim 12 = .ok (.aload_n 0, 1) := by decide +kernel
theorem dX9_firstAim_13 : decode cX9_firstAim 13 = .ok (.bipush 13, 2) := by decide +kernel
theorem dX9_firstAim_15 : decode cX9_firstAim 15 = .ok (.invokevirtual 240, 3) := by decide +kernel
theorem dX9_firstAim_18 : decode cX9_firstAim 18 = .ok (.bipush 6, 2) := by decide +kernel
theorem dX9_firstAim_20 : decode cX9_firstAim 20 = .ok (.isub, 1) := by decide +kernel
theorem dX9_firstAim_21 : decode cX9_firstAim 21 = .ok (.imul, 1) := by decide +kernel
theorem dX9_firstAim_22 : decode cX9_firstAim 22 = .ok (.goto 23, 3) := by decide +kernel
theorem dX9_firstAim_25 : decode cX9_firstAim 25 = .ok (.iload_n 1, 1) := by decide +kernel
theorem dX9_firstAim_26 : decode cX9_firstAim 26 = .ok (.iconst 1, 1) := by decide +kernel
theorem dX9_firstAim_27 : decode cX9_firstAim 27 = .ok (.if_icmp .ne 17, 3) := by decide +kernel
theorem dX9_firstAim_30 : decode cX9_firstAim 30 = .ok (.sipush 1200, 3) := by decide +kernel
theorem dX9_firstAim_33 : decode cX9_firstAim 33 = .ok (.aload_n 0, 1) := by decide +kernel
theorem dX9_firstAim_34 : decode cX9_firstAim 34 = .ok (.iconst 2, 1) := by decide +kernel
theorem dX9_firstAim_35 : decode cX9_firstAim 35 = .ok (.invokevirtual 240, 3) := by decide +kernel
theorem dX9_firstAim_38 : decode cX9_firstAim 38 = .ok (.iconst 1, 1) := by decide +kernel
theorem dX9_firstAim_39 : decode cX9_firstAim 39 = .ok (.isub, 1) := by decide +kernel
theorem dX9_firstAim_40 : decode cX9_firstAim 40 = .ok (.imul, 1) := by decide +kernel
theorem dX9_firstAim_41 : decode cX9_firstAim 41 = .ok (.goto 4, 3) := by decide +kernel
theorem dX9_firstAim_44 : decode cX9_firstAim 44 = .ok (.iconst 0, 1) := by decide +kernel
theorem dX9_firstAim_45 : decode cX9_firstAim 45 = .ok (.iadd, 1) := by decide +kernel
theorem dX9_firstAim_46 : decode cX9_firstAim 46 = .ok (.ireturn, 1) := by decide +kernel
theorem dX9_nextAim_0 : decode cX9_nextAim 0 = .ok (.aload_n 0, 1) := by decide +kernel
theorem dX9_nextAim_1 : decode cX9_nextAim 1 = .ok (.getfield 17, 3) := by decide +kernel
theorem dX9_nextAim_4 : decode cX9_nextAim 4 = .ok (.bipush 8, 2) := by decide +kernel
theorem dX9_nextAim_6 : decode cX9_nextAim 6 = .ok (.iload_n 1, 1) := by decide +kernel
theorem dX9_nextAim_7 : decode cX9_nextAim 7 = .ok (.imul, 1) := by decide +kernel
theorem dX9_nextAim_8 : decode cX9_nextAim 8 = .ok (.iaload, 1) := by decide +kernel
theorem dX9_nextAim_9 : decode cX9_nextAim 9 = .ok (.istore 5, 2) := by decide +kernel
theorem dX9_nextAim_11 : decode cX9_nextAim 11 = .ok (.iload 5, 2) := by decide +kernel
theorem dX9_nextAim_13 : decode cX9_nextAim 13 = .ok (.iconst 5, 1) := by decide +kernel
theorem dX9_nextAim_14 : decode cX9_nextAim 14 = .ok (.if_icmp .ne 22, 3) := by decide +kernel
theorem dX9_nextAim_17 : decode cX9_nextAim 17 = .ok (.aload_n 0, 1) := by decide +kernel
theorem dX9_nextAim_18 : decode cX9_nextAim 18 = .ok (.getfield 17, 3) := by decide +kernel
theorem dX9_nextAim_21 : decode cX9_nextAim 21 = .ok (.bipush 8, 2) := by decide +kernel
theorem dX9_nextAim_23 : decode cX9_nextAim 23 = .ok (.iload_n 1, 1) := by decide +kernel
theorem dX9_nextAim_24 : decode cX9_nextAim 24 = .ok (.imul, 1) := by decide +kernel
theorem dX9_nextAim_25 : decode cX9_nextAim 25 = .ok (.iconst 4, 1) := by decide +kernel
theorem dX9_nextAim_26 : decode cX9_nextAim 26 = .ok (.iadd, 1) := by decide +kernel
theorem dX9_nextAim_27 : decode cX9_nextAim 27 = .ok (.iaload, 1) := by decide +kernel
theorem dX9_nextAim_28 : decode cX9_nextAim 28 = .ok (.iconst 3, 1) := by decide +kernel
theorem dX9_nextAim_29 : decode cX9_nextAim 29 = .ok (.if_icmp .le 7, 3) := by decide +kernel
theorem dX9_nextAim_32 : decode cX9_nextAim 32 = .ok (.iconst 3, 1) := by decide +kernel
theorem dX9_nextAim_33 : decode cX9_nextAim 33 = .ok (.goto 14, 3) := by decide +kernel
theorem dX9_nextAim_36 : decode cX9_nextAim 36 = .ok (.aload_n 0, 1) := by decide +kernel
theorem dX9_nextAim_37 : decode cX9_nextAim 37 = .ok (.getfield 17, 3) := by decide +kernel
theorem dX9_nextAim_40 : decode cX9_nextAim 40 = .ok (.bipush 8, 2) := by decide +kernel
theorem dX9_nextAim_42 : decode cX9_nextAim 42 = .ok (.iload_n 1, 1) := by decide +kernel
theorem dX9_nextAim_43 : decode cX9_nextAim 43 = .ok (.imul, 1) := by decide +kernel
theorem dX9_nextAim_44 : decode cX9_nextAim 44 = .ok (.iconst 4, 1) := by decide +kernel
theorem dX9_nextAim_45 : decode cX9_nextAim 45 = .ok (.iadd, 1) := by decide +kernel
theorem dX9_nextAim_46 : decode cX9_nextAim 46 = .ok (.iaload, 1) := by decide +kernel
theorem dX9_nextAim_47 : decode cX9_nextAim 47 = .ok (.istore 6, 2) := by decide +kernel
theorem dX9_nextAim_49 : decode cX9_nextAim 49 = .ok (.iload 5, 2) := by decide +kernel
theorem dX9_nextAim_51 : decode cX9_nextAim 51 = .ok (.iconst 1, 1) := by decide +kernel
theorem dX9_nextAim_52 : decode cX9_nextAim 52 = .ok (.if_icmp .eq 12, 3) := by decide +kernel
theorem dX9_nextAim_55 : decode cX9_nextAim 55 = .ok (.iload 4, 2) := by decide +kernel
theorem dX9_nextAim_57 : decode cX9_nextAim 57 = .ok (.iload 6, 2) := by decide +kernel
theorem dX9_nextAim_59 : decode cX9_nextAim 59 = .ok (.if_icmp .lt 5, 3) := by decide +kernel
theorem dX9_nextAim_62 : decode cX9_nextAim 62 = .ok (.iload_n 2, 1) := by decide +kernel
theorem dX9_nextAim_63 : decode cX9_nextAim 63 = .ok (.ireturn, 1) := by decide +kernel
theorem dX9_nextAim_64 : decode cX9_nextAim 64 = .ok (.aload_n 0, 1) := by decide +kernel
theorem dX9_nextAim_65 : decode cX9_nextAim 65 = .ok (.getfield 7, 3) := by decide +kernel
theorem dX9_nextAim_68 : decode cX9_nextAim 68 = .ok (.iload_n 3, 1) := by decide +kernel
theorem dX9_nextAim_69 : decode cX9_nextAim 69 = .ok (.iaload, 1) := by decide +kernel
theorem dX9_nextAim_70 : decode cX9_nextAim 70 = .ok (.aload_n 0, 1) := by decide +kernel
theorem dX9_nextAim_71 : decode cX9_nextAim 71 = .ok (.getfield 7, 3) := by decide +kernel
theorem dX9_nextAim_74 : decode cX9_nextAim 74 = .ok (.iload_n 3, 1) := by decide +kernel
theorem dX9_nextAim_75 : decode cX9_nextAim 75 = .ok (.iconst 1, 1) := by decide +kernel
theorem dX9_nextAim_76 : decode cX9_nextAim 76 = .ok (.isub, 1) := by decide +kernel
theorem dX9_nextAim_77 : decode cX9_nextAim 77 = .ok (.iaload, 1) := by decide +kernel
theorem dX9_nextAim_78 : decode cX9_nextAim 78 = .ok (.isub, 1) := by decide +kernel
theorem dX9_nextAim_79 : decode cX9_nextAim 79 = .ok (.istore 7, 2) := by decide +kernel
theorem dX9_nextAim_81 : decode cX9_nextAim 81 = .ok (.iload 5, 2) := by decide +kernel
theorem dX9_nextAim_83 : decode cX9_nextAim 83 = .ok (.bipush 6, 2) := by decide +kernel
theorem dX9_nextAim_85 : decode cX9_nextAim 85 = .ok (.if_icmp .ne 7, 3) := by decide +kernel
theorem dX9_nextAim_88 : decode cX9_nextAim 88 = .ok (.iconst 2, 1) := by decide +kernel
theorem dX9_nextAim_89 : decode cX9_nextAim 89 = .ok (.goto 4, 3) := by decide +kernel
theorem dX9_nextAim_92 : decode cX9_nextAim 92 = .ok (.iconst 1, 1) := by decide +kernel
theorem dX9_nextAim_93 : decode cX9_nextAim 93 = .ok (.aload_n 0, 1) := by decide +kernel
theorem dX9_nextAim_94 : decode cX9_nextAim 94 = .ok (.getfield 17, 3) := by decide +kernel
theorem dX9_nextAim_97 : decode cX9_nextAim 97 = .ok (.bipush 8, 2) := by decide +kernel
theorem dX9_nextAim_99 : decode cX9_nextAim 99 = .ok (.iload_n 1, 1) := by decide +kernel
theorem dX9_nextAim_100 : decode cX9_nextAim 100 = .ok (.imul, 1) := by decide +kernel
theorem dX9_nextAim_101 : decode cX9_nextAim 101 = .ok (.iconst 1, 1) := by decide +kernel
theorem dX9_nextAim_102 : decode cX9_nextAim 102 = .ok (.iadd, 1) := by decide +kernel
theorem dX9_nextAim_103 : decode cX9_nextAim 103 = .ok (.iaload, 1) := by decide +kernel
theorem dX9_nextAim_104 : decode cX9_nextAim 104 = .ok (.imul, 1) := by decide +kernel
theorem dX9_nextAim_105 : decode cX9_nextAim 105 = .ok (.bipush 50, 2) := by decide +kernel
theorem dX9_nextAim_107 : decode cX9_nextAim 107 = .ok (.iadd, 1) := by decide +kernel
theorem dX9_nextAim_108 : decode cX9_nextAim 108 = .ok (.istore 8, 2) := by decide +kernel
theorem dX9_nextAim_110 : decode cX9_nextAim 110 = .ok (.iload 5, 2) := by decide +kernel
theorem dX9_nextAim_112 : decode cX9_nextAim 112 = .ok (.iconst 1, 1) := by decide +kernel
theorem dX9_nextAim_113 : decode cX9_nextAim 113 = .ok (.if_icmp .ne 7, 3) := by decide +kernel
theorem dX9_nextAim_116 : decode cX9_nextAim 116 = .ok (.iconst 0, 1) := by decide +kernel
theorem dX9_nextAim_117 : decode cX9_nextAim 117 = .ok (.goto 27, 3) := by decide +kernel
theorem dX9_nextAim_120 : decode cX9_nextAim 120 = .ok (.iload 5, 2) := by decide +kernel
theorem dX9_nextAim_122 : decode cX9_nextAim 122 = .ok (.iconst 2, 1) := by decide +kernel
theorem dX9_nextAim_123 : decode cX9_nextAim 123 = .ok (.if_icmp .ne 7, 3) := by decide +kernel
theorem dX9_nextAim_126 : decode cX9_nextAim 126 = .ok (.iconst 2, 1) := by decide +kernel
theorem dX9_nextAim_127 : decode cX9_nextAim 127 = .ok (.goto 4, 3) := by decide +kernel
theorem dX9_nextAim_130 : decode cX9_nextAim 130 = .ok (.iconst 1, 1) := by decide +kernel
theorem dX9_nextAim_131 : decode cX9_nextAim 131 = .ok (.aload_n 0, 1) := by decide +kernel
theorem dX9_nextAim_132 : decode cX9_nextAim 132 = .ok (.getfield 17, 3) := by decide +kernel
theorem dX9_nextAim_135 : decode cX9_nextAim 135 = .ok (.bipush 8, 2) := by decide +kernel
theorem dX9_nextAim_137 : decode cX9_nextAim 137 = .ok (.iload_n 1, 1) := by decide +kernel
theorem dX9_nextAim_138 : decode cX9_nextAim 138 = .ok (.imul, 1) := by decide +kernel
theorem dX9_nextAim_139 : decode cX9_nextAim 139 = .ok (.bipush 7, 2) := by decide +kernel
theorem dX9_nextAim_141 : decode cX9_nextAim 141 = .ok (.iadd, 1) := by decide +kernel
theorem dX9_nextAim_142 : decode cX9_nextAim 142 = .ok (.iaload, 1) := by decide +kernel
theorem dX9_nextAim_143 : decode cX9_nextAim 143 = .ok (.imul, 1) := by decide +kernel
theorem dX9_nextAim_144 : decode cX9_nextAim 144 = .ok (.istore 9, 2) := by decide +kernel
theorem dX9_nextAim_146 : decode cX9_nextAim 146 = .ok (.iload_n 2, 1) := by decide +kernel
theorem dX9_nextAim_147 : decode cX9_nextAim 147 = .ok (.iload 5, 2) := by decide +kernel
theorem dX9_nextAim_149 : decode cX9_nextAim 149 = .ok (.iconst 1, 1) := by decide +kernel
theorem dX9_nextAim_150 : decode cX9_nextAim 150 = .ok (.if_icmp .eq 17, 3) := by decide +kernel
theorem dX9_nextAim_153 : decode cX9_nextAim 153 = .ok (.iload 7, 2) := by decide +kernel
theorem dX9_nextAim_155 : decode cX9_nextAim 155 = .ok (.invokestatic 243, 3) := by decide +kernel
theorem dX9_nextAim_158 : decode cX9_nextAim 158 = .ok (.iload 8, 2) := by decide +kernel
theorem dX9_nextAim_160 : decode cX9_nextAim 160 = .ok (.if_icmp .gt 7, 3) := by decide +kernel
theorem dX9_nextAim_163 : decode cX9_nextAim 163 = .ok (.iconst 0, 1) := by decide +kernel
theorem dX9_nextAim_164 : decode cX9_nextAim 164 = .ok (.goto 5, 3) := by decide +kernel
theorem dX9_nextAim_167 : decode cX9_nextAim 167 = .ok (.iload 7, 2) := by decide +kernel
theorem dX9_nextAim_169 : decode cX9_nextAim 169 = .ok (.iadd, 1) := by decide +kernel
theorem dX9_nextAim_170 : decode cX9_nextAim 170 = .ok (.iload 9, 2) := by decide +kernel
theorem dX9_nextAim_172 : decode cX9_nextAim 172 = .ok (.iadd, 1) := by decide +kernel
theorem dX9_nextAim_173 : decode cX9_nextAim 173 = .ok (.ireturn, 1) := by decide +kernel
theorem dX9_swing_0 : decode cX9_swing 0 = .ok (.aload_n 0, 1) := by decide +kernel
theorem dX9_swing_1 : decode cX9_swing 1 = .ok (.getfield 17, 3) := by decide +kernel
theorem dX9_swing_4 : decode cX9_swing 4 = .ok (.bipush 8, 2) := by decide +kernel
theorem dX9_swing_6 : decode cX9_swing 6 = .ok (.iload_n 1, 1) := by decide +kernel
theorem dX9_swing_7 : decode cX9_swing 7 = .ok (.imul, 1) := by decide +kernel
theorem dX9_swing_8 : decode cX9_swing 8 = .ok (.iconst 3, 1) := by decide +kernel
theorem dX9_swing_9 : decode cX9_swing 9 = .ok (.iadd, 1) := by decide +kernel
theorem dX9_swing_10 : decode cX9_swing 10 = .ok (.iaload, 1) := by decide +kernel
theorem dX9_swing_11 : decode cX9_swing 11 = .ok (.istore 4, 2) := by decide +kernel
theorem dX9_swing_13 : decode cX9_swing 13 = .ok (.iload_n 3, 1) := by decide +kernel
theorem dX9_swing_14 : decode cX9_swing 14 = .ok (.ifCond .eq 20, 3) := by decide +kernel
theorem dX9_swing_17 : decode cX9_swing 17 = .ok (.iload_n 2, 1) := by decide +kernel
theorem dX9_swing_18 : decode cX9_swing 18 = .ok (.iconst 2, 1) := by decide +kernel
theorem dX9_swing_19 : decode cX9_swing 19 = .ok (.irem, 1) := by decide +kernel
theorem dX9_swing_20 : decode cX9_swing 20 = .ok (.ifCond .ne 8, 3) := by decide +kernel
theorem dX9_swing_23 : decode cX9_swing 23 = .ok (.iload 4, 2) := by decide +kernel
theorem dX9_swing_25 : decode cX9_swing 25 = .ok (.goto 22, 3) := by decide +kernel
theorem dX9_swing_28 : decode cX9_swing 28 = .ok (.iload 4, 2) := by decide +kernel
theorem dX9_swing_30 : decode cX9_swing 30 = .ok (.ineg, 1) := by decide +kernel
theorem dX9_swing_31 : decode cX9_swing 31 = .ok (.goto 16, 3) := by decide +kernel
theorem dX9_swing_34 : decode cX9_swing 34 = .ok (.aload_n 0, 1) := by decide +kernel
theorem dX9_swing_35 : decode cX9_swing 35 = .ok (.iconst 2, 1) := by decide +kernel
theorem dX9_swing_36 : decode cX9_swing 36 = .ok (.iload 4, 2) := by decide +kernel
theorem dX9_swing_38 : decode cX9_swing 38 = .ok (.imul, 1) := by decide +kernel
theorem dX9_swing_39 : decode cX9_swing 39 = .ok (.iconst 1, 1) := by decide +kernel
theorem dX9_swing_40 : decode cX9_swing 40 = .ok (.iadd, 1) := by decide +kernel
theorem dX9_swing_41 : decode cX9_swing 41 = .ok (.invokevirtual 240, 3) := by decide +kernel
theorem dX9_swing_44 : decode cX9_swing 44 = .ok (.iload 4, 2) := by decide +kernel
theorem dX9_swing_46 : decode cX9_swing 46 = .ok (.isub, 1) := by decide +kernel
theorem dX9_swing_47 : decode cX9_swing 47 = .ok (.ireturn, 1) := by decide +kernel
theorem dX9_singInto_0 : decode cX9_singInto 0 = .ok (.aload_n 0, 1) := by decide +kernel
theorem dX9_singInto_1 : decode cX9_singInto 1 = .ok (.getfield 17, 3) := by decide +kernel
theorem dX9_singInto_4 : decode cX9_singInto 4 = .ok (.bipush 8, 2) := by decide +kernel
theorem dX9_singInto_6 : decode cX9_singInto 6 = .ok (.iload_n 2, 1) := by decide +kernel
theorem dX9_singInto_7 : decode cX9_singInto 7 = .ok (.imul, 1) := by decide +kernel
theorem dX9_singInto_8 : decode cX9_singInto 8 = .ok (.iaload, 1) := by decide +kernel
theorem dX9_singInto_9 : decode cX9_singInto 9 = .ok (.istore 5, 2) := by decide +kernel
theorem dX9_singInto_11 : decode cX9_singInto 11 = .ok (.iconst 0, 1) := by decide +kernel
theorem dX9_singInto_12 : decode cX9_singInto 12 = .ok (.istore 6, 2) := by decide +kernel
theorem dX9_singInto_14 : decode cX9_singInto 14 = .ok (.iconst 0, 1) := by decide +kernel
theorem dX9_singInto_15 : decode cX9_singInto 15 = .ok (.istore 7, 2) := by decide +kernel
theorem dX9_singInto_17 : decode cX9_singInto 17 = .ok (.iconst 0, 1) := by decide +kernel
theorem dX9_singInto_18 : decode cX9_singInto 18 = .ok (.istore 8, 2) := by decide +kernel
theorem dX9_singInto_20 : decode cX9_singInto 20 = .ok (.iload 8, 2) := by decide +kernel
theorem dX9_singInto_22 : decode cX9_singInto 22 = .ok (.aload_n 0, 1) := by decide +kernel
theorem dX9_singInto_23 : decode cX9_singInto 23 = .ok (.getfield 178, 3) := by decide +kernel
theorem dX9_singInto_26 : decode cX9_singInto 26 = .ok (.if_icmp .ge 145, 3) := by decide +kernel
theorem dX9_singInto_29 : decode cX9_singInto 29 = .ok (.aload_n 0, 1) := by decide +kernel
theorem dX9_singInto_30 : decode cX9_singInto 30 = .ok (.getfield 13, 3) := by decide +kernel
theorem dX9_singInto_33 : decode cX9_singInto 33 = .ok (.iload 8, 2) := by decide +kernel
theorem dX9_singInto_35 : decode cX9_singInto 35 = .ok (.baload, 1) := by decide +kernel
theorem dX9_singInto_36 : decode cX9_singInto 36 = .ok (.ifCond .eq 7, 3) := by decide +kernel
theorem dX9_singInto_39 : decode cX9_singInto 39 = .ok (.iconst 0, 1) := by decide +kernel
theorem dX9_singInto_40 : decode cX9_singInto 40 = .ok (.goto 5, 3) := by decide +kernel
theorem dX9_singInto_43 : decode cX9_singInto 43 = .ok (.iload 7, 2) := by decide +kernel
theorem dX9_singInto_45 : decode cX9_singInto 45 = .ok (.istore 7, 2) := by decide +kernel
theorem dX9_singInto_47 : decode cX9_singInto 47 = .ok (.iload 5, 2) := by decide +kernel
theorem dX9_singInto_49 : decode cX9_singInto 49 = .ok (.bipush 7, 2) := by decide +kernel
theorem dX9_singInto_51 : decode cX9_singInto 51 = .ok (.if_icmp .ne 11, 3) := by decide +kernel
theorem dX9_singInto_54 : decode cX9_singInto 54 = .ok (.aload_n 1, 1) := by decide +kernel
theorem dX9_singInto_55 : decode cX9_singInto 55 = .ok (.iload 8, 2) := by decide +kernel
theorem dX9_singInto_57 : decode cX9_singInto 57 = .ok (.iconst (-1), 1) := by decide +kernel
theorem dX9_singInto_58 : decode cX9_singInto 58 = .ok (.iastore, 1) := by decide +kernel
theorem dX9_singInto_59 : decode cX9_singInto 59 = .ok (.goto 103, 3) := by decide +kernel
theorem dX9_singInto_62 : decode cX9_singInto 62 = .ok (.iload 5, 2) := by decide +kernel
theorem dX9_singInto_64 : decode cX9_singInto 64 = .ok (.iconst 4, 1) := by decide +kernel
theorem dX9_singInto_65 : decode cX9_singInto 65 = .ok (.if_icmp .ne 24, 3) := by decide +kernel
theorem dX9_singInto_68 : decode cX9_singInto 68 = .ok (.aload_n 1, 1) := by decide +kernel
theorem dX9_singInto_69 : decode cX9_singInto 69 = .ok (.iload 8, 2) := by decide +kernel
theorem dX9_singInto_71 : decode cX9_singInto 71 = .ok (.bipush 100, 2) := by decide +kernel
theorem dX9_singInto_73 : decode cX9_singInto 73 = .ok (.aload_n 0, 1) := by decide +kernel
theorem dX9_singInto_74 : decode cX9_singInto 74 = .ok (.getfield 17, 3) := by decide +kernel
theorem dX9_singInto_77 : decode cX9_singInto 77 = .ok (.bipush 8, 2) := by decide +kernel
theorem dX9_singInto_79 : decode cX9_singInto 79 = .ok (.iload_n 2, 1) := by decide +kernel
theorem dX9_singInto_80 : decode cX9_singInto 80 = .ok (.imul, 1) := by decide +kernel
theorem dX9_singInto_81 : decode cX9_singInto 81 = .ok (.iconst 5, 1) := by decide +kernel
theorem dX9_singInto_82 : decode cX9_singInto 82 = .ok (.iadd, 1) := by decide +kernel
theorem dX9_singInto_83 : decode cX9_singInto 83 = .ok (.iaload, 1) := by decide +kernel
theorem dX9_singInto_84 : decode cX9_singInto 84 = .ok (.imul, 1) := by decide +kernel
theorem dX9_singInto_85 : decode cX9_singInto 85 = .ok (.iastore, 1) := by decide +kernel
theorem dX9_singInto_86 : decode cX9_singInto 86 = .ok (.goto 76, 3) := by decide +kernel
theorem dX9_singInto_89 : decode cX9_singInto 89 = .ok (.iload 8, 2) := by decide +kernel
theorem dX9_singInto_91 : decode cX9_singInto 91 = .ok (.ifCond .ne 11, 3) := by decide +kernel
theorem dX9_singInto_94 : decode cX9_singInto 94 = .ok (.aload_n 0, 1) := by decide +kernel
theorem dX9_singInto_95 : decode cX9_singInto 95 = .ok (.iload_n 3, 1) := by decide +kernel
theorem dX9_singInto_96 : decode cX9_singInto 96 = .ok (.invokevirtual 246, 3) := by decide +kernel
theorem dX9_singInto_99 : decode cX9_singInto 99 = .ok (.goto 14, 3) := by decide +kernel
theorem dX9_singInto_102 : decode cX9_singInto 102 = .ok (.aload_n 0, 1) := by decide +kernel
theorem dX9_singInto_103 : decode cX9_singInto 103 = .ok (.iload_n 2, 1) := by decide +kernel
theorem dX9_singInto_104 : decode cX9_singInto 104 = .ok (.iload 6, 2) := by decide +kernel
theorem dX9_singInto_106 : decode cX9_singInto 106 = .ok (.iload 8, 2) := by decide +kernel
theorem dX9_singInto_108 : decode cX9_singInto 108 = .ok (.iload 7, 2) := by decide +kernel
theorem dX9_singInto_110 : decode cX9_singInto 110 = .ok (.invokevirtual 249, 3) := by decide +kernel
theorem dX9_singInto_113 : decode cX9_singInto 113 = .ok (.istore 6, 2) := by decide +kernel
theorem dX9_singInto_115 : decode cX9_singInto 115 = .ok (.iload 5, 2) := by decide +kernel
theorem dX9_singInto_117 : decode cX9_singInto 117 = .ok (.iconst 1, 1) := by decide +kernel
theorem dX9_singInto_118 : decode cX9_singInto 118 = .ok (.if_icmp .ne 7, 3) := by decide +kernel
theorem dX9_singInto_121 : decode cX9_singInto 121 = .ok (.iconst 0, 1) := by decide +kernel
theorem dX9_singInto_122 : decode cX9_singInto 122 = .ok (.goto 24, 3) := by decide +kernel
theorem dX9_singInto_125 : decode cX9_singInto 125 = .ok (.aload_n 0, 1) := by decide +kernel
theorem dX9_singInto_126 : decode cX9_singInto 126 = .ok (.getfield 17, 3) := by decide +kernel
theorem dX9_singInto_129 : decode cX9_singInto 129 = .ok (.bipush 8, 2) := by decide +kernel
theorem dX9_singInto_131 : decode cX9_singInto 131 = .ok (.iload_n 2, 1) := by decide +kernel
theorem dX9_singInto_132 : decode cX9_singInto 132 = .ok (.imul, 1) := by decide +kernel
theorem dX9_singInto_133 : decode cX9_singInto 133 = .ok (.iconst 2, 1) := by decide +kernel
theorem dX9_singInto_134 : decode cX9_singInto 134 = .ok (.iadd, 1) := by decide +kernel
theorem dX9_singInto_135 : decode cX9_singInto 135 = .ok (.iaload, 1) := by decide +kernel
theorem dX9_singInto_136 : decode cX9_singInto 136 = .ok (.aload_n 0, 1) := by decide +kernel
theorem dX9_singInto_137 : decode cX9_singInto 137 = .ok (.iload_n 2, 1) := by decide +kernel
theorem dX9_singInto_138 : decode cX9_singInto 138 = .ok (.iload 8, 2) := by decide +kernel
theorem dX9_singInto_140 : decode cX9_singInto 140 = .ok (.iload 4, 2) := by decide +kernel
theorem dX9_singInto_142 : decode cX9_singInto 142 = .ok (.invokevirtual 253, 3) := by decide +kernel
theorem dX9_singInto_145 : decode cX9_singInto 145 = .ok (.iadd, 1) := by decide +kernel
theorem dX9_singInto_146 : decode cX9_singInto 146 = .ok (.istore 9, 2) := by decide +kernel
theorem dX9_singInto_148 : decode cX9_singInto 148 = .ok (.aload_n 1, 1) := by decide +kernel
theorem dX9_singInto_149 : decode cX9_singInto 149 = .ok (.iload 8, 2) := by decide +kernel
theorem dX9_singInto_151 : decode cX9_singInto 151 = .ok (.aload_n 0, 1) := by decide +kernel
theorem dX9_singInto_152 : decode cX9_singInto 152 = .ok (.iload_n 2, 1) := by decide +kernel
theorem dX9_singInto_153 : decode cX9_singInto 153 = .ok (.iload 6, 2) := by decide +kernel
theorem dX9_singInto_155 : decode cX9_singInto 155 = .ok (.iload 9, 2) := by decide +kernel
theorem dX9_singInto_157 : decode cX9_singInto 157 = .ok (.iadd, 1) := by decide +kernel
theorem dX9_singInto_158 : decode cX9_singInto 158 = .ok (.invokevirtual 257, 3) := by decide +kernel
theorem dX9_singInto_161 : decode cX9_singInto 161 = .ok (.iastore, 1) := by decide +kernel
theorem dX9_singInto_162 : decode cX9_singInto 162 = .ok (.iinc 7 1, 3) := by decide +kernel
theorem dX9_singInto_165 : decode cX9_singInto 165 = .ok (.iinc 8 1, 3) := by decide +kernel
theorem dX9_singInto_168 : decode cX9_singInto 168 = .ok (.goto (-148), 3) := by decide +kernel
theorem dX9_singInto_171 : decode cX9_singInto 171 = .ok (.return_, 1) := by decide +kernel
theorem dX9_isNear_0 : decode cX9_isNear 0 = .ok (.iload_n 0, 1) := by decide +kernel
theorem dX9_isNear_1 : decode cX9_isNear 1 = .ok (.i2l, 1) := by decide +kernel
theorem dX9_isNear_2 : decode cX9_isNear 2 = .ok (.ldc2_w 260, 3) := by decide +kernel
theorem dX9_isNear_5 : decode cX9_isNear 5 = .ok (.ldc2_w 262, 3) := by decide +kernel
theorem dX9_isNear_8 : decode cX9_isNear 8 = .ok (.invokestatic 90, 3) := by decide +kernel
theorem dX9_isNear_11 : decode cX9_isNear 11 = .ok (.ireturn, 1) := by decide +kernel
theorem dX9_scoreOf_0 : decode cX9_scoreOf 0 = .ok (.aload_n 0, 1) := by decide +kernel
theorem dX9_scoreOf_1 : decode cX9_scoreOf 1 = .ok (.getfield 178, 3) := by decide +kernel
theorem dX9_scoreOf_4 : decode cX9_scoreOf 4 = .ok (.ifCond .eq 17, 3) := by decide +kernel
theorem dX9_scoreOf_7 : decode cX9_scoreOf 7 = .ok (.aload_n 0, 1) := by decide +kernel
theorem dX9_scoreOf_8 : decode cX9_scoreOf 8 = .ok (.getfield 17, 3) := by decide +kernel
theorem dX9_scoreOf_11 : decode cX9_scoreOf 11 = .ok (.bipush 8, 2) := by decide +kernel
theorem dX9_scoreOf_13 : decode cX9_scoreOf 13 = .ok (.iload_n 2, 1) := by decide +kernel
theorem dX9_scoreOf_14 : decode cX9_scoreOf 14 = .ok (.imul, 1) := by decide +kernel
theorem dX9_scoreOf_15 : decode cX9_scoreOf 15 = .ok (.iaload, 1) := by decide +kernel
theorem dX9_scoreOf_16 : decode cX9_scoreOf 16 = .ok (.bipush 7, 2) := by decide +kernel
theorem dX9_scoreOf_18 : decode cX9_scoreOf 18 = .ok (.if_icmp .ne 5, 3) := by decide +kernel
theorem dX9_scoreOf_21 : decode cX9_scoreOf 21 = .ok (.iconst 0, 1) := by decide +kernel
theorem dX9_scoreOf_22 : decode cX9_scoreOf 22 = .ok (.ireturn, 1) := by decide +kernel
theorem dX9_scoreOf_23 : decode cX9_scoreOf 23 = .ok (.iload_n 3, 1) := by decide +kernel
theorem dX9_scoreOf_24 : decode cX9_scoreOf 24 = .ok (.iconst 1, 1) := by decide +kernel
theorem dX9_scoreOf_25 : decode cX9_scoreOf 25 = .ok (.if_icmp .le 68, 3) := by decide +kernel
theorem dX9_scoreOf_28 : decode cX9_scoreOf 28 = .ok (.iload_n 3, 1) := by decide +kernel
theorem dX9_scoreOf_29 : decode cX9_scoreOf 29 = .ok (.iconst 2, 1) := by decide +kernel
theorem dX9_scoreOf_30 : decode cX9_scoreOf 30 = .ok (.if_icmp .ne 16, 3) := by decide +kernel
theorem dX9_scoreOf_33 : decode cX9_scoreOf 33 = .ok (.aload_n 1, 1) := by decide +kernel
theorem dX9_scoreOf_34 : decode cX9_scoreOf 34 = .ok (.iconst 0, 1) := by decide +kernel
theorem dX9_scoreOf_35 : decode cX9_scoreOf 35 = .ok (.iaload, 1) := by decide +kernel
theorem dX9_scoreOf_36 : decode cX9_scoreOf 36 = .ok (.aload_n 0, 1) := by decide +kernel
theorem dX9_scoreOf_37 : decode cX9_scoreOf 37 = .ok (.getfield 7, 3) := by decide +kernel
theorem dX9_scoreOf_40 : decode cX9_scoreOf 40 = .ok (.iconst 0, 1) := by decide +kernel
theorem dX9_scoreOf_41 : decode cX9_scoreOf 41 = .ok (.iaload, 1) := by decide +kernel
theorem dX9_scoreOf_42 : decode cX9_scoreOf 42 = .ok (.isub, 1) := by decide +kernel
theorem dX9_scoreOf_43 : decode cX9_scoreOf 43 = .ok (.goto 34, 3) := by decide +kernel
theorem dX9_scoreOf_46 : decode cX9_scoreOf 46 = .ok (.aload_n 1, 1) := by decide +kernel
theorem dX9_scoreOf_47 : decode cX9_scoreOf 47 = .ok (.aload_n 0, 1) := by decide +kernel
theorem dX9_scoreOf_48 : decode cX9_scoreOf 48 = .ok (.getfield 178, 3) := by decide +kernel
theorem dX9_scoreOf_51 : decode cX9_scoreOf 51 = .ok (.iconst 1, 1) := by decide +kernel
theorem dX9_scoreOf_52 : decode cX9_scoreOf 52 = .ok (.isub, 1) := by decide +kernel
theorem dX9_scoreOf_53 : decode cX9_scoreOf 53 = .ok (.iaload, 1) := by decide +kernel
theorem dX9_scoreOf_54 : decode cX9_scoreOf 54 = .ok (.aload_n 0, 1) := by decide +kernel
theorem dX9_scoreOf_55 : decode cX9_scoreOf 55 = .ok (.getfield 7, 3) := by decide +kernel
theorem dX9_scoreOf_58 : decode cX9_scoreOf 58 = .ok (.aload_n 0, 1) := by decide +kernel
theorem dX9_scoreOf_59 : decode cX9_scoreOf 59 = .ok (.getfield 178, 3) := by decide +kernel
theorem dX9_scoreOf_62 : decode cX9_scoreOf 62 = .ok (.iconst 1, 1) := by decide +kernel
theorem dX9_scoreOf_63 : decode cX9_scoreOf 63 = .ok (.isub, 1) := by decide +kernel
theorem dX9_scoreOf_64 : decode cX9_scoreOf 64 = .ok (.iaload, 1) := by decide +kernel
theorem dX9_scoreOf_65 : decode cX9_scoreOf 65 = .ok (.isub, 1) := by decide +kernel
theorem dX9_scoreOf_66 : decode cX9_scoreOf 66 = .ok (.aload_n 1, 1) := by decide +kernel
theorem dX9_scoreOf_67 : decode cX9_scoreOf 67 = .ok (.iconst 0, 1) := by decide +kernel
theorem dX9_scoreOf_68 : decode cX9_scoreOf 68 = .ok (.iaload, 1) := by decide +kernel
theorem dX9_scoreOf_69 : decode cX9_scoreOf 69 = .ok (.isub, 1) := by decide +kernel
theorem dX9_scoreOf_70 : decode cX9_scoreOf 70 = .ok (.aload_n 0, 1) := by decide +kernel
theorem dX9_scoreOf_71 : decode cX9_scoreOf 71 = .ok (.getfield 7, 3) := by decide +kernel
theorem dX9_scoreOf_74 : decode cX9_scoreOf 74 = .ok (.iconst 0, 1) := by decide +kernel
theorem dX9_scoreOf_75 : decode cX9_scoreOf 75 = .ok (.iaload, 1) := by decide +kernel
theorem dX9_scoreOf_76 : decode cX9_scoreOf 76 = .ok (.iadd, 1) := by decide +kernel
theorem dX9_scoreOf_77 : decode cX9_scoreOf 77 = .ok (.istore 4, 2) := by decide +kernel
theorem dX9_scoreOf_79 : decode cX9_scoreOf 79 = .ok (.iload 4, 2) := by decide +kernel
theorem dX9_scoreOf_81 : decode cX9_scoreOf 81 = .ok (.invokestatic 264, 3) := by decide +kernel
theorem dX9_scoreOf_84 : decode cX9_scoreOf 84 = .ok (.ifCond .eq 7, 3) := by decide +kernel
theorem dX9_scoreOf_87 : decode cX9_scoreOf 87 = .ok (.iconst 1, 1) := by decide +kernel
theorem dX9_scoreOf_88 : decode cX9_scoreOf 88 = .ok (.goto 4, 3) := by decide +kernel
theorem dX9_scoreOf_91 : decode cX9_scoreOf 91 = .ok (.iconst 0, 1) := by decide +kernel
theorem dX9_scoreOf_92 : decode cX9_scoreOf 92 = .ok (.ireturn, 1) := by decide +kernel
theorem dX9_scoreOf_93 : decode cX9_scoreOf 93 = .ok (.iconst 0, 1) := by decide +kernel
theorem dX9_scoreOf_94 : decode cX9_scoreOf 94 = .ok (.istore 4, 2) := by decide +kernel
theorem dX9_scoreOf_96 : decode cX9_scoreOf 96 = .ok (.iload_n 3, 1) := by decide +kernel
theorem dX9_scoreOf_97 : decode cX9_scoreOf 97 = .ok (.ifCond .ne 7, 3) := by decide +kernel
theorem dX9_scoreOf_100 : decode cX9_scoreOf 100 = .ok (.iconst 1, 1) := by decide +kernel
theorem dX9_scoreOf_101 : decode cX9_scoreOf 101 = .ok (.goto 4, 3) := by decide +kernel
theorem dX9_scoreOf_104 : decode cX9_scoreOf 104 = .ok (.iconst 0, 1) := by decide +kernel
theorem dX9_scoreOf_105 : decode cX9_scoreOf 105 = .ok (.istore 5, 2) := by decide +kernel
theorem dX9_scoreOf_107 : decode cX9_scoreOf 107 = .ok (.iload 5, 2) := by decide +kernel
theorem dX9_scoreOf_109 : decode cX9_scoreOf 109 = .ok (.aload_n 0, 1) := by decide +kernel
theorem dX9_scoreOf_110 : decode cX9_scoreOf 110 = .ok (.getfield 178, 3) := by decide +kernel
theorem dX9_scoreOf_113 : decode cX9_scoreOf 113 = .ok (.if_icmp .ge 66, 3) := by decide +kernel
theorem dX9_scoreOf_116 : decode cX9_scoreOf 116 = .ok (.iload_n 3, 1) := by decide +kernel
theorem dX9_scoreOf_117 : decode cX9_scoreOf 117 = .ok (.ifCond .ne 22, 3) := by decide +kernel
theorem dX9_scoreOf_120 : decode cX9_scoreOf 120 = .ok (.aload_n 1, 1) := by decide +kernel
theorem dX9_scoreOf_121 : decode cX9_scoreOf 121 = .ok (.iload 5, 2) := by decide +kernel
theorem dX9_scoreOf_123 : decode cX9_scoreOf 123 = .ok (.iconst 1, 1) := by decide +kernel
theorem dX9_scoreOf_124 : decode cX9_scoreOf 124 = .ok (.isub, 1) := by decide +kernel
theorem dX9_scoreOf_125 : decode cX9_scoreOf 125 = .ok (.iaload, 1) := by decide +kernel
theorem dX9_scoreOf_126 : decode cX9_scoreOf 126 = .ok (.aload_n 0, 1) := by decide +kernel
theorem dX9_scoreOf_127 : decode cX9_scoreOf 127 = .ok (.getfield 7, 3) := by decide +kernel
theorem dX9_scoreOf_130 : decode cX9_scoreOf 130 = .ok (.iload 5, 2) := by decide +kernel
theorem dX9_scoreOf_132 : decode cX9_scoreOf 132 = .ok (.iconst 1, 1) := by decide +kernel
theorem dX9_scoreOf_133 : decode cX9_scoreOf 133 = .ok (.isub, 1) := by decide +kernel
theorem dX9_scoreOf_134 : decode cX9_scoreOf 134 = .ok (.iaload, 1) := by decide +kernel
theorem dX9_scoreOf_135 : decode cX9_scoreOf 135 = .ok (.isub, 1) := by decide +kernel
theorem dX9_scoreOf_136 : decode cX9_scoreOf 136 = .ok (.goto 4, 3) := by decide +kernel
theorem dX9_scoreOf_139 : decode cX9_scoreOf 139 = .ok (.iconst 0, 1) := by decide +kernel
theorem dX9_scoreOf_140 : decode cX9_scoreOf 140 = .ok (.istore 6, 2) := by decide +kernel
theorem dX9_scoreOf_142 : decode cX9_scoreOf 142 = .ok (.iload 4, 2) := by decide +kernel
theorem dX9_scoreOf_144 : decode cX9_scoreOf 144 = .ok (.aload_n 1, 1) := by decide +kernel
theorem dX9_scoreOf_145 : decode cX9_scoreOf 145 = .ok (.iload 5, 2) := by decide +kernel
theorem dX9_scoreOf_147 : decode cX9_scoreOf 147 = .ok (.iaload, 1) := by decide +kernel
theorem dX9_scoreOf_148 : decode cX9_scoreOf 148 = .ok (.aload_n 0, 1) := by decide +kernel
theorem dX9_scoreOf_149 : decode cX9_scoreOf 149 = .ok (.getfield 7, 3) := by decide +kernel
theorem dX9_scoreOf_152 : decode cX9_scoreOf 152 = .ok (.iload 5, 2) := by decide +kernel
theorem dX9_scoreOf_154 : decode cX9_scoreOf 154 = .ok (.iaload, 1) := by decide +kernel
theorem dX9_scoreOf_155 : decode cX9_scoreOf 155 = .ok (.isub, 1) := by decide +kernel
theorem dX9_scoreOf_156 : decode cX9_scoreOf 156 = .ok (.iload 6, 2) := by decide +kernel
theorem dX9_scoreOf_158 : decode cX9_scoreOf 158 = .ok (.isub, 1) := by decide +kernel
theorem dX9_scoreOf_159 : decode cX9_scoreOf 159 = .ok (.invokestatic 264, 3) := by decide +kernel
theorem dX9_scoreOf_162 : decode cX9_scoreOf 162 = .ok (.ifCond .eq 7, 3) := by decide +kernel
theorem dX9_scoreOf_165 : decode cX9_scoreOf 165 = .ok (.iconst 1, 1) := by decide +kernel
theorem dX9_scoreOf_166 : decode cX9_scoreOf 166 = .ok (.goto 4, 3) := by decide +kernel
theorem dX9_scoreOf_169 : decode cX9_scoreOf 169 = .ok (.iconst 0, 1) := by decide +kernel
theorem dX9_scoreOf_170 : decode cX9_scoreOf 170 = .ok (.iadd, 1) := by decide +kernel
theorem dX9_scoreOf_171 : decode cX9_scoreOf 171 = .ok (.istore 4, 2) := by decide +kernel
theorem dX9_scoreOf_173 : decode cX9_scoreOf 173 = .ok (.iinc 5 1, 3) := by decide +kernel
theorem dX9_scoreOf_176 : decode cX9_scoreOf 176 = .ok (.goto (-69), 3) := by decide +kernel
theorem dX9_scoreOf_179 : decode cX9_scoreOf 179 = .ok (.iload 4, 2) := by decide +kernel
theorem dX9_scoreOf_181 : decode cX9_scoreOf 181 = .ok (.ireturn, 1) := by decide +kernel
theorem dX9_sing_0 : decode cX9_sing 0 = .ok (.aload_n 0, 1) := by decide +kernel
theorem dX9_sing_1 : decode cX9_sing 1 = .ok (.iload_n 1, 1) := by decide +kernel
theorem dX9_sing_2 : decode cX9_sing 2 = .ok (.invokevirtual 217, 3) := by decide +kernel
theorem dX9_sing_5 : decode cX9_sing 5 = .ok (.ifCond .ne 6, 3) := by decide +kernel
theorem dX9_sing_8 : decode cX9_sing 8 = .ok (.ldc 216, 2) := by decide +kernel
theorem dX9_sing_10 : decode cX9_sing 10 = .ok (.ireturn, 1) := by decide +kernel
theorem dX9_sing_11 : decode cX9_sing 11 = .ok (.iload_n 2, 1) := by decide +kernel
theorem dX9_sing_12 : decode cX9_sing 12 = .ok (.i2l, 1) := by decide +kernel
theorem dX9_sing_13 : decode cX9_sing 13 = .ok (.lconst 0, 1) := by decide +kernel
theorem dX9_sing_14 : decode cX9_sing 14 = .ok (.ldc2_w 267, 3) := by decide +kernel
theorem dX9_sing_17 : decode cX9_sing 17 = .ok (.invokestatic 90, 3) := by decide +kernel
theorem dX9_sing_20 : decode cX9_sing 20 = .ok (.ifCond .ne 6, 3) := by decide +kernel
theorem dX9_sing_23 : decode cX9_sing 23 = .ok (.ldc 99, 2) := by decide +kernel
theorem dX9_sing_25 : decode cX9_sing 25 = .ok (.ireturn, 1) := by decide +kernel
theorem dX9_sing_26 : decode cX9_sing 26 = .ok (.aload_n 0, 1) := by decide +kernel
theorem dX9_sing_27 : decode cX9_sing 27 = .ok (.aload_n 0, 1) := by decide +kernel
theorem dX9_sing_28 : decode cX9_sing 28 = .ok (.getfield 33, 3) := by decide +kernel
theorem dX9_sing_31 : decode cX9_sing 31 = .ok (.iload_n 1, 1) := by decide +kernel
theorem dX9_sing_32 : decode cX9_sing 32 = .ok (.iload_n 2, 1) := by decide +kernel
theorem dX9_sing_33 : decode cX9_sing 33 = .ok (.iconst 0, 1) := by decide +kernel
theorem dX9_sing_34 : decode cX9_sing 34 = .ok (.invokevirtual 269, 3) := by decide +kernel
theorem dX9_sing_37 : decode cX9_sing 37 = .ok (.aload_n 0, 1) := by decide +kernel
theorem dX9_sing_38 : decode cX9_sing 38 = .ok (.iload_n 1, 1) := by decide +kernel
theorem dX9_sing_39 : decode cX9_sing 39 = .ok (.putfield 29, 3) := by decide +kernel
theorem dX9_sing_42 : decode cX9_sing 42 = .ok (.aload_n 0, 1) := by decide +kernel
theorem dX9_sing_43 : decode cX9_sing 43 = .ok (.aload_n 0, 1) := by decide +kernel
theorem dX9_sing_44 : decode cX9_sing 44 = .ok (.getfield 33, 3) := by decide +kernel
theorem dX9_sing_47 : decode cX9_sing 47 = .ok (.iload_n 1, 1) := by decide +kernel
theorem dX9_sing_48 : decode cX9_sing 48 = .ok (.iconst 0, 1) := by decide +kernel
theorem dX9_sing_49 : decode cX9_sing 49 = .ok (.invokevirtual 273, 3) := by decide +kernel
theorem dX9_sing_52 : decode cX9_sing 52 = .ok (.ireturn, 1) := by decide +kernel
theorem dX9_height_0 : decode cX9_height 0 = .ok (.aload_n 0, 1) := by decide +kernel
theorem dX9_height_1 : decode cX9_height 1 = .ok (.iload_n 1, 1) := by decide +kernel
theorem dX9_height_2 : decode cX9_height 2 = .ok (.invokevirtual 212, 3) := by decide +kernel
theorem dX9_height_5 : decode cX9_height 5 = .ok (.ifCond .ne 6, 3) := by decide +kernel
theorem dX9_height_8 : decode cX9_height 8 = .ok (.ldc 216, 2) := by decide +kernel
theorem dX9_height_10 : decode cX9_height 10 = .ok (.ireturn, 1) := by decide +kernel
theorem dX9_height_11 : decode cX9_height 11 = .ok (.aload_n 0, 1) := by decide +kernel
theorem dX9_height_12 : decode cX9_height 12 = .ok (.getfield 29, 3) := by decide +kernel
theorem dX9_height_15 : decode cX9_height 15 = .ok (.ifCond .ge 9, 3) := by decide +kernel
theorem dX9_height_18 : decode cX9_height 18 = .ok (.ldc_w 277, 3) := by decide +kernel
theorem dX9_height_21 : decode cX9_height 21 = .ok (.goto 9, 3) := by decide +kernel
theorem dX9_height_24 : decode cX9_height 24 = .ok (.aload_n 0, 1) := by decide +kernel
theorem dX9_height_25 : decode cX9_height 25 = .ok (.getfield 33, 3) := by decide +kernel
theorem dX9_height_28 : decode cX9_height 28 = .ok (.iload_n 1, 1) := by decide +kernel
theorem dX9_height_29 : decode cX9_height 29 = .ok (.iaload, 1) := by decide +kernel
theorem dX9_height_30 : decode cX9_height 30 = .ok (.ireturn, 1) := by decide +kernel
theorem dX9_isSilent_0 : decode cX9_isSilent 0 = .ok (.aload_n 0, 1) := by decide +kernel
theorem dX9_isSilent_1 : decode cX9_isSilent 1 = .ok (.getfield 178, 3) := by decide +kernel
theorem dX9_isSilent_4 : decode cX9_isSilent 4 = .ok (.ifCond .eq 20, 3) := by decide +kernel
theorem dX9_isSilent_7 : decode cX9_isSilent 7 = .ok (.aload_n 0, 1) := by decide +kernel
theorem dX9_isSilent_8 : decode cX9_isSilent 8 = .ok (.getfield 17, 3) := by decide +kernel
theorem dX9_isSilent_11 : decode cX9_isSilent 11 = .ok (.bipush 8, 2) := by decide +kernel
theorem dX9_isSilent_13 : decode cX9_isSilent 13 = .ok (.aload_n 0, 1) := by decide +kernel
theorem dX9_isSilent_14 : decode cX9_isSilent 14 = .ok (.getfield 29, 3) := by decide +kernel
theorem dX9_isSilent_17 : decode cX9_isSilent 17 = .ok (.imul, 1) := by decide +kernel
theorem dX9_isSilent_18 : decode cX9_isSilent 18 = .ok (.iaload, 1) := by decide +kernel
theorem dX9_isSilent_19 : decode cX9_isSilent 19 = .ok (.bipush 7, 2) := by decide +kernel
theorem dX9_isSilent_21 : decode cX9_isSilent 21 = .ok (.if_icmp .ne 7, 3) := by decide +kernel
theorem dX9_isSilent_24 : decode cX9_isSilent 24 = .ok (.iconst 1, 1) := by decide +kernel
theorem dX9_isSilent_25 : decode cX9_isSilent 25 = .ok (.goto 4, 3) := by decide +kernel
theorem dX9_isSilent_28 : decode cX9_isSilent 28 = .ok (.iconst 0, 1) := by decide +kernel
theorem dX9_isSilent_29 : decode cX9_isSilent 29 = .ok (.ireturn, 1) := by decide +kernel
theorem dX9_slid_0 : decode cX9_slid 0 = .ok (.aload_n 0, 1) := by decide +kernel
theorem dX9_slid_1 : decode cX9_slid 1 = .ok (.getfield 29, 3) := by decide +kernel
theorem dX9_slid_4 : decode cX9_slid 4 = .ok (.ifCond .ge 7, 3) := by decide +kernel
theorem dX9_slid_7 : decode cX9_slid 7 = .ok (.ldc_w 277, 3) := by decide +kernel
theorem dX9_slid_10 : decode cX9_slid 10 = .ok (.ireturn, 1) := by decide +kernel
theorem dX9_slid_11 : decode cX9_slid 11 = .ok (.aload_n 0, 1) := by decide +kernel
theorem dX9_slid_12 : decode cX9_slid 12 = .ok (.invokevirtual 278, 3) := by decide +kernel
theorem dX9_slid_15 : decode cX9_slid 15 = .ok (.ifCond .eq 7, 3) := by decide +kernel
theorem dX9_slid_18 : decode cX9_slid 18 = .ok (.iconst 0, 1) := by decide +kernel
theorem dX9_slid_19 : decode cX9_slid 19 = .ok (.goto 40, 3) := by decide +kernel
theorem dX9_slid_22 : decode cX9_slid 22 = .ok (.aload_n 0, 1) := by decide +kernel
theorem dX9_slid_23 : decode cX9_slid 23 = .ok (.getfield 33, 3) := by decide +kernel
theorem dX9_slid_26 : decode cX9_slid 26 = .ok (.aload_n 0, 1) := by decide +kernel
theorem dX9_slid_27 : decode cX9_slid 27 = .ok (.getfield 178, 3) := by decide +kernel
theorem dX9_slid_30 : decode cX9_slid 30 = .ok (.iconst 1, 1) := by decide +kernel
theorem dX9_slid_31 : decode cX9_slid 31 = .ok (.isub, 1) := by decide +kernel
theorem dX9_slid_32 : decode cX9_slid 32 = .ok (.iaload, 1) := by decide +kernel
theorem dX9_slid_33 : decode cX9_slid 33 = .ok (.aload_n 0, 1) := by decide +kernel
theorem dX9_slid_34 : decode cX9_slid 34 = .ok (.getfield 7, 3) := by decide +kernel
theorem dX9_slid_37 : decode cX9_slid 37 = .ok (.aload_n 0, 1) := by decide +kernel
theorem dX9_slid_38 : decode cX9_slid 38 = .ok (.getfield 178, 3) := by decide +kernel
theorem dX9_slid_41 : decode cX9_slid 41 = .ok (.iconst 1, 1) := by decide +kernel
theorem dX9_slid_42 : decode cX9_slid 42 = .ok (.isub, 1) := by decide +kernel
theorem dX9_slid_43 : decode cX9_slid 43 = .ok (.iaload, 1) := by decide +kernel
theorem dX9_slid_44 : decode cX9_slid 44 = .ok (.isub, 1) := by decide +kernel
theorem dX9_slid_45 : decode cX9_slid 45 = .ok (.aload_n 0, 1) := by decide +kernel
theorem dX9_slid_46 : decode cX9_slid 46 = .ok (.getfield 33, 3) := by decide +kernel
theorem dX9_slid_49 : decode cX9_slid 49 = .ok (.iconst 0, 1) := by decide +kernel
theorem dX9_slid_50 : decode cX9_slid 50 = .ok (.iaload, 1) := by decide +kernel
theorem dX9_slid_51 : decode cX9_slid 51 = .ok (.isub, 1) := by decide +kernel
theorem dX9_slid_52 : decode cX9_slid 52 = .ok (.aload_n 0, 1) := by decide +kernel
theorem dX9_slid_53 : decode cX9_slid 53 = .ok (.getfield 7, 3) := by decide +kernel
theorem dX9_slid_56 : decode cX9_slid 56 = .ok (.iconst 0, 1) := by decide +kernel
theorem dX9_slid_57 : decode cX9_slid 57 = .ok (.iaload, 1) := by decide +kernel
theorem dX9_slid_58 : decode cX9_slid 58 = .ok (.iadd, 1) := by decide +kernel
theorem dX9_slid_59 : decode cX9_slid 59 = .ok (.ireturn, 1) := by decide +kernel
theorem dX9_score_0 : decode cX9_score 0 = .ok (.iload_n 1, 1) := by decide +kernel
theorem dX9_score_1 : decode cX9_score 1 = .ok (.i2l, 1) := by decide +kernel
theorem dX9_score_2 : decode cX9_score 2 = .ok (.lconst 0, 1) := by decide +kernel
theorem dX9_score_3 : decode cX9_score 3 = .ok (.ldc2_w 225, 3) := by decide +kernel
theorem dX9_score_6 : decode cX9_score 6 = .ok (.invokestatic 90, 3) := by decide +kernel
theorem dX9_score_9 : decode cX9_score 9 = .ok (.ifCond .ne 6, 3) := by decide +kernel
theorem dX9_score_12 : decode cX9_score 12 = .ok (.ldc 99, 2) := by decide +kernel
theorem dX9_score_14 : decode cX9_score 14 = .ok (.ireturn, 1) := by decide +kernel
theorem dX9_score_15 : decode cX9_score 15 = .ok (.aload_n 0, 1) := by decide +kernel
theorem dX9_score_16 : decode cX9_score 16 = .ok (.getfield 29, 3) := by decide +kernel
theorem dX9_score_19 : decode cX9_score 19 = .ok (.ifCond .ge 9, 3) := by decide +kernel
theorem dX9_score_22 : decode cX9_score 22 = .ok (.ldc_w 277, 3) := by decide +kernel
theorem dX9_score_25 : decode cX9_score 25 = .ok (.goto 16, 3) := by decide +kernel
theorem dX9_score_28 : decode cX9_score 28 = .ok (.aload_n 0, 1) := by decide +kernel
theorem dX9_score_29 : decode cX9_score 29 = .ok (.aload_n 0, 1) := by decide +kernel
theorem dX9_score_30 : decode cX9_score 30 = .ok (.getfield 33, 3) := by decide +kernel
theorem dX9_score_33 : decode cX9_score 33 = .ok (.aload_n 0, 1) := by decide +kernel
theorem dX9_score_34 : decode cX9_score 34 = .ok (.getfield 29, 3) := by decide +kernel
theorem dX9_score_37 : decode cX9_score 37 = .ok (.iload_n 1, 1) := by decide +kernel
theorem dX9_score_38 : decode cX9_score 38 = .ok (.invokevirtual 273, 3) := by decide +kernel
theorem dX9_score_41 : decode cX9_score 41 = .ok (.ireturn, 1) := by decide +kernel
theorem dX9_calls_0 : decode cX9_calls 0 = .ok (.aload_n 0, 1) := by decide +kernel
theorem dX9_calls_1 : decode cX9_calls 1 = .ok (.getfield 29, 3) := by decide +kernel
theorem dX9_calls_4 : decode cX9_calls 4 = .ok (.ifCond .ge 7, 3) := by decide +kernel
theorem dX9_calls_7 : decode cX9_calls 7 = .ok (.ldc_w 277, 3) := by decide +kernel
theorem dX9_calls_10 : decode cX9_calls 10 = .ok (.ireturn, 1) := by decide +kernel
theorem dX9_calls_11 : decode cX9_calls 11 = .ok (.aload_n 0, 1) := by decide +kernel
theorem dX9_calls_12 : decode cX9_calls 12 = .ok (.invokevirtual 278, 3) := by decide +kernel
theorem dX9_calls_15 : decode cX9_calls 15 = .ok (.ifCond .eq 6, 3) := by decide +kernel
theorem dX9_calls_18 : decode cX9_calls 18 = .ok (.bipush 15, 2) := by decide +kernel
theorem dX9_calls_20 : decode cX9_calls 20 = .ok (.ireturn, 1) := by decide +kernel
theorem dX9_calls_21 : decode cX9_calls 21 = .ok (.aload_n 0, 1) := by decide +kernel
theorem dX9_calls_22 : decode cX9_calls 22 = .ok (.aload_n 0, 1) := by decide +kernel
theorem dX9_calls_23 : decode cX9_calls 23 = .ok (.getfield 33, 3) := by decide +kernel
theorem dX9_calls_26 : decode cX9_calls 26 = .ok (.aload_n 0, 1) := by decide +kernel
theorem dX9_calls_27 : decode cX9_calls 27 = .ok (.getfield 29, 3) := by decide +kernel
theorem dX9_calls_30 : decode cX9_calls 30 = .ok (.iconst 0, 1) := by decide +kernel
theorem dX9_calls_31 : decode cX9_calls 31 = .ok (.invokevirtual 273, 3) := by decide +kernel
theorem dX9_calls_34 : decode cX9_calls 34 = .ok (.aload_n 0, 1) := by decide +kernel
theorem dX9_calls_35 : decode cX9_calls 35 = .ok (.getfield 178, 3) := by decide +kernel
theorem dX9_calls_38 : decode cX9_calls 38 = .ok (.iconst 1, 1) := by decide +kernel
theorem dX9_calls_39 : decode cX9_calls 39 = .ok (.isub, 1) := by decide +kernel
theorem dX9_calls_40 : decode cX9_calls 40 = .ok (.if_icmp .ge 7, 3) := by decide +kernel
theorem dX9_calls_43 : decode cX9_calls 43 = .ok (.iconst 1, 1) := by decide +kernel
theorem dX9_calls_44 : decode cX9_calls 44 = .ok (.goto 4, 3) := by decide +kernel
theorem dX9_calls_47 : decode cX9_calls 47 = .ok (.iconst 0, 1) := by decide +kernel
theorem dX9_calls_48 : decode cX9_calls 48 = .ok (.istore_n 1, 1) := by decide +kernel
theorem dX9_calls_49 : decode cX9_calls 49 = .ok (.iload_n 1, 1) := by decide +kernel
theorem dX9_calls_50 : decode cX9_calls 50 = .ok (.aload_n 0, 1) := by decide +kernel
theorem dX9_calls_51 : decode cX9_calls 51 = .ok (.aload_n 0, 1) := by decide +kernel
theorem dX9_calls_52 : decode cX9_calls 52 = .ok (.getfield 33, 3) := by decide +kernel
theorem dX9_calls_55 : decode cX9_calls 55 = .ok (.aload_n 0, 1) := by decide +kernel
theorem dX9_calls_56 : decode cX9_calls 56 = .ok (.getfield 29, 3) := by decide +kernel
theorem dX9_calls_59 : decode cX9_calls 59 = .ok (.iconst 1, 1) := by decide +kernel
theorem dX9_calls_60 : decode cX9_calls 60 = .ok (.invokevirtual 273, 3) := by decide +kernel
theorem dX9_calls_63 : decode cX9_calls 63 = .ok (.aload_n 0, 1) := by decide +kernel
theorem dX9_calls_64 : decode cX9_calls 64 = .ok (.getfield 178, 3) := by decide +kernel
theorem dX9_calls_67 : decode cX9_calls 67 = .ok (.if_icmp .ge 7, 3) := by decide +kernel
theorem dX9_calls_70 : decode cX9_calls 70 = .ok (.iconst 2, 1) := by decide +kernel
theorem dX9_calls_71 : decode cX9_calls 71 = .ok (.goto 4, 3) := by decide +kernel
theorem dX9_calls_74 : decode cX9_calls 74 = .ok (.iconst 0, 1) := by decide +kernel
theorem dX9_calls_75 : decode cX9_calls 75 = .ok (.ior, 1) := by decide +kernel
theorem dX9_calls_76 : decode cX9_calls 76 = .ok (.istore_n 1, 1) := by decide +kernel
theorem dX9_calls_77 : decode cX9_calls 77 = .ok (.iload_n 1, 1) := by decide +kernel
theorem dX9_calls_78 : decode cX9_calls 78 = .ok (.aload_n 0, 1) := by decide +kernel
theorem dX9_calls_79 : decode cX9_calls 79 = .ok (.aload_n 0, 1) := by decide +kernel
theorem dX9_calls_80 : decode cX9_calls 80 = .ok (.getfield 33, 3) := by decide +kernel
theorem dX9_calls_83 : decode cX9_calls 83 = .ok (.aload_n 0, 1) := by decide +kernel
theorem dX9_calls_84 : decode cX9_calls 84 = .ok (.getfield 29, 3) := by decide +kernel
theorem dX9_calls_87 : decode cX9_calls 87 = .ok (.iconst 2, 1) := by decide +kernel
theorem dX9_calls_88 : decode cX9_calls 88 = .ok (.invokevirtual 273, 3) := by decide +kernel
theorem dX9_calls_91 : decode cX9_calls 91 = .ok (.ifCond .ne 7, 3) := by decide +kernel
theorem dX9_calls_94 : decode cX9_calls 94 = .ok (.iconst 4, 1) := by decide +kernel
theorem dX9_calls_95 : decode cX9_calls 95 = .ok (.goto 4, 3) := by decide +kernel
theorem dX9_calls_98 : decode cX9_calls 98 = .ok (.iconst 0, 1) := by decide +kernel
theorem dX9_calls_99 : decode cX9_calls 99 = .ok (.ior, 1) := by decide +kernel
theorem dX9_calls_100 : decode cX9_calls 100 = .ok (.istore_n 1, 1) := by decide +kernel
theorem dX9_calls_101 : decode cX9_calls 101 = .ok (.iload_n 1, 1) := by decide +kernel
theorem dX9_calls_102 : decode cX9_calls 102 = .ok (.aload_n 0, 1) := by decide +kernel
theorem dX9_calls_103 : decode cX9_calls 103 = .ok (.aload_n 0, 1) := by decide +kernel
theorem dX9_calls_104 : decode cX9_calls 104 = .ok (.getfield 33, 3) := by decide +kernel
theorem dX9_calls_107 : decode cX9_calls 107 = .ok (.aload_n 0, 1) := by decide +kernel
theorem dX9_calls_108 : decode cX9_calls 108 = .ok (.getfield 29, 3) := by decide +kernel
theorem dX9_calls_111 : decode cX9_calls 111 = .ok (.iconst 3, 1) := by decide +kernel
theorem dX9_calls_112 : decode cX9_calls 112 = .ok (.invokevirtual 273, 3) := by decide +kernel
theorem dX9_calls_115 : decode cX9_calls 115 = .ok (.ifCond .ne 8, 3) := by decide +kernel
theorem dX9_calls_118 : decode cX9_calls 118 = .ok (.bipush 8, 2) := by decide +kernel
theorem dX9_calls_120 : decode cX9_calls 120 = .ok (.goto 4, 3) := by decide +kernel
theorem dX9_calls_123 : decode cX9_calls 123 = .ok (.iconst 0, 1) := by decide +kernel
theorem dX9_calls_124 : decode cX9_calls 124 = .ok (.ior, 1) := by decide +kernel
theorem dX9_calls_125 : decode cX9_calls 125 = .ok (.ireturn, 1) := by decide +kernel
theorem dX9_fooled_0 : decode cX9_fooled 0 = .ok (.iload_n 1, 1) := by decide +kernel
theorem dX9_fooled_1 : decode cX9_fooled 1 = .ok (.i2l, 1) := by decide +kernel
theorem dX9_fooled_2 : decode cX9_fooled 2 = .ok (.lconst 0, 1) := by decide +kernel
theorem dX9_fooled_3 : decode cX9_fooled 3 = .ok (.lconst 1, 1) := by decide +kernel
theorem dX9_fooled_4 : decode cX9_fooled 4 = .ok (.invokestatic 90, 3) := by decide +kernel
theorem dX9_fooled_7 : decode cX9_fooled 7 = .ok (.ifCond .ne 6, 3) := by decide +kernel
theorem dX9_fooled_10 : decode cX9_fooled 10 = .ok (.ldc 99, 2) := by decide +kernel
theorem dX9_fooled_12 : decode cX9_fooled 12 = .ok (.ireturn, 1) := by decide +kernel
theorem dX9_fooled_13 : decode cX9_fooled 13 = .ok (.iconst (-1), 1) := by decide +kernel
theorem dX9_fooled_14 : decode cX9_fooled 14 = .ok (.istore_n 2, 1) := by decide +kernel
theorem dX9_fooled_15 : decode cX9_fooled 15 = .ok (.iconst 0, 1) := by decide +kernel
theorem dX9_fooled_16 : decode cX9_fooled 16 = .ok (.istore_n 3, 1) := by decide +kernel
theorem dX9_fooled_17 : decode cX9_fooled 17 = .ok (.iconst 0, 1) := by decide +kernel
theorem dX9_fooled_18 : decode cX9_fooled 18 = .ok (.istore 4, 2) := by decide +kernel
theorem dX9_fooled_20 : decode cX9_fooled 20 = .ok (.iload 4, 2) := by decide +kernel
theorem dX9_fooled_22 : decode cX9_fooled 22 = .ok (.sipush 3600, 3) := by decide +kernel
theorem dX9_fooled_25 : decode cX9_fooled 25 = .ok (.if_icmp .gt 82, 3) := by decide +kernel
theorem dX9_fooled_28 : decode cX9_fooled 28 = .ok (.iconst 0, 1) := by decide +kernel
theorem dX9_fooled_29 : decode cX9_fooled 29 = .ok (.istore 5, 2) := by decide +kernel
theorem dX9_fooled_31 : decode cX9_fooled 31 = .ok (.iconst 0, 1) := by decide +kernel
theorem dX9_fooled_32 : decode cX9_fooled 32 = .ok (.istore 6, 2) := by decide +kernel
theorem dX9_fooled_34 : decode cX9_fooled 34 = .ok (.iload 6, 2) := by decide +kernel
theorem dX9_fooled_36 : decode cX9_fooled 36 = .ok (.aload_n 0, 1) := by decide +kernel
theorem dX9_fooled_37 : decode cX9_fooled 37 = .ok (.getfield 178, 3) := by decide +kernel
theorem dX9_fooled_40 : decode cX9_fooled 40 = .ok (.if_icmp .ge 35, 3) := by decide +kernel
theorem dX9_fooled_43 : decode cX9_fooled 43 = .ok (.iload 5, 2) := by decide +kernel
theorem dX9_fooled_45 : decode cX9_fooled 45 = .ok (.aload_n 0, 1) := by decide +kernel
theorem dX9_fooled_46 : decode cX9_fooled 46 = .ok (.getfield 7, 3) := by decide +kernel
theorem dX9_fooled_49 : decode cX9_fooled 49 = .ok (.iload 6, 2) := by decide +kernel
theorem dX9_fooled_51 : decode cX9_fooled 51 = .ok (.iaload, 1) := by decide +kernel
theorem dX9_fooled_52 : decode cX9_fooled 52 = .ok (.iload 4, 2) := by decide +kernel
theorem dX9_fooled_54 : decode cX9_fooled 54 = .ok (.isub, 1) := by decide +kernel
theorem dX9_fooled_55 : decode cX9_fooled 55 = .ok (.invokestatic 264, 3) := by decide +kernel
theorem dX9_fooled_58 : decode cX9_fooled 58 = .ok (.ifCond .eq 7, 3) := by decide +kernel
theorem dX9_fooled_61 : decode cX9_fooled 61 = .ok (.iconst 1, 1) := by decide +kernel
theorem dX9_fooled_62 : decode cX9_fooled 62 = .ok (.goto 4, 3) := by decide +kernel
theorem dX9_fooled_65 : decode cX9_fooled 65 = .ok (.iconst 0, 1) := by decide +kernel
theorem dX9_fooled_66 : decode cX9_fooled 66 = .ok (.iadd, 1) := by decide +kernel
theorem dX9_fooled_67 : decode cX9_fooled 67 = .ok (.istore 5, 2) := by decide +kernel
theorem dX9_fooled_69 : decode cX9_fooled 69 = .ok (.iinc 6 1, 3) := by decide +kernel
theorem dX9_fooled_72 : decode cX9_fooled 72 = .ok (.goto (-38), 3) := by decide +kernel
theorem dX9_fooled_75 : decode cX9_fooled 75 = .ok (.iload 5, 2) := by decide +kernel
theorem dX9_fooled_77 : decode cX9_fooled 77 = .ok (.iload_n 3, 1) := by decide +kernel
theorem dX9_fooled_78 : decode cX9_fooled 78 = .ok (.if_icmp .le 8, 3) := by decide +kernel
theorem dX9_fooled_81 : decode cX9_fooled 81 = .ok (.iload 4, 2) := by decide +kernel
theorem dX9_fooled_83 : decode cX9_fooled 83 = .ok (.goto 4, 3) := by decide +kernel
theorem dX9_fooled_86 : decode cX9_fooled 86 = .ok (.iload_n 2, 1) := by decide +kernel
theorem dX9_fooled_87 : decode cX9_fooled 87 = .ok (.istore_n 2, 1) := by decide +kernel
theorem dX9_fooled_88 : decode cX9_fooled 88 = .ok (.iload 5, 2) := by decide +kernel
theorem dX9_fooled_90 : decode cX9_fooled 90 = .ok (.iload_n 3, 1) := by decide +kernel
theorem dX9_fooled_91 : decode cX9_fooled 91 = .ok (.if_icmp .le 8, 3) := by decide +kernel
theorem dX9_fooled_94 : decode cX9_fooled 94 = .ok (.iload 5, 2) := by decide +kernel
theorem dX9_fooled_96 : decode cX9_fooled 96 = .ok (.goto 4, 3) := by decide +kernel
theorem dX9_fooled_99 : decode cX9_fooled 99 = .ok (.iload_n 3, 1) := by decide +kernel
theorem dX9_fooled_100 : decode cX9_fooled 100 = .ok (.istore_n 3, 1) := by decide +kernel
theorem dX9_fooled_101 : decode cX9_fooled 101 = .ok (.iinc 4 50, 3) := by decide +kernel
theorem dX9_fooled_104 : decode cX9_fooled 104 = .ok (.goto (-84), 3) := by decide +kernel
theorem dX9_fooled_107 : decode cX9_fooled 107 = .ok (.iload_n 1, 1) := by decide +kernel
theorem dX9_fooled_108 : decode cX9_fooled 108 = .ok (.ifCond .ne 7, 3) := by decide +kernel
theorem dX9_fooled_111 : decode cX9_fooled 111 = .ok (.iload_n 2, 1) := by decide +kernel
theorem dX9_fooled_112 : decode cX9_fooled 112 = .ok (.goto 4, 3) := by decide +kernel
theorem dX9_fooled_115 : decode cX9_fooled 115 = .ok (.iload_n 3, 1) := by decide +kernel
theorem dX9_fooled_116 : decode cX9_fooled 116 = .ok (.ireturn, 1) := by decide +kernel
theorem dX9_weigh_0 : decode cX9_weigh 0 = .ok (.iload_n 1, 1) := by decide +kernel
theorem dX9_weigh_1 : decode cX9_weigh 1 = .ok (.i2l, 1) := by decide +kernel
theorem dX9_weigh_2 : decode cX9_weigh 2 = .ok (.lconst 0, 1) := by decide +kernel
theorem dX9_weigh_3 : decode cX9_weigh 3 = .ok (.ldc2_w 282, 3) := by decide +kernel
theorem dX9_weigh_6 : decode cX9_weigh 6 = .ok (.invokestatic 90, 3) := by decide +kernel
theorem dX9_weigh_9 : decode cX9_weigh 9 = .ok (.ifCond .ne 6, 3) := by decide +kernel
theorem dX9_weigh_12 : decode cX9_weigh 12 = .ok (.ldc 216, 2) := by decide +kernel
theorem dX9_weigh_14 : decode cX9_weigh 14 = .ok (.ireturn, 1) := by decide +kernel
theorem dX9_weigh_15 : decode cX9_weigh 15 = .ok (.iload_n 2, 1) := by decide +kernel
theorem dX9_weigh_16 : decode cX9_weigh 16 = .ok (.i2l, 1) := by decide +kernel
theorem dX9_weigh_17 : decode cX9_weigh 17 = .ok (.lconst 0, 1) := by decide +kernel
theorem dX9_weigh_18 : decode cX9_weigh 18 = .ok (.ldc2_w 284, 3) := by decide +kernel
theorem dX9_weigh_21 : decode cX9_weigh 21 = .ok (.invokestatic 90, 3) := by decide +kernel
theorem dX9_weigh_24 : decode cX9_weigh 24 = .ok (.ifCond .ne 6, 3) := by decide +kernel
theorem dX9_weigh_27 : decode cX9_weigh 27 = .ok (.ldc 99, 2) := by decide +kernel
theorem dX9_weigh_29 : decode cX9_weigh 29 = .ok (.ireturn, 1) := by decide +kernel
theorem dX9_weigh_30 : decode cX9_weigh 30 = .ok (.aload_n 0, 1) := by decide +kernel
theorem dX9_weigh_31 : decode cX9_weigh 31 = .ok (.getfield 23, 3) := by decide +kernel
theorem dX9_weigh_34 : decode cX9_weigh 34 = .ok (.iload_n 1, 1) := by decide +kernel
theorem dX9_weigh_35 : decode cX9_weigh 35 = .ok (.iaload, 1) := by decide +kernel
theorem dX9_weigh_36 : decode cX9_weigh 36 = .ok (.istore_n 3, 1) := by decide +kernel
theorem dX9_weigh_37 : decode cX9_weigh 37 = .ok (.aload_n 0, 1) := by decide +kernel
theorem dX9_weigh_38 : decode cX9_weigh 38 = .ok (.getfield 23, 3) := by decide +kernel
theorem dX9_weigh_41 : decode cX9_weigh 41 = .ok (.iload_n 1, 1) := by decide +kernel
theorem dX9_weigh_42 : decode cX9_weigh 42 = .ok (.iload_n 2, 1) := by decide +kernel
theorem dX9_weigh_43 : decode cX9_weigh 43 = .ok (.iastore, 1) := by decide +kernel
theorem dX9_weigh_44 : decode cX9_weigh 44 = .ok (.iload_n 3, 1) := by decide +kernel
theorem dX9_weigh_45 : decode cX9_weigh 45 = .ok (.ireturn, 1) := by decide +kernel
theorem dX9_doneMany_0 : decode cX9_doneMany 0 = .ok (.iconst 0, 1) := by decide +kernel
theorem dX9_doneMany_1 : decode cX9_doneMany 1 = .ok (.istore_n 1, 1) := by decide +kernel
theorem dX9_doneMany_2 : decode cX9_doneMany 2 = .ok (.iconst 0, 1) := by decide +kernel
theorem dX9_doneMany_3 : decode cX9_doneMany 3 = .ok (.istore_n 2, 1) := by decide +kernel
theorem dX9_doneMany_4 : decode cX9_doneMany 4 = .ok (.iload_n 2, 1) := by decide +kernel
theorem dX9_doneMany_5 : decode cX9_doneMany 5 = .ok (.aload_n 0, 1) := by decide +kernel
theorem dX9_doneMany_6 : decode cX9_doneMany 6 = .ok (.getfield 94, 3) := by decide +kernel
theorem dX9_doneMany_9 : decode cX9_doneMany 9 = .ok (.if_icmp .ge 26, 3) := by decide +kernel
theorem dX9_doneMany_12 : decode cX9_doneMany 12 = .ok (.iload_n 1, 1) := by decide +kernel
theorem dX9_doneMany_13 : decode cX9_doneMany 13 = .ok (.aload_n 0, 1) := by decide +kernel
theorem dX9_doneMany_14 : decode cX9_doneMany 14 = .ok (.getfield 26, 3) := by decide +kernel
theorem dX9_doneMany_17 : decode cX9_doneMany 17 = .ok (.iload_n 2, 1) := by decide +kernel
theorem dX9_doneMany_18 : decode cX9_doneMany 18 = .ok (.iaload, 1) := by decide +kernel
theorem dX9_doneMany_19 : decode cX9_doneMany 19 = .ok (.ifCond .le 7, 3) := by decide +kernel
theorem dX9_doneMany_22 : decode cX9_doneMany 22 = .ok (.iconst 1, 1) := by decide +kernel
theorem dX9_doneMany_23 : decode cX9_doneMany 23 = .ok (.goto 4, 3) := by decide +kernel
theorem dX9_doneMany_26 : decode cX9_doneMany 26 = .ok (.iconst 0, 1) := by decide +kernel
theorem dX9_doneMany_27 : decode cX9_doneMany 27 = .ok (.iadd, 1) := by decide +kernel
theorem dX9_doneMany_28 : decode cX9_doneMany 28 = .ok (.istore_n 1, 1) := by decide +kernel
theorem dX9_doneMany_29 : decode cX9_doneMany 29 = .ok (.iinc 2 1, 3) := by decide +kernel
theorem dX9_doneMany_32 : decode cX9_doneMany 32 = .ok (.goto (-28), 3) := by decide +kernel
theorem dX9_doneMany_35 : decode cX9_doneMany 35 = .ok (.iload_n 1, 1) := by decide +kernel
theorem dX9_doneMany_36 : decode cX9_doneMany 36 = .ok (.ireturn, 1) := by decide +kernel
theorem dX9_result_0 : decode cX9_result 0 = .ok (.aload_n 0, 1) := by decide +kernel
theorem dX9_result_1 : decode cX9_result 1 = .ok (.iload_n 1, 1) := by decide +kernel
theorem dX9_result_2 : decode cX9_result 2 = .ok (.invokevirtual 222, 3) := by decide +kernel
theorem dX9_result_5 : decode cX9_result 5 = .ok (.ifCond .ne 6, 3) := by decide +kernel
theorem dX9_result_8 : decode cX9_result 8 = .ok (.ldc 216, 2) := by decide +kernel
theorem dX9_result_10 : decode cX9_result 10 = .ok (.ireturn, 1) := by decide +kernel
theorem dX9_result_11 : decode cX9_result 11 = .ok (.aload_n 0, 1) := by decide +kernel
theorem dX9_result_12 : decode cX9_result 12 = .ok (.getfield 26, 3) := by decide +kernel
theorem dX9_result_15 : decode cX9_result 15 = .ok (.iload_n 1, 1) := by decide +kernel
theorem dX9_result_16 : decode cX9_result 16 = .ok (.iaload, 1) := by decide +kernel
theorem dX9_result_17 : decode cX9_result 17 = .ok (.ifCond .le 7, 3) := by decide +kernel
theorem dX9_result_20 : decode cX9_result 20 = .ok (.ldc_w 277, 3) := by decide +kernel
theorem dX9_result_23 : decode cX9_result 23 = .ok (.ireturn, 1) := by decide +kernel
theorem dX9_result_24 : decode cX9_result 24 = .ok (.aload_n 0, 1) := by decide +kernel
theorem dX9_result_25 : decode cX9_result 25 = .ok (.getfield 26, 3) := by decide +kernel
theorem dX9_result_28 : decode cX9_result 28 = .ok (.iload_n 1, 1) := by decide +kernel
theorem dX9_result_29 : decode cX9_result 29 = .ok (.iload_n 2, 1) := by decide +kernel
theorem dX9_result_30 : decode cX9_result 30 = .ok (.ifCond .eq 7, 3) := by decide +kernel
theorem dX9_result_33 : decode cX9_result 33 = .ok (.iconst 1, 1) := by decide +kernel
theorem dX9_result_34 : decode cX9_result 34 = .ok (.goto 4, 3) := by decide +kernel
theorem dX9_result_37 : decode cX9_result 37 = .ok (.iconst 2, 1) := by decide +kernel
theorem dX9_result_38 : decode cX9_result 38 = .ok (.iastore, 1) := by decide +kernel
theorem dX9_result_39 : decode cX9_result 39 = .ok (.aload_n 0, 1) := by decide +kernel
theorem dX9_result_40 : decode cX9_result 40 = .ok (.invokevirtual 286, 3) := by decide +kernel
theorem dX9_result_43 : decode cX9_result 43 = .ok (.ireturn, 1) := by decide +kernel
theorem dX9_forget_0 : decode cX9_forget 0 = .ok (.aload_n 0, 1) := by decide +kernel
theorem dX9_forget_1 : decode cX9_forget 1 = .ok (.invokevirtual 286, 3) := by decide +kernel
theorem dX9_forget_4 : decode cX9_forget 4 = .ok (.istore_n 1, 1) := by decide +kernel
theorem dX9_forget_5 : decode cX9_forget 5 = .ok (.iconst 0, 1) := by decide +kernel
theorem dX9_forget_6 : decode cX9_forget 6 = .ok (.istore_n 2, 1) := by decide +kernel
theorem dX9_forget_7 : decode cX9_forget 7 = .ok (.iload_n 2, 1) := by decide +kernel
theorem dX9_forget_8 : decode cX9_forget 8 = .ok (.bipush 6, 2) := by decide +kernel
theorem dX9_forget_10 : decode cX9_forget 10 = .ok (.if_icmp .ge 16, 3) := by decide +kernel
theorem dX9_forget_13 : decode cX9_forget 13 = .ok (.aload_n 0, 1) := by decide +kernel
theorem dX9_forget_14 : decode cX9_forget 14 = .ok (.getfield 26, 3) := by decide +kernel
theorem dX9_forget_17 : decode cX9_forget 17 = .ok (.iload_n 2, 1) := by decide +kernel
theorem dX9_forget_18 : decode cX9_forget 18 = .ok (.iconst 0, 1) := by decide +kernel
theorem dX9_forget_19 : decode cX9_forget 19 = .ok (.iastore, 1) := by decide +kernel
theorem dX9_forget_20 : decode cX9_forget 20 = .ok (.iinc 2 1, 3) := by decide +kernel
theorem dX9_forget_23 : decode cX9_forget 23 = .ok (.goto (-16), 3) := by decide +kernel
theorem dX9_forget_26 : decode cX9_forget 26 = .ok (.iload_n 1, 1) := by decide +kernel
theorem dX9_forget_27 : decode cX9_forget 27 = .ok (.ireturn, 1) := by decide +kernel
theorem dX9_lacks_0 : decode cX9_lacks 0 = .ok (.aload_n 0, 1) := by decide +kernel
theorem dX9_lacks_1 : decode cX9_lacks 1 = .ok (.getfield 20, 3) := by decide +kernel
theorem dX9_lacks_4 : decode cX9_lacks 4 = .ok (.iconst 4, 1) := by decide +kernel
theorem dX9_lacks_5 : decode cX9_lacks 5 = .ok (.iload_n 1, 1) := by decide +kernel
theorem dX9_lacks_6 : decode cX9_lacks 6 = .ok (.imul, 1) := by decide +kernel
theorem dX9_lacks_7 : decode cX9_lacks 7 = .ok (.iconst 3, 1) := by decide +kernel
theorem dX9_lacks_8 : decode cX9_lacks 8 = .ok (.iadd, 1) := by decide +kernel
theorem dX9_lacks_9 : decode cX9_lacks 9 = .ok (.iaload, 1) := by decide +kernel
theorem dX9_lacks_10 : decode cX9_lacks 10 = .ok (.iload_n 2, 1) := by decide +kernel
theorem dX9_lacks_11 : decode cX9_lacks 11 = .ok (.iand, 1) := by decide +kernel
theorem dX9_lacks_12 : decode cX9_lacks 12 = .ok (.ifCond .eq 7, 3) := by decide +kernel
theorem dX9_lacks_15 : decode cX9_lacks 15 = .ok (.iconst 1, 1) := by decide +kernel
theorem dX9_lacks_16 : decode cX9_lacks 16 = .ok (.goto 4, 3) := by decide +kernel
theorem dX9_lacks_19 : decode cX9_lacks 19 = .ok (.iconst 0, 1) := by decide +kernel
theorem dX9_lacks_20 : decode cX9_lacks 20 = .ok (.ireturn, 1) := by decide +kernel
theorem dX9_shareOf_0 : decode cX9_shareOf 0 = .ok (.aload_n 0, 1) := by decide +kernel
theorem dX9_shareOf_1 : decode cX9_shareOf 1 = .ok (.iload_n 1, 1) := by decide +kernel
theorem dX9_shareOf_2 : decode cX9_shareOf 2 = .ok (.iload_n 2, 1) := by decide +kernel
theorem dX9_shareOf_3 : decode cX9_shareOf 3 = .ok (.invokevirtual 289, 3) := by decide +kernel
theorem dX9_shareOf_6 : decode cX9_shareOf 6 = .ok (.ifCond .eq 16, 3) := by decide +kernel
theorem dX9_shareOf_9 : decode cX9_shareOf 9 = .ok (.aload_n 0, 1) := by decide +kernel
theorem dX9_shareOf_10 : decode cX9_shareOf 10 = .ok (.getfield 20, 3) := by decide +kernel
theorem dX9_shareOf_13 : decode cX9_shareOf 13 = .ok (.iconst 4, 1) := by decide +kernel
theorem dX9_shareOf_14 : decode cX9_shareOf 14 = .ok (.iload_n 1, 1) := by decide +kernel
theorem dX9_shareOf_15 : decode cX9_shareOf 15 = .ok (.imul, 1) := by decide +kernel
theorem dX9_shareOf_16 : decode cX9_shareOf 16 = .ok (.iconst 2, 1) := by decide +kernel
theorem dX9_shareOf_17 : decode cX9_shareOf 17 = .ok (.iadd, 1) := by decide +kernel
theorem dX9_shareOf_18 : decode cX9_shareOf 18 = .ok (.iaload, 1) := by decide +kernel
theorem dX9_shareOf_19 : decode cX9_shareOf 19 = .ok (.goto 16, 3) := by decide +kernel
theorem dX9_shareOf_22 : decode cX9_shareOf 22 = .ok (.bipush 100, 2) := by decide +kernel
theorem dX9_shareOf_24 : decode cX9_shareOf 24 = .ok (.aload_n 0, 1) := by decide +kernel
theorem dX9_shareOf_25 : decode cX9_shareOf 25 = .ok (.getfield 20, 3) := by decide +kernel
theorem dX9_shareOf_28 : decode cX9_shareOf 28 = .ok (.iconst 4, 1) := by decide +kernel
theorem dX9_shareOf_29 : decode cX9_shareOf 29 = .ok (.iload_n 1, 1) := by decide +kernel
theorem dX9_shareOf_30 : decode cX9_shareOf 30 = .ok (.imul, 1) := by decide +kernel
theorem dX9_shareOf_31 : decode cX9_shareOf 31 = .ok (.iconst 1, 1) := by decide +kernel
theorem dX9_shareOf_32 : decode cX9_shareOf 32 = .ok (.iadd, 1) := by decide +kernel
theorem dX9_shareOf_33 : decode cX9_shareOf 33 = .ok (.iaload, 1) := by decide +kernel
theorem dX9_shareOf_34 : decode cX9_shareOf 34 = .ok (.isub, 1) := by decide +kernel
theorem dX9_shareOf_35 : decode cX9_shareOf 35 = .ok (.istore 4, 2) := by decide +kernel
theorem dX9_shareOf_37 : decode cX9_shareOf 37 = .ok (.iload_n 3, 1) := by decide +kernel
theorem dX9_shareOf_38 : decode cX9_shareOf 38 = .ok (.iconst 1, 1) := by decide +kernel
theorem dX9_shareOf_39 : decode cX9_shareOf 39 = .ok (.if_icmp .ne 8, 3) := by decide +kernel
theorem dX9_shareOf_42 : decode cX9_shareOf 42 = .ok (.iload 4, 2) := by decide +kernel
theorem dX9_shareOf_44 : decode cX9_shareOf 44 = .ok (.goto 8, 3) := by decide +kernel
theorem dX9_shareOf_47 : decode cX9_shareOf 47 = .ok (.bipush 100, 2) := by decide +kernel
theorem dX9_shareOf_49 : decode cX9_shareOf 49 = .ok (.iload 4, 2) := by decide +kernel
theorem dX9_shareOf_51 : decode cX9_shareOf 51 = .ok (.isub, 1) := by decide +kernel
theorem dX9_shareOf_52 : decode cX9_shareOf 52 = .ok (.ireturn, 1) := by decide +kernel
theorem dX9_oddsOf_0 : decode cX9_oddsOf 0 = .ok (.aload_n 0, 1) := by decide +kernel
theorem dX9_oddsOf_1 : decode cX9_oddsOf 1 = .ok (.getfield 23, 3) := by decide +kernel
theorem dX9_oddsOf_4 : decode cX9_oddsOf 4 = .ok (.iload_n 1, 1) := by decide +kernel
theorem dX9_oddsOf_5 : decode cX9_oddsOf 5 = .ok (.iaload, 1) := by decide +kernel
theorem dX9_oddsOf_6 : decode cX9_oddsOf 6 = .ok (.i2l, 1) := by decide +kernel
theorem dX9_oddsOf_7 : decode cX9_oddsOf 7 = .ok (.lstore_n 2, 1) := by decide +kernel
theorem dX9_oddsOf_8 : decode cX9_oddsOf 8 = .ok (.iconst 0, 1) := by decide +kernel
theorem dX9_oddsOf_9 : decode cX9_oddsOf 9 = .ok (.istore 4, 2) := by decide +kernel
theorem dX9_oddsOf_11 : decode cX9_oddsOf 11 = .ok (.iload 4, 2) := by decide +kernel
theorem dX9_oddsOf_13 : decode cX9_oddsOf 13 = .ok (.aload_n 0, 1) := by decide +kernel
theorem dX9_oddsOf_14 : decode cX9_oddsOf 14 = .ok (.getfield 94, 3) := by decide +kernel
theorem dX9_oddsOf_17 : decode cX9_oddsOf 17 = .ok (.if_icmp .ge 41, 3) := by decide +kernel
theorem dX9_oddsOf_20 : decode cX9_oddsOf 20 = .ok (.lload_n 2, 1) := by decide +kernel
theorem dX9_oddsOf_21 : decode cX9_oddsOf 21 = .ok (.aload_n 0, 1) := by decide +kernel
theorem dX9_oddsOf_22 : decode cX9_oddsOf 22 = .ok (.getfield 26, 3) := by decide +kernel
theorem dX9_oddsOf_25 : decode cX9_oddsOf 25 = .ok (.iload 4, 2) := by decide +kernel
theorem dX9_oddsOf_27 : decode cX9_oddsOf 27 = .ok (.iaload, 1) := by decide +kernel
theorem dX9_oddsOf_28 : decode cX9_oddsOf 28 = .ok (.ifCond .le 21, 3) := by decide +kernel
theorem dX9_oddsOf_31 : decode cX9_oddsOf 31 = .ok (.aload_n 0, 1) := by decide +kernel
theorem dX9_oddsOf_32 : decode cX9_oddsOf 32 = .ok (.iload 4, 2) := by decide +kernel
theorem dX9_oddsOf_34 : decode cX9_oddsOf 34 = .ok (.iload_n 1, 1) := by decide +kernel
theorem dX9_oddsOf_35 : decode cX9_oddsOf 35 = .ok (.aload_n 0, 1) := by decide +kernel
theorem dX9_oddsOf_36 : decode cX9_oddsOf 36 = .ok (.getfield 26, 3) := by decide +kernel
theorem dX9_oddsOf_39 : decode cX9_oddsOf 39 = .ok (.iload 4, 2) := by decide +kernel
theorem dX9_oddsOf_41 : decode cX9_oddsOf 41 = .ok (.iaload, 1) := by decide +kernel
theorem dX9_oddsOf_42 : decode cX9_oddsOf 42 = .ok (.invokevirtual 292, 3) := by decide +kernel
theorem dX9_oddsOf_45 : decode cX9_oddsOf 45 = .ok (.i2l, 1) := by decide +kernel
theorem dX9_oddsOf_46 : decode cX9_oddsOf 46 = .ok (.goto 4, 3) := by decide +kernel
theorem dX9_oddsOf_49 : decode cX9_oddsOf 49 = .ok (.lconst 1, 1) := by decide +kernel
theorem dX9_oddsOf_50 : decode cX9_oddsOf 50 = .ok (.lmul, 1) := by decide +kernel
theorem dX9_oddsOf_51 : decode cX9_oddsOf 51 = .ok (.lstore_n 2, 1) := by decide +kernel
theorem dX9_oddsOf_52 : decode cX9_oddsOf 52 = .ok (.iinc 4 1, 3) := by decide +kernel
theorem dX9_oddsOf_55 : decode cX9_oddsOf 55 = .ok (.goto (-44), 3) := by decide +kernel
theorem dX9_oddsOf_58 : decode cX9_oddsOf 58 = .ok (.lload_n 2, 1) := by decide +kernel
theorem dX9_oddsOf_59 : decode cX9_oddsOf 59 = .ok (.lreturn, 1) := by decide +kernel
theorem dX9_odds_0 : decode cX9_odds 0 = .ok (.iload_n 1, 1) := by decide +kernel
theorem dX9_odds_1 : decode cX9_odds 1 = .ok (.iconst (-1), 1) := by decide +kernel
theorem dX9_odds_2 : decode cX9_odds 2 = .ok (.if_icmp .ne 8, 3) := by decide +kernel
theorem dX9_odds_5 : decode cX9_odds 5 = .ok (.aload_n 0, 1) := by decide +kernel
theorem dX9_odds_6 : decode cX9_odds 6 = .ok (.invokevirtual 296, 3) := by decide +kernel
theorem dX9_odds_9 : decode cX9_odds 9 = .ok (.lreturn, 1) := by decide +kernel
theorem dX9_odds_10 : decode cX9_odds 10 = .ok (.iload_n 1, 1) := by decide +kernel
theorem dX9_odds_11 : decode cX9_odds 11 = .ok (.i2l, 1) := by decide +kernel
theorem dX9_odds_12 : decode cX9_odds 12 = .ok (.lconst 0, 1) := by decide +kernel
theorem dX9_odds_13 : decode cX9_odds 13 = .ok (.ldc2_w 282, 3) := by decide +kernel
theorem dX9_odds_16 : decode cX9_odds 16 = .ok (.invokestatic 90, 3) := by decide +kernel
theorem dX9_odds_19 : decode cX9_odds 19 = .ok (.ifCond .eq 11, 3) := by decide +kernel
theorem dX9_odds_22 : decode cX9_odds 22 = .ok (.aload_n 0, 1) := by decide +kernel
theorem dX9_odds_23 : decode cX9_odds 23 = .ok (.iload_n 1, 1) := by decide +kernel
theorem dX9_odds_24 : decode cX9_odds 24 = .ok (.invokevirtual 300, 3) := by decide +kernel
theorem dX9_odds_27 : decode cX9_odds 27 = .ok (.goto 6, 3) := by decide +kernel
theorem dX9_odds_30 : decode cX9_odds 30 = .ok (.ldc2_w 304, 3) := by decide +kernel
theorem dX9_odds_33 : decode cX9_odds 33 = .ok (.lreturn, 1) := by decide +kernel
theorem dX9_allOdds_0 : decode cX9_allOdds 0 = .ok (.lconst 0, 1) := by decide +kernel
theorem dX9_allOdds_1 : decode cX9_allOdds 1 = .ok (.lstore_n 1, 1) := by decide +kernel
theorem dX9_allOdds_2 : decode cX9_allOdds 2 = .ok (.iconst 0, 1) := by decide +kernel
theorem dX9_allOdds_3 : decode cX9_allOdds 3 = .ok (.istore_n 3, 1) := by decide +kernel
theorem dX9_allOdds_4 : decode cX9_allOdds 4 = .ok (.iload_n 3, 1) := by decide +kernel
theorem dX9_allOdds_5 : decode cX9_allOdds 5 = .ok (.bipush 16, 2) := by decide +kernel
theorem dX9_allOdds_7 : decode cX9_allOdds 7 = .ok (.if_icmp .ge 17, 3) := by decide +kernel
theorem dX9_allOdds_10 : decode cX9_allOdds 10 = .ok (.lload_n 1, 1) := by decide +kernel
theorem dX9_allOdds_11 : decode cX9_allOdds 11 = .ok (.aload_n 0, 1) := by decide +kernel
theorem dX9_allOdds_12 : decode cX9_allOdds 12 = .ok (.iload_n 3, 1) := by decide +kernel
theorem dX9_allOdds_13 : decode cX9_allOdds 13 = .ok (.invokevirtual 300, 3) := by decide +kernel
theorem dX9_allOdds_16 : decode cX9_allOdds 16 = .ok (.ladd, 1) := by decide +kernel
theorem dX9_allOdds_17 : decode cX9_allOdds 17 = .ok (.lstore_n 1, 1) := by decide +kernel
theorem dX9_allOdds_18 : decode cX9_allOdds 18 = .ok (.iinc 3 1, 3) := by decide +kernel
theorem dX9_allOdds_21 : decode cX9_allOdds 21 = .ok (.goto (-17), 3) := by decide +kernel
theorem dX9_allOdds_24 : decode cX9_allOdds 24 = .ok (.lload_n 1, 1) := by decide +kernel
theorem dX9_allOdds_25 : decode cX9_allOdds 25 = .ok (.lreturn, 1) := by decide +kernel
theorem dX9_greatest_0 : decode cX9_greatest 0 = .ok (.lconst 0, 1) := by decide +kernel
theorem dX9_greatest_1 : decode cX9_greatest 1 = .ok (.lstore_n 1, 1) := by decide +kernel
theorem dX9_greatest_2 : decode cX9_greatest 2 = .ok (.iconst 0, 1) := by decide +kernel
theorem dX9_greatest_3 : decode cX9_greatest 3 = .ok (.istore_n 3, 1) := by decide +kernel
theorem dX9_greatest_4 : decode cX9_greatest 4 = .ok (.iload_n 3, 1) := by decide +kernel
theorem dX9_greatest_5 : decode cX9_greatest 5 = .ok (.bipush 16, 2) := by decide +kernel
theorem dX9_greatest_7 : decode cX9_greatest 7 = .ok (.if_icmp .ge 30, 3) := by decide +kernel
theorem dX9_greatest_10 : decode cX9_greatest 10 = .ok (.aload_n 0, 1) := by decide +kernel
theorem dX9_greatest_11 : decode cX9_greatest 11 = .ok (.iload_n 3, 1) := by decide +kernel
theorem dX9_greatest_12 : decode cX9_greatest 12 = .ok (.invokevirtual 300, 3) := by decide +kernel
theorem dX9_greatest_15 : decode cX9_greatest 15 = .ok (.lstore 4, 2) := by decide +kernel
theorem dX9_greatest_17 : decode cX9_greatest 17 = .ok (.lload 4, 2) := by decide +kernel
theorem dX9_greatest_19 : decode cX9_greatest 19 = .ok (.lload_n 1, 1) := by decide +kernel
theorem dX9_greatest_20 : decode cX9_greatest 20 = .ok (.lcmp, 1) := by decide +kernel
theorem dX9_greatest_21 : decode cX9_greatest 21 = .ok (.ifCond .le 8, 3) := by decide +kernel
theorem dX9_greatest_24 : decode cX9_greatest 24 = .ok (.lload 4, 2) := by decide +kernel
theorem dX9_greatest_26 : decode cX9_greatest 26 = .ok (.goto 4, 3) := by decide +kernel
theorem dX9_greatest_29 : decode cX9_greatest 29 = .ok (.lload_n 1, 1) := by decide +kernel
theorem dX9_greatest_30 : decode cX9_greatest 30 = .ok (.lstore_n 1, 1) := by decide +kernel
theorem dX9_greatest_31 : decode cX9_greatest 31 = .ok (.iinc 3 1, 3) := by decide +kernel
theorem dX9_greatest_34 : decode cX9_greatest 34 = .ok (.goto (-30), 3) := by decide +kernel
theorem dX9_greatest_37 : decode cX9_greatest 37 = .ok (.lload_n 1, 1) := by decide +kernel
theorem dX9_greatest_38 : decode cX9_greatest 38 = .ok (.lreturn, 1) := by decide +kernel
theorem dX9_partsBy_0 : decode cX9_partsBy 0 = .ok (.aload_n 0, 1) := by decide +kernel
theorem dX9_partsBy_1 : decode cX9_partsBy 1 = .ok (.getfield 26, 3) := by decide +kernel
theorem dX9_partsBy_4 : decode cX9_partsBy 4 = .ok (.iload_n 1, 1) := by decide +kernel
theorem dX9_partsBy_5 : decode cX9_partsBy 5 = .ok (.iconst 1, 1) := by decide +kernel
theorem dX9_partsBy_6 : decode cX9_partsBy 6 = .ok (.iastore, 1) := by decide +kernel
theorem dX9_partsBy_7 : decode cX9_partsBy 7 = .ok (.aload_n 0, 1) := by decide +kernel
theorem dX9_partsBy_8 : decode cX9_partsBy 8 = .ok (.invokevirtual 306, 3) := by decide +kernel
theorem dX9_partsBy_11 : decode cX9_partsBy 11 = .ok (.lstore_n 2, 1) := by decide +kernel
theorem dX9_partsBy_12 : decode cX9_partsBy 12 = .ok (.aload_n 0, 1) := by decide +kernel
theorem dX9_partsBy_13 : decode cX9_partsBy 13 = .ok (.getfield 26, 3) := by decide +kernel
theorem dX9_partsBy_16 : decode cX9_partsBy 16 = .ok (.iload_n 1, 1) := by decide +kernel
theorem dX9_partsBy_17 : decode cX9_partsBy 17 = .ok (.iconst 2, 1) := by decide +kernel
theorem dX9_partsBy_18 : decode cX9_partsBy 18 = .ok (.iastore, 1) := by decide +kernel
theorem dX9_partsBy_19 : decode cX9_partsBy 19 = .ok (.lload_n 2, 1) := by decide +kernel
theorem dX9_partsBy_20 : decode cX9_partsBy 20 = .ok (.aload_n 0, 1) := by decide +kernel
theorem dX9_partsBy_21 : decode cX9_partsBy 21 = .ok (.invokevirtual 306, 3) := by decide +kernel
theorem dX9_partsBy_24 : decode cX9_partsBy 24 = .ok (.ladd, 1) := by decide +kernel
theorem dX9_partsBy_25 : decode cX9_partsBy 25 = .ok (.lstore_n 2, 1) := by decide +kernel
theorem dX9_partsBy_26 : decode cX9_partsBy 26 = .ok (.aload_n 0, 1) := by decide +kernel
theorem dX9_partsBy_27 : decode cX9_partsBy 27 = .ok (.getfield 26, 3) := by decide +kernel
theorem dX9_partsBy_30 : decode cX9_partsBy 30 = .ok (.iload_n 1, 1) := by decide +kernel
theorem dX9_partsBy_31 : decode cX9_partsBy 31 = .ok (.iconst 0, 1) := by decide +kernel
theorem dX9_partsBy_32 : decode cX9_partsBy 32 = .ok (.iastore, 1) := by decide +kernel
theorem dX9_partsBy_33 : decode cX9_partsBy 33 = .ok (.lload_n 2, 1) := by decide +kernel
theorem dX9_partsBy_34 : decode cX9_partsBy 34 = .ok (.lreturn, 1) := by decide +kernel
theorem dX9_next_0 : decode cX9_next 0 = .ok (.iconst (-1), 1) := by decide +kernel
theorem dX9_next_1 : decode cX9_next 1 = .ok (.istore_n 1, 1) := by decide +kernel
theorem dX9_next_2 : decode cX9_next 2 = .ok (.lconst 0, 1) := by decide +kernel
theorem dX9_next_3 : decode cX9_next 3 = .ok (.lstore_n 2, 1) := by decide +kernel
theorem dX9_next_4 : decode cX9_next 4 = .ok (.iconst 0, 1) := by decide +kernel
theorem dX9_next_5 : decode cX9_next 5 = .ok (.istore 4, 2) := by decide +kernel
theorem dX9_next_7 : decode cX9_next 7 = .ok (.iload 4, 2) := by decide +kernel
theorem dX9_next_9 : decode cX9_next 9 = .ok (.aload_n 0, 1) := by decide +kernel
theorem dX9_next_10 : decode cX9_next 10 = .ok (.getfield 94, 3) := by decide +kernel
theorem dX9_next_13 : decode cX9_next 13 = .ok (.if_icmp .ge 96, 3) := by decide +kernel
theorem dX9_next_16 : decode cX9_next 16 = .ok (.aload_n 0, 1) := by decide +kernel
theorem dX9_next_17 : decode cX9_next 17 = .ok (.getfield 26, 3) := by decide +kernel
theorem dX9_next_20 : decode cX9_next 20 = .ok (.iload 4, 2) := by decide +kernel
theorem dX9_next_22 : decode cX9_next 22 = .ok (.iaload, 1) := by decide +kernel
theorem dX9_next_23 : decode cX9_next 23 = .ok (.ifCond .ne 80, 3) := by decide +kernel
theorem dX9_next_26 : decode cX9_next 26 = .ok (.aload_n 0, 1) := by decide +kernel
theorem dX9_next_27 : decode cX9_next 27 = .ok (.iload 4, 2) := by decide +kernel
theorem dX9_next_29 : decode cX9_next 29 = .ok (.invokevirtual 309, 3) := by decide +kernel
theorem dX9_next_32 : decode cX9_next 32 = .ok (.lstore 5, 2) := by decide +kernel
theorem dX9_next_34 : decode cX9_next 34 = .ok (.iload_n 1, 1) := by decide +kernel
theorem dX9_next_35 : decode cX9_next 35 = .ok (.ifCond .lt 37, 3) := by decide +kernel
theorem dX9_next_38 : decode cX9_next 38 = .ok (.lload 5, 2) := by decide +kernel
theorem dX9_next_40 : decode cX9_next 40 = .ok (.lload_n 2, 1) := by decide +kernel
theorem dX9_next_41 : decode cX9_next 41 = .ok (.lcmp, 1) := by decide +kernel
theorem dX9_next_42 : decode cX9_next 42 = .ok (.ifCond .gt 30, 3) := by decide +kernel
theorem dX9_next_45 : decode cX9_next 45 = .ok (.lload 5, 2) := by decide +kernel
theorem dX9_next_47 : decode cX9_next 47 = .ok (.lload_n 2, 1) := by decide +kernel
theorem dX9_next_48 : decode cX9_next 48 = .ok (.lcmp, 1) := by decide +kernel
theorem dX9_next_49 : decode cX9_next 49 = .ok (.ifCond .ne 27, 3) := by decide +kernel
theorem dX9_next_52 : decode cX9_next 52 = .ok (.aload_n 0, 1) := by decide +kernel
theorem dX9_next_53 : decode cX9_next 53 = .ok (.getfield 20, 3) := by decide +kernel
theorem dX9_next_56 : decode cX9_next 56 = .ok (.iconst 4, 1) := by decide +kernel
theorem dX9_next_57 : decode cX9_next 57 = .ok (.iload 4, 2) := by decide +kernel
theorem dX9_next_59 : decode cX9_next 59 = .ok (.imul, 1) := by decide +kernel
theorem dX9_next_60 : decode cX9_next 60 = .ok (.iaload, 1) := by decide +kernel
theorem dX9_next_61 : decode cX9_next 61 = .ok (.aload_n 0, 1) := by decide +kernel
theorem dX9_next_62 : decode cX9_next 62 = .ok (.getfield 20, 3) := by decide +kernel
theorem dX9_next_65 : decode cX9_next 65 = .ok (.iconst 4, 1) := by decide +kernel
theorem dX9_next_66 : decode cX9_next 66 = .ok (.iload_n 1, 1) := by decide +kernel
theorem dX9_next_67 : decode cX9_next 67 = .ok (.imul, 1) := by decide +kernel
theorem dX9_next_68 : decode cX9_next 68 = .ok (.iaload, 1) := by decide +kernel
theorem dX9_next_69 : decode cX9_next 69 = .ok (.if_icmp .ge 7, 3) := by decide +kernel
theorem dX9_next_72 : decode cX9_next 72 = .ok (.iconst 1, 1) := by decide +kernel
theorem dX9_next_73 : decode cX9_next 73 = .ok (.goto 4, 3) := by decide +kernel
theorem dX9_next_76 : decode cX9_next 76 = .ok (.iconst 0, 1) := by decide +kernel
theorem dX9_next_77 : decode cX9_next 77 = .ok (.istore 7, 2) := by decide +kernel
theorem dX9_next_79 : decode cX9_next 79 = .ok (.iload 7, 2) := by decide +kernel
theorem dX9_next_81 : decode cX9_next 81 = .ok (.ifCond .eq 8, 3) := by decide +kernel
theorem dX9_next_84 : decode cX9_next 84 = .ok (.iload 4, 2) := by decide +kernel
theorem dX9_next_86 : decode cX9_next 86 = .ok (.goto 4, 3) := by decide +kernel
theorem dX9_next_89 : decode cX9_next 89 = .ok (.iload_n 1, 1) := by decide +kernel
theorem dX9_next_90 : decode cX9_next 90 = .ok (.istore_n 1, 1) := by decide +kernel
theorem dX9_next_91 : decode cX9_next 91 = .ok (.iload 7, 2) := by decide +kernel
theorem dX9_next_93 : decode cX9_next 93 = .ok (.ifCond .eq 8, 3) := by decide +kernel
theorem dX9_next_96 : decode cX9_next 96 = .ok (.lload 5, 2) := by decide +kernel
theorem dX9_next_98 : decode cX9_next 98 = .ok (.goto 4, 3) := by decide +kernel
theorem dX9_next_101 : decode cX9_next 101 = .ok (.lload_n 2, 1) := by decide +kernel
theorem dX9_next_102 : decode cX9_next 102 = .ok (.lstore_n 2, 1) := by decide +kernel
theorem dX9_next_103 : decode cX9_next 103 = .ok (.iinc 4 1, 3) := by decide +kernel
theorem dX9_next_106 : decode cX9_next 106 = .ok (.goto (-99), 3) := by decide +kernel
theorem dX9_next_109 : decode cX9_next 109 = .ok (.iload_n 1, 1) := by decide +kernel
end
section
theorem dX9_next_110 : decode cX9_next 110 = .ok (.ireturn, 1) := by decide +kernel
theorem dX9_power_0 : decode cX9_power 0 = .ok (.iconst 1, 1) := by decide +kernel
theorem dX9_power_1 : decode cX9_power 1 = .ok (.istore_n 1, 1) := by decide +kernel
theorem dX9_power_2 : decode cX9_power 2 = .ok (.iconst 0, 1) := by decide +kernel
theorem dX9_power_3 : decode cX9_power 3 = .ok (.istore_n 2, 1) := by decide +kernel
theorem dX9_power_4 : decode cX9_power 4 = .ok (.iload_n 2, 1) := by decide +kernel
theorem dX9_power_5 : decode cX9_power 5 = .ok (.iload_n 0, 1) := by decide +kernel
theorem dX9_power_6 : decode cX9_power 6 = .ok (.if_icmp .ge 13, 3) := by decide +kernel
theorem dX9_power_9 : decode cX9_power 9 = .ok (.iload_n 1, 1) := by decide +kernel
theorem dX9_power_10 : decode cX9_power 10 = .ok (.iconst 3, 1) := by decide +kernel
theorem dX9_power_11 : decode cX9_power 11 = .ok (.imul, 1) := by decide +kernel
theorem dX9_power_12 : decode cX9_power 12 = .ok (.istore_n 1, 1) := by decide +kernel
theorem dX9_power_13 : decode cX9_power 13 = .ok (.iinc 2 1, 3) := by decide +kernel
theorem dX9_power_16 : decode cX9_power 16 = .ok (.goto (-12), 3) := by decide +kernel
theorem dX9_power_19 : decode cX9_power 19 = .ok (.iload_n 1, 1) := by decide +kernel
theorem dX9_power_20 : decode cX9_power 20 = .ok (.ireturn, 1) := by decide +kernel
theorem dX9_leftOf_0 : decode cX9_leftOf 0 = .ok (.iconst 0, 1) := by decide +kernel
theorem dX9_leftOf_1 : decode cX9_leftOf 1 = .ok (.istore_n 3, 1) := by decide +kernel
theorem dX9_leftOf_2 : decode cX9_leftOf 2 = .ok (.iload_n 3, 1) := by decide +kernel
theorem dX9_leftOf_3 : decode cX9_leftOf 3 = .ok (.bipush 6, 2) := by decide +kernel
theorem dX9_leftOf_5 : decode cX9_leftOf 5 = .ok (.if_icmp .ge 23, 3) := by decide +kernel
theorem dX9_leftOf_8 : decode cX9_leftOf 8 = .ok (.aload_n 0, 1) := by decide +kernel
theorem dX9_leftOf_9 : decode cX9_leftOf 9 = .ok (.getfield 26, 3) := by decide +kernel
theorem dX9_leftOf_12 : decode cX9_leftOf 12 = .ok (.iload_n 3, 1) := by decide +kernel
theorem dX9_leftOf_13 : decode cX9_leftOf 13 = .ok (.iload_n 1, 1) := by decide +kernel
theorem dX9_leftOf_14 : decode cX9_leftOf 14 = .ok (.iload_n 3, 1) := by decide +kernel
theorem dX9_leftOf_15 : decode cX9_leftOf 15 = .ok (.invokestatic 312, 3) := by decide +kernel
theorem dX9_leftOf_18 : decode cX9_leftOf 18 = .ok (.idiv, 1) := by decide +kernel
theorem dX9_leftOf_19 : decode cX9_leftOf 19 = .ok (.iconst 3, 1) := by decide +kernel
theorem dX9_leftOf_20 : decode cX9_leftOf 20 = .ok (.irem, 1) := by decide +kernel
theorem dX9_leftOf_21 : decode cX9_leftOf 21 = .ok (.iastore, 1) := by decide +kernel
theorem dX9_leftOf_22 : decode cX9_leftOf 22 = .ok (.iinc 3 1, 3) := by decide +kernel
theorem dX9_leftOf_25 : decode cX9_leftOf 25 = .ok (.goto (-23), 3) := by decide +kernel
theorem dX9_leftOf_28 : decode cX9_leftOf 28 = .ok (.aload_n 0, 1) := by decide +kernel
theorem dX9_leftOf_29 : decode cX9_leftOf 29 = .ok (.invokevirtual 296, 3) := by decide +kernel
theorem dX9_leftOf_32 : decode cX9_leftOf 32 = .ok (.lstore_n 3, 1) := by decide +kernel
theorem dX9_leftOf_33 : decode cX9_leftOf 33 = .ok (.aload_n 0, 1) := by decide +kernel
theorem dX9_leftOf_34 : decode cX9_leftOf 34 = .ok (.invokevirtual 306, 3) := by decide +kernel
theorem dX9_leftOf_37 : decode cX9_leftOf 37 = .ok (.ldc2_w 315, 3) := by decide +kernel
theorem dX9_leftOf_40 : decode cX9_leftOf 40 = .ok (.lmul, 1) := by decide +kernel
theorem dX9_leftOf_41 : decode cX9_leftOf 41 = .ok (.iload_n 2, 1) := by decide +kernel
theorem dX9_leftOf_42 : decode cX9_leftOf 42 = .ok (.i2l, 1) := by decide +kernel
theorem dX9_leftOf_43 : decode cX9_leftOf 43 = .ok (.lload_n 3, 1) := by decide +kernel
theorem dX9_leftOf_44 : decode cX9_leftOf 44 = .ok (.lmul, 1) := by decide +kernel
theorem dX9_leftOf_45 : decode cX9_leftOf 45 = .ok (.lcmp, 1) := by decide +kernel
theorem dX9_leftOf_46 : decode cX9_leftOf 46 = .ok (.ifCond .lt 5, 3) := by decide +kernel
theorem dX9_leftOf_49 : decode cX9_leftOf 49 = .ok (.iconst 0, 1) := by decide +kernel
theorem dX9_leftOf_50 : decode cX9_leftOf 50 = .ok (.ireturn, 1) := by decide +kernel
theorem dX9_leftOf_51 : decode cX9_leftOf 51 = .ok (.ldc_w 317, 3) := by decide +kernel
theorem dX9_leftOf_54 : decode cX9_leftOf 54 = .ok (.istore 5, 2) := by decide +kernel
theorem dX9_leftOf_56 : decode cX9_leftOf 56 = .ok (.iconst 0, 1) := by decide +kernel
theorem dX9_leftOf_57 : decode cX9_leftOf 57 = .ok (.istore 6, 2) := by decide +kernel
theorem dX9_leftOf_59 : decode cX9_leftOf 59 = .ok (.iload 6, 2) := by decide +kernel
theorem dX9_leftOf_61 : decode cX9_leftOf 61 = .ok (.aload_n 0, 1) := by decide +kernel
theorem dX9_leftOf_62 : decode cX9_leftOf 62 = .ok (.getfield 94, 3) := by decide +kernel
theorem dX9_leftOf_65 : decode cX9_leftOf 65 = .ok (.if_icmp .ge 91, 3) := by decide +kernel
theorem dX9_leftOf_68 : decode cX9_leftOf 68 = .ok (.aload_n 0, 1) := by decide +kernel
theorem dX9_leftOf_69 : decode cX9_leftOf 69 = .ok (.getfield 26, 3) := by decide +kernel
theorem dX9_leftOf_72 : decode cX9_leftOf 72 = .ok (.iload 6, 2) := by decide +kernel
theorem dX9_leftOf_74 : decode cX9_leftOf 74 = .ok (.iaload, 1) := by decide +kernel
theorem dX9_leftOf_75 : decode cX9_leftOf 75 = .ok (.ifCond .ne 75, 3) := by decide +kernel
theorem dX9_leftOf_78 : decode cX9_leftOf 78 = .ok (.aload_n 0, 1) := by decide +kernel
theorem dX9_leftOf_79 : decode cX9_leftOf 79 = .ok (.getfield 54, 3) := by decide +kernel
theorem dX9_leftOf_82 : decode cX9_leftOf 82 = .ok (.iload_n 1, 1) := by decide +kernel
theorem dX9_leftOf_83 : decode cX9_leftOf 83 = .ok (.iload 6, 2) := by decide +kernel
theorem dX9_leftOf_85 : decode cX9_leftOf 85 = .ok (.invokestatic 312, 3) := by decide +kernel
theorem dX9_leftOf_88 : decode cX9_leftOf 88 = .ok (.iadd, 1) := by decide +kernel
theorem dX9_leftOf_89 : decode cX9_leftOf 89 = .ok (.iaload, 1) := by decide +kernel
theorem dX9_leftOf_90 : decode cX9_leftOf 90 = .ok (.istore 7, 2) := by decide +kernel
theorem dX9_leftOf_92 : decode cX9_leftOf 92 = .ok (.aload_n 0, 1) := by decide +kernel
theorem dX9_leftOf_93 : decode cX9_leftOf 93 = .ok (.getfield 54, 3) := by decide +kernel
theorem dX9_leftOf_96 : decode cX9_leftOf 96 = .ok (.iload_n 1, 1) := by decide +kernel
theorem dX9_leftOf_97 : decode cX9_leftOf 97 = .ok (.iconst 2, 1) := by decide +kernel
theorem dX9_leftOf_98 : decode cX9_leftOf 98 = .ok (.iload 6, 2) := by decide +kernel
theorem dX9_leftOf_100 : decode cX9_leftOf 100 = .ok (.invokestatic 312, 3) := by decide +kernel
theorem dX9_leftOf_103 : decode cX9_leftOf 103 = .ok (.imul, 1) := by decide +kernel
theorem dX9_leftOf_104 : decode cX9_leftOf 104 = .ok (.iadd, 1) := by decide +kernel
theorem dX9_leftOf_105 : decode cX9_leftOf 105 = .ok (.iaload, 1) := by decide +kernel
theorem dX9_leftOf_106 : decode cX9_leftOf 106 = .ok (.istore 8, 2) := by decide +kernel
theorem dX9_leftOf_108 : decode cX9_leftOf 108 = .ok (.aload_n 0, 1) := by decide +kernel
theorem dX9_leftOf_109 : decode cX9_leftOf 109 = .ok (.getfield 20, 3) := by decide +kernel
theorem dX9_leftOf_112 : decode cX9_leftOf 112 = .ok (.iconst 4, 1) := by decide +kernel
theorem dX9_leftOf_113 : decode cX9_leftOf 113 = .ok (.iload 6, 2) := by decide +kernel
theorem dX9_leftOf_115 : decode cX9_leftOf 115 = .ok (.imul, 1) := by decide +kernel
theorem dX9_leftOf_116 : decode cX9_leftOf 116 = .ok (.iaload, 1) := by decide +kernel
theorem dX9_leftOf_117 : decode cX9_leftOf 117 = .ok (.iload 7, 2) := by decide +kernel
theorem dX9_leftOf_119 : decode cX9_leftOf 119 = .ok (.iload 8, 2) := by decide +kernel
theorem dX9_leftOf_121 : decode cX9_leftOf 121 = .ok (.if_icmp .le 8, 3) := by decide +kernel
theorem dX9_leftOf_124 : decode cX9_leftOf 124 = .ok (.iload 7, 2) := by decide +kernel
theorem dX9_leftOf_126 : decode cX9_leftOf 126 = .ok (.goto 5, 3) := by decide +kernel
theorem dX9_leftOf_129 : decode cX9_leftOf 129 = .ok (.iload 8, 2) := by decide +kernel
theorem dX9_leftOf_131 : decode cX9_leftOf 131 = .ok (.iadd, 1) := by decide +kernel
theorem dX9_leftOf_132 : decode cX9_leftOf 132 = .ok (.istore 9, 2) := by decide +kernel
theorem dX9_leftOf_134 : decode cX9_leftOf 134 = .ok (.iload 9, 2) := by decide +kernel
theorem dX9_leftOf_136 : decode cX9_leftOf 136 = .ok (.iload 5, 2) := by decide +kernel
theorem dX9_leftOf_138 : decode cX9_leftOf 138 = .ok (.if_icmp .ge 8, 3) := by decide +kernel
theorem dX9_leftOf_141 : decode cX9_leftOf 141 = .ok (.iload 9, 2) := by decide +kernel
theorem dX9_leftOf_143 : decode cX9_leftOf 143 = .ok (.goto 5, 3) := by decide +kernel
theorem dX9_leftOf_146 : decode cX9_leftOf 146 = .ok (.iload 5, 2) := by decide +kernel
theorem dX9_leftOf_148 : decode cX9_leftOf 148 = .ok (.istore 5, 2) := by decide +kernel
theorem dX9_leftOf_150 : decode cX9_leftOf 150 = .ok (.iinc 6 1, 3) := by decide +kernel
theorem dX9_leftOf_153 : decode cX9_leftOf 153 = .ok (.goto (-94), 3) := by decide +kernel
theorem dX9_leftOf_156 : decode cX9_leftOf 156 = .ok (.iload 5, 2) := by decide +kernel
theorem dX9_leftOf_158 : decode cX9_leftOf 158 = .ok (.ireturn, 1) := by decide +kernel
theorem dX9_left_0 : decode cX9_left 0 = .ok (.iload_n 1, 1) := by decide +kernel
theorem dX9_left_1 : decode cX9_left 1 = .ok (.i2l, 1) := by decide +kernel
theorem dX9_left_2 : decode cX9_left 2 = .ok (.lconst 1, 1) := by decide +kernel
theorem dX9_left_3 : decode cX9_left 3 = .ok (.ldc2_w 315, 3) := by decide +kernel
theorem dX9_left_6 : decode cX9_left 6 = .ok (.invokestatic 90, 3) := by decide +kernel
theorem dX9_left_9 : decode cX9_left 9 = .ok (.ifCond .ne 6, 3) := by decide +kernel
theorem dX9_left_12 : decode cX9_left 12 = .ok (.ldc 99, 2) := by decide +kernel
theorem dX9_left_14 : decode cX9_left 14 = .ok (.ireturn, 1) := by decide +kernel
theorem dX9_left_15 : decode cX9_left 15 = .ok (.iconst 0, 1) := by decide +kernel
theorem dX9_left_16 : decode cX9_left 16 = .ok (.istore_n 2, 1) := by decide +kernel
theorem dX9_left_17 : decode cX9_left 17 = .ok (.iconst 0, 1) := by decide +kernel
theorem dX9_left_18 : decode cX9_left 18 = .ok (.istore_n 3, 1) := by decide +kernel
theorem dX9_left_19 : decode cX9_left 19 = .ok (.iload_n 3, 1) := by decide +kernel
theorem dX9_left_20 : decode cX9_left 20 = .ok (.bipush 6, 2) := by decide +kernel
theorem dX9_left_22 : decode cX9_left 22 = .ok (.if_icmp .ge 35, 3) := by decide +kernel
theorem dX9_left_25 : decode cX9_left 25 = .ok (.aload_n 0, 1) := by decide +kernel
theorem dX9_left_26 : decode cX9_left 26 = .ok (.getfield 57, 3) := by decide +kernel
theorem dX9_left_29 : decode cX9_left 29 = .ok (.iload_n 3, 1) := by decide +kernel
theorem dX9_left_30 : decode cX9_left 30 = .ok (.aload_n 0, 1) := by decide +kernel
theorem dX9_left_31 : decode cX9_left 31 = .ok (.getfield 26, 3) := by decide +kernel
theorem dX9_left_34 : decode cX9_left 34 = .ok (.iload_n 3, 1) := by decide +kernel
theorem dX9_left_35 : decode cX9_left 35 = .ok (.iaload, 1) := by decide +kernel
theorem dX9_left_36 : decode cX9_left 36 = .ok (.iastore, 1) := by decide +kernel
theorem dX9_left_37 : decode cX9_left 37 = .ok (.iload_n 2, 1) := by decide +kernel
theorem dX9_left_38 : decode cX9_left 38 = .ok (.aload_n 0, 1) := by decide +kernel
theorem dX9_left_39 : decode cX9_left 39 = .ok (.getfield 26, 3) := by decide +kernel
theorem dX9_left_42 : decode cX9_left 42 = .ok (.iload_n 3, 1) := by decide +kernel
theorem dX9_left_43 : decode cX9_left 43 = .ok (.iaload, 1) := by decide +kernel
theorem dX9_left_44 : decode cX9_left 44 = .ok (.iload_n 3, 1) := by decide +kernel
theorem dX9_left_45 : decode cX9_left 45 = .ok (.invokestatic 312, 3) := by decide +kernel
theorem dX9_left_48 : decode cX9_left 48 = .ok (.imul, 1) := by decide +kernel
theorem dX9_left_49 : decode cX9_left 49 = .ok (.iadd, 1) := by decide +kernel
theorem dX9_left_50 : decode cX9_left 50 = .ok (.istore_n 2, 1) := by decide +kernel
theorem dX9_left_51 : decode cX9_left 51 = .ok (.iinc 3 1, 3) := by decide +kernel
theorem dX9_left_54 : decode cX9_left 54 = .ok (.goto (-35), 3) := by decide +kernel
theorem dX9_left_57 : decode cX9_left 57 = .ok (.aload_n 0, 1) := by decide +kernel
theorem dX9_left_58 : decode cX9_left 58 = .ok (.getfield 94, 3) := by decide +kernel
theorem dX9_left_61 : decode cX9_left 61 = .ok (.invokestatic 312, 3) := by decide +kernel
theorem dX9_left_64 : decode cX9_left 64 = .ok (.iconst 1, 1) := by decide +kernel
theorem dX9_left_65 : decode cX9_left 65 = .ok (.isub, 1) := by decide +kernel
theorem dX9_left_66 : decode cX9_left 66 = .ok (.istore_n 3, 1) := by decide +kernel
theorem dX9_left_67 : decode cX9_left 67 = .ok (.iload_n 3, 1) := by decide +kernel
theorem dX9_left_68 : decode cX9_left 68 = .ok (.ifCond .lt 21, 3) := by decide +kernel
theorem dX9_left_71 : decode cX9_left 71 = .ok (.aload_n 0, 1) := by decide +kernel
theorem dX9_left_72 : decode cX9_left 72 = .ok (.getfield 54, 3) := by decide +kernel
theorem dX9_left_75 : decode cX9_left 75 = .ok (.iload_n 3, 1) := by decide +kernel
theorem dX9_left_76 : decode cX9_left 76 = .ok (.aload_n 0, 1) := by decide +kernel
theorem dX9_left_77 : decode cX9_left 77 = .ok (.iload_n 3, 1) := by decide +kernel
theorem dX9_left_78 : decode cX9_left 78 = .ok (.iload_n 1, 1) := by decide +kernel
theorem dX9_left_79 : decode cX9_left 79 = .ok (.invokevirtual 318, 3) := by decide +kernel
theorem dX9_left_82 : decode cX9_left 82 = .ok (.iastore, 1) := by decide +kernel
theorem dX9_left_83 : decode cX9_left 83 = .ok (.iinc 3 (-1), 3) := by decide +kernel
theorem dX9_left_86 : decode cX9_left 86 = .ok (.goto (-19), 3) := by decide +kernel
theorem dX9_left_89 : decode cX9_left 89 = .ok (.iconst 0, 1) := by decide +kernel
theorem dX9_left_90 : decode cX9_left 90 = .ok (.istore_n 3, 1) := by decide +kernel
theorem dX9_left_91 : decode cX9_left 91 = .ok (.iload_n 3, 1) := by decide +kernel
theorem dX9_left_92 : decode cX9_left 92 = .ok (.bipush 6, 2) := by decide +kernel
theorem dX9_left_94 : decode cX9_left 94 = .ok (.if_icmp .ge 21, 3) := by decide +kernel
theorem dX9_left_97 : decode cX9_left 97 = .ok (.aload_n 0, 1) := by decide +kernel
theorem dX9_left_98 : decode cX9_left 98 = .ok (.getfield 26, 3) := by decide +kernel
theorem dX9_left_101 : decode cX9_left 101 = .ok (.iload_n 3, 1) := by decide +kernel
theorem dX9_left_102 : decode cX9_left 102 = .ok (.aload_n 0, 1) := by decide +kernel
theorem dX9_left_103 : decode cX9_left 103 = .ok (.getfield 57, 3) := by decide +kernel
theorem dX9_left_106 : decode cX9_left 106 = .ok (.iload_n 3, 1) := by decide +kernel
theorem dX9_left_107 : decode cX9_left 107 = .ok (.iaload, 1) := by decide +kernel
theorem dX9_left_108 : decode cX9_left 108 = .ok (.iastore, 1) := by decide +kernel
theorem dX9_left_109 : decode cX9_left 109 = .ok (.iinc 3 1, 3) := by decide +kernel
theorem dX9_left_112 : decode cX9_left 112 = .ok (.goto (-21), 3) := by decide +kernel
theorem dX9_left_115 : decode cX9_left 115 = .ok (.aload_n 0, 1) := by decide +kernel
theorem dX9_left_116 : decode cX9_left 116 = .ok (.getfield 54, 3) := by decide +kernel
theorem dX9_left_119 : decode cX9_left 119 = .ok (.iload_n 2, 1) := by decide +kernel
theorem dX9_left_120 : decode cX9_left 120 = .ok (.iaload, 1) := by decide +kernel
theorem dX9_left_121 : decode cX9_left 121 = .ok (.ldc_w 317, 3) := by decide +kernel
theorem dX9_left_124 : decode cX9_left 124 = .ok (.if_icmp .lt 7, 3) := by decide +kernel
theorem dX9_left_127 : decode cX9_left 127 = .ok (.iconst (-1), 1) := by decide +kernel
theorem dX9_left_128 : decode cX9_left 128 = .ok (.goto 9, 3) := by decide +kernel
theorem dX9_left_131 : decode cX9_left 131 = .ok (.aload_n 0, 1) := by decide +kernel
theorem dX9_left_132 : decode cX9_left 132 = .ok (.getfield 54, 3) := by decide +kernel
theorem dX9_left_135 : decode cX9_left 135 = .ok (.iload_n 2, 1) := by decide +kernel
theorem dX9_left_136 : decode cX9_left 136 = .ok (.iaload, 1) := by decide +kernel
theorem dX9_left_137 : decode cX9_left 137 = .ok (.ireturn, 1) := by decide +kernel
theorem dX9_alike_0 : decode cX9_alike 0 = .ok (.iload_n 1, 1) := by decide +kernel
theorem dX9_alike_1 : decode cX9_alike 1 = .ok (.i2l, 1) := by decide +kernel
theorem dX9_alike_2 : decode cX9_alike 2 = .ok (.lconst 0, 1) := by decide +kernel
theorem dX9_alike_3 : decode cX9_alike 3 = .ok (.ldc2_w 282, 3) := by decide +kernel
theorem dX9_alike_6 : decode cX9_alike 6 = .ok (.invokestatic 90, 3) := by decide +kernel
theorem dX9_alike_9 : decode cX9_alike 9 = .ok (.ifCond .ne 6, 3) := by decide +kernel
theorem dX9_alike_12 : decode cX9_alike 12 = .ok (.ldc 216, 2) := by decide +kernel
theorem dX9_alike_14 : decode cX9_alike 14 = .ok (.ireturn, 1) := by decide +kernel
theorem dX9_alike_15 : decode cX9_alike 15 = .ok (.iconst 0, 1) := by decide +kernel
theorem dX9_alike_16 : decode cX9_alike 16 = .ok (.istore_n 2, 1) := by decide +kernel
theorem dX9_alike_17 : decode cX9_alike 17 = .ok (.iconst 0, 1) := by decide +kernel
theorem dX9_alike_18 : decode cX9_alike 18 = .ok (.istore_n 3, 1) := by decide +kernel
theorem dX9_alike_19 : decode cX9_alike 19 = .ok (.iload_n 3, 1) := by decide +kernel
theorem dX9_alike_20 : decode cX9_alike 20 = .ok (.bipush 16, 2) := by decide +kernel
theorem dX9_alike_22 : decode cX9_alike 22 = .ok (.if_icmp .ge 74, 3) := by decide +kernel
theorem dX9_alike_25 : decode cX9_alike 25 = .ok (.iconst 1, 1) := by decide +kernel
theorem dX9_alike_26 : decode cX9_alike 26 = .ok (.istore 4, 2) := by decide +kernel
theorem dX9_alike_28 : decode cX9_alike 28 = .ok (.iconst 0, 1) := by decide +kernel
theorem dX9_alike_29 : decode cX9_alike 29 = .ok (.istore 5, 2) := by decide +kernel
theorem dX9_alike_31 : decode cX9_alike 31 = .ok (.iload 5, 2) := by decide +kernel
theorem dX9_alike_33 : decode cX9_alike 33 = .ok (.aload_n 0, 1) := by decide +kernel
theorem dX9_alike_34 : decode cX9_alike 34 = .ok (.getfield 94, 3) := by decide +kernel
theorem dX9_alike_37 : decode cX9_alike 37 = .ok (.if_icmp .ge 38, 3) := by decide +kernel
theorem dX9_alike_40 : decode cX9_alike 40 = .ok (.iload 4, 2) := by decide +kernel
theorem dX9_alike_42 : decode cX9_alike 42 = .ok (.ifCond .eq 24, 3) := by decide +kernel
theorem dX9_alike_45 : decode cX9_alike 45 = .ok (.aload_n 0, 1) := by decide +kernel
theorem dX9_alike_46 : decode cX9_alike 46 = .ok (.iload 5, 2) := by decide +kernel
theorem dX9_alike_48 : decode cX9_alike 48 = .ok (.iload_n 1, 1) := by decide +kernel
theorem dX9_alike_49 : decode cX9_alike 49 = .ok (.invokevirtual 289, 3) := by decide +kernel
theorem dX9_alike_52 : decode cX9_alike 52 = .ok (.aload_n 0, 1) := by decide +kernel
theorem dX9_alike_53 : decode cX9_alike 53 = .ok (.iload 5, 2) := by decide +kernel
theorem dX9_alike_55 : decode cX9_alike 55 = .ok (.iload_n 3, 1) := by decide +kernel
theorem dX9_alike_56 : decode cX9_alike 56 = .ok (.invokevirtual 289, 3) := by decide +kernel
theorem dX9_alike_59 : decode cX9_alike 59 = .ok (.if_icmp .ne 7, 3) := by decide +kernel
theorem dX9_alike_62 : decode cX9_alike 62 = .ok (.iconst 1, 1) := by decide +kernel
theorem dX9_alike_63 : decode cX9_alike 63 = .ok (.goto 4, 3) := by decide +kernel
theorem dX9_alike_66 : decode cX9_alike 66 = .ok (.iconst 0, 1) := by decide +kernel
theorem dX9_alike_67 : decode cX9_alike 67 = .ok (.istore 4, 2) := by decide +kernel
theorem dX9_alike_69 : decode cX9_alike 69 = .ok (.iinc 5 1, 3) := by decide +kernel
theorem dX9_alike_72 : decode cX9_alike 72 = .ok (.goto (-41), 3) := by decide +kernel
theorem dX9_alike_75 : decode cX9_alike 75 = .ok (.iload_n 2, 1) := by decide +kernel
theorem dX9_alike_76 : decode cX9_alike 76 = .ok (.iload 4, 2) := by decide +kernel
theorem dX9_alike_78 : decode cX9_alike 78 = .ok (.ifCond .eq 9, 3) := by decide +kernel
theorem dX9_alike_81 : decode cX9_alike 81 = .ok (.iconst 1, 1) := by decide +kernel
theorem dX9_alike_82 : decode cX9_alike 82 = .ok (.iload_n 3, 1) := by decide +kernel
theorem dX9_alike_83 : decode cX9_alike 83 = .ok (.ishl, 1) := by decide +kernel
theorem dX9_alike_84 : decode cX9_alike 84 = .ok (.goto 4, 3) := by decide +kernel
theorem dX9_alike_87 : decode cX9_alike 87 = .ok (.iconst 0, 1) := by decide +kernel
theorem dX9_alike_88 : decode cX9_alike 88 = .ok (.ior, 1) := by decide +kernel
theorem dX9_alike_89 : decode cX9_alike 89 = .ok (.istore_n 2, 1) := by decide +kernel
theorem dX9_alike_90 : decode cX9_alike 90 = .ok (.iinc 3 1, 3) := by decide +kernel
theorem dX9_alike_93 : decode cX9_alike 93 = .ok (.goto (-74), 3) := by decide +kernel
theorem dX9_alike_96 : decode cX9_alike 96 = .ok (.iload_n 2, 1) := by decide +kernel
theorem dX9_alike_97 : decode cX9_alike 97 = .ok (.ireturn, 1) := by decide +kernel
theorem dX9_teach_0 : decode cX9_teach 0 = .ok (.bipush 8, 2) := by decide +kernel
theorem dX9_teach_2 : decode cX9_teach 2 = .ok (.iload_n 1, 1) := by decide +kernel
theorem dX9_teach_3 : decode cX9_teach 3 = .ok (.imul, 1) := by decide +kernel
theorem dX9_teach_4 : decode cX9_teach 4 = .ok (.istore_n 3, 1) := by decide +kernel
theorem dX9_teach_5 : decode cX9_teach 5 = .ok (.iload_n 2, 1) := by decide +kernel
theorem dX9_teach_6 : decode cX9_teach 6 = .ok (.ifCond .ne 60, 3) := by decide +kernel
theorem dX9_teach_9 : decode cX9_teach 9 = .ok (.aload_n 0, 1) := by decide +kernel
theorem dX9_teach_10 : decode cX9_teach 10 = .ok (.getfield 17, 3) := by decide +kernel
theorem dX9_teach_13 : decode cX9_teach 13 = .ok (.iload_n 3, 1) := by decide +kernel
theorem dX9_teach_14 : decode cX9_teach 14 = .ok (.iconst 1, 1) := by decide +kernel
theorem dX9_teach_15 : decode cX9_teach 15 = .ok (.iadd, 1) := by decide +kernel
theorem dX9_teach_16 : decode cX9_teach 16 = .ok (.dup2, 1) := by decide +kernel
theorem dX9_teach_17 : decode cX9_teach 17 = .ok (.iaload, 1) := by decide +kernel
theorem dX9_teach_18 : decode cX9_teach 18 = .ok (.aload_n 0, 1) := by decide +kernel
theorem dX9_teach_19 : decode cX9_teach 19 = .ok (.getfield 17, 3) := by decide +kernel
theorem dX9_teach_22 : decode cX9_teach 22 = .ok (.iload_n 3, 1) := by decide +kernel
theorem dX9_teach_23 : decode cX9_teach 23 = .ok (.iconst 1, 1) := by decide +kernel
theorem dX9_teach_24 : decode cX9_teach 24 = .ok (.iadd, 1) := by decide +kernel
theorem dX9_teach_25 : decode cX9_teach 25 = .ok (.iaload, 1) := by decide +kernel
theorem dX9_teach_26 : decode cX9_teach 26 = .ok (.iconst 4, 1) := by decide +kernel
theorem dX9_teach_27 : decode cX9_teach 27 = .ok (.idiv, 1) := by decide +kernel
theorem dX9_teach_28 : decode cX9_teach 28 = .ok (.iconst 1, 1) := by decide +kernel
theorem dX9_teach_29 : decode cX9_teach 29 = .ok (.iadd, 1) := by decide +kernel
theorem dX9_teach_30 : decode cX9_teach 30 = .ok (.isub, 1) := by decide +kernel
theorem dX9_teach_31 : decode cX9_teach 31 = .ok (.iastore, 1) := by decide +kernel
theorem dX9_teach_32 : decode cX9_teach 32 = .ok (.aload_n 0, 1) := by decide +kernel
theorem dX9_teach_33 : decode cX9_teach 33 = .ok (.getfield 17, 3) := by decide +kernel
theorem dX9_teach_36 : decode cX9_teach 36 = .ok (.iload_n 3, 1) := by decide +kernel
theorem dX9_teach_37 : decode cX9_teach 37 = .ok (.iconst 1, 1) := by decide +kernel
theorem dX9_teach_38 : decode cX9_teach 38 = .ok (.iadd, 1) := by decide +kernel
theorem dX9_teach_39 : decode cX9_teach 39 = .ok (.aload_n 0, 1) := by decide +kernel
theorem dX9_teach_40 : decode cX9_teach 40 = .ok (.getfield 17, 3) := by decide +kernel
theorem dX9_teach_43 : decode cX9_teach 43 = .ok (.iload_n 3, 1) := by decide +kernel
theorem dX9_teach_44 : decode cX9_teach 44 = .ok (.iconst 1, 1) := by decide +kernel
theorem dX9_teach_45 : decode cX9_teach 45 = .ok (.iadd, 1) := by decide +kernel
theorem dX9_teach_46 : decode cX9_teach 46 = .ok (.iaload, 1) := by decide +kernel
theorem dX9_teach_47 : decode cX9_teach 47 = .ok (.ifCond .ge 7, 3) := by decide +kernel
theorem dX9_teach_50 : decode cX9_teach 50 = .ok (.iconst 0, 1) := by decide +kernel
theorem dX9_teach_51 : decode cX9_teach 51 = .ok (.goto 11, 3) := by decide +kernel
theorem dX9_teach_54 : decode cX9_teach 54 = .ok (.aload_n 0, 1) := by decide +kernel
theorem dX9_teach_55 : decode cX9_teach 55 = .ok (.getfield 17, 3) := by decide +kernel
theorem dX9_teach_58 : decode cX9_teach 58 = .ok (.iload_n 3, 1) := by decide +kernel
theorem dX9_teach_59 : decode cX9_teach 59 = .ok (.iconst 1, 1) := by decide +kernel
theorem dX9_teach_60 : decode cX9_teach 60 = .ok (.iadd, 1) := by decide +kernel
theorem dX9_teach_61 : decode cX9_teach 61 = .ok (.iaload, 1) := by decide +kernel
theorem dX9_teach_62 : decode cX9_teach 62 = .ok (.iastore, 1) := by decide +kernel
theorem dX9_teach_63 : decode cX9_teach 63 = .ok (.goto 157, 3) := by decide +kernel
theorem dX9_teach_66 : decode cX9_teach 66 = .ok (.iload_n 2, 1) := by decide +kernel
theorem dX9_teach_67 : decode cX9_teach 67 = .ok (.iconst 1, 1) := by decide +kernel
theorem dX9_teach_68 : decode cX9_teach 68 = .ok (.if_icmp .ne 48, 3) := by decide +kernel
theorem dX9_teach_71 : decode cX9_teach 71 = .ok (.aload_n 0, 1) := by decide +kernel
theorem dX9_teach_72 : decode cX9_teach 72 = .ok (.getfield 17, 3) := by decide +kernel
theorem dX9_teach_75 : decode cX9_teach 75 = .ok (.iload_n 3, 1) := by decide +kernel
theorem dX9_teach_76 : decode cX9_teach 76 = .ok (.iconst 2, 1) := by decide +kernel
theorem dX9_teach_77 : decode cX9_teach 77 = .ok (.iadd, 1) := by decide +kernel
theorem dX9_teach_78 : decode cX9_teach 78 = .ok (.dup2, 1) := by decide +kernel
theorem dX9_teach_79 : decode cX9_teach 79 = .ok (.iaload, 1) := by decide +kernel
theorem dX9_teach_80 : decode cX9_teach 80 = .ok (.aload_n 0, 1) := by decide +kernel
theorem dX9_teach_81 : decode cX9_teach 81 = .ok (.getfield 17, 3) := by decide +kernel
theorem dX9_teach_84 : decode cX9_teach 84 = .ok (.iload_n 3, 1) := by decide +kernel
theorem dX9_teach_85 : decode cX9_teach 85 = .ok (.iconst 2, 1) := by decide +kernel
theorem dX9_teach_86 : decode cX9_teach 86 = .ok (.iadd, 1) := by decide +kernel
theorem dX9_teach_87 : decode cX9_teach 87 = .ok (.iaload, 1) := by decide +kernel
theorem dX9_teach_88 : decode cX9_teach 88 = .ok (.iconst 3, 1) := by decide +kernel
theorem dX9_teach_89 : decode cX9_teach 89 = .ok (.idiv, 1) := by decide +kernel
theorem dX9_teach_90 : decode cX9_teach 90 = .ok (.isub, 1) := by decide +kernel
theorem dX9_teach_91 : decode cX9_teach 91 = .ok (.iastore, 1) := by decide +kernel
theorem dX9_teach_92 : decode cX9_teach 92 = .ok (.aload_n 0, 1) := by decide +kernel
theorem dX9_teach_93 : decode cX9_teach 93 = .ok (.getfield 17, 3) := by decide +kernel
theorem dX9_teach_96 : decode cX9_teach 96 = .ok (.iload_n 3, 1) := by decide +kernel
theorem dX9_teach_97 : decode cX9_teach 97 = .ok (.iconst 3, 1) := by decide +kernel
theorem dX9_teach_98 : decode cX9_teach 98 = .ok (.iadd, 1) := by decide +kernel
theorem dX9_teach_99 : decode cX9_teach 99 = .ok (.dup2, 1) := by decide +kernel
theorem dX9_teach_100 : decode cX9_teach 100 = .ok (.iaload, 1) := by decide +kernel
theorem dX9_teach_101 : decode cX9_teach 101 = .ok (.aload_n 0, 1) := by decide +kernel
theorem dX9_teach_102 : decode cX9_teach 102 = .ok (.getfield 17, 3) := by decide +kernel
theorem dX9_teach_105 : decode cX9_teach 105 = .ok (.iload_n 3, 1) := by decide +kernel
theorem dX9_teach_106 : decode cX9_teach 106 = .ok (.iconst 3, 1) := by decide +kernel
theorem dX9_teach_107 : decode cX9_teach 107 = .ok (.iadd, 1) := by decide +kernel
theorem dX9_teach_108 : decode cX9_teach 108 = .ok (.iaload, 1) := by decide +kernel
theorem dX9_teach_109 : decode cX9_teach 109 = .ok (.iconst 3, 1) := by decide +kernel
theorem dX9_teach_110 : decode cX9_teach 110 = .ok (.idiv, 1) := by decide +kernel
theorem dX9_teach_111 : decode cX9_teach 111 = .ok (.isub, 1) := by decide +kernel
theorem dX9_teach_112 : decode cX9_teach 112 = .ok (.iastore, 1) := by decide +kernel
theorem dX9_teach_113 : decode cX9_teach 113 = .ok (.goto 107, 3) := by decide +kernel
theorem dX9_teach_116 : decode cX9_teach 116 = .ok (.iload_n 2, 1) := by decide +kernel
theorem dX9_teach_117 : decode cX9_teach 117 = .ok (.iconst 2, 1) := by decide +kernel
theorem dX9_teach_118 : decode cX9_teach 118 = .ok (.if_icmp .ne 44, 3) := by decide +kernel
theorem dX9_teach_121 : decode cX9_teach 121 = .ok (.aload_n 0, 1) := by decide +kernel
theorem dX9_teach_122 : decode cX9_teach 122 = .ok (.getfield 17, 3) := by decide +kernel
theorem dX9_teach_125 : decode cX9_teach 125 = .ok (.iload_n 3, 1) := by decide +kernel
theorem dX9_teach_126 : decode cX9_teach 126 = .ok (.iconst 4, 1) := by decide +kernel
theorem dX9_teach_127 : decode cX9_teach 127 = .ok (.iadd, 1) := by decide +kernel
theorem dX9_teach_128 : decode cX9_teach 128 = .ok (.aload_n 0, 1) := by decide +kernel
theorem dX9_teach_129 : decode cX9_teach 129 = .ok (.getfield 17, 3) := by decide +kernel
theorem dX9_teach_132 : decode cX9_teach 132 = .ok (.iload_n 3, 1) := by decide +kernel
theorem dX9_teach_133 : decode cX9_teach 133 = .ok (.iconst 4, 1) := by decide +kernel
theorem dX9_teach_134 : decode cX9_teach 134 = .ok (.iadd, 1) := by decide +kernel
theorem dX9_teach_135 : decode cX9_teach 135 = .ok (.iaload, 1) := by decide +kernel
theorem dX9_teach_136 : decode cX9_teach 136 = .ok (.iconst 2, 1) := by decide +kernel
theorem dX9_teach_137 : decode cX9_teach 137 = .ok (.iadd, 1) := by decide +kernel
theorem dX9_teach_138 : decode cX9_teach 138 = .ok (.bipush 40, 2) := by decide +kernel
theorem dX9_teach_140 : decode cX9_teach 140 = .ok (.if_icmp .le 8, 3) := by decide +kernel
theorem dX9_teach_143 : decode cX9_teach 143 = .ok (.bipush 40, 2) := by decide +kernel
theorem dX9_teach_145 : decode cX9_teach 145 = .ok (.goto 13, 3) := by decide +kernel
theorem dX9_teach_148 : decode cX9_teach 148 = .ok (.aload_n 0, 1) := by decide +kernel
theorem dX9_teach_149 : decode cX9_teach 149 = .ok (.getfield 17, 3) := by decide +kernel
theorem dX9_teach_152 : decode cX9_teach 152 = .ok (.iload_n 3, 1) := by decide +kernel
theorem dX9_teach_153 : decode cX9_teach 153 = .ok (.iconst 4, 1) := by decide +kernel
theorem dX9_teach_154 : decode cX9_teach 154 = .ok (.iadd, 1) := by decide +kernel
theorem dX9_teach_155 : decode cX9_teach 155 = .ok (.iaload, 1) := by decide +kernel
theorem dX9_teach_156 : decode cX9_teach 156 = .ok (.iconst 2, 1) := by decide +kernel
theorem dX9_teach_157 : decode cX9_teach 157 = .ok (.iadd, 1) := by decide +kernel
theorem dX9_teach_158 : decode cX9_teach 158 = .ok (.iastore, 1) := by decide +kernel
theorem dX9_teach_159 : decode cX9_teach 159 = .ok (.goto 61, 3) := by decide +kernel
theorem dX9_teach_162 : decode cX9_teach 162 = .ok (.aload_n 0, 1) := by decide +kernel
theorem dX9_teach_163 : decode cX9_teach 163 = .ok (.getfield 17, 3) := by decide +kernel
theorem dX9_teach_166 : decode cX9_teach 166 = .ok (.iload_n 3, 1) := by decide +kernel
theorem dX9_teach_167 : decode cX9_teach 167 = .ok (.bipush 6, 2) := by decide +kernel
theorem dX9_teach_169 : decode cX9_teach 169 = .ok (.iadd, 1) := by decide +kernel
theorem dX9_teach_170 : decode cX9_teach 170 = .ok (.dup2, 1) := by decide +kernel
theorem dX9_teach_171 : decode cX9_teach 171 = .ok (.iaload, 1) := by decide +kernel
theorem dX9_teach_172 : decode cX9_teach 172 = .ok (.aload_n 0, 1) := by decide +kernel
theorem dX9_teach_173 : decode cX9_teach 173 = .ok (.getfield 17, 3) := by decide +kernel
theorem dX9_teach_176 : decode cX9_teach 176 = .ok (.iload_n 3, 1) := by decide +kernel
theorem dX9_teach_177 : decode cX9_teach 177 = .ok (.bipush 6, 2) := by decide +kernel
theorem dX9_teach_179 : decode cX9_teach 179 = .ok (.iadd, 1) := by decide +kernel
theorem dX9_teach_180 : decode cX9_teach 180 = .ok (.iaload, 1) := by decide +kernel
theorem dX9_teach_181 : decode cX9_teach 181 = .ok (.bipush 36, 2) := by decide +kernel
theorem dX9_teach_183 : decode cX9_teach 183 = .ok (.if_icmp .ge 7, 3) := by decide +kernel
theorem dX9_teach_186 : decode cX9_teach 186 = .ok (.iconst 1, 1) := by decide +kernel
theorem dX9_teach_187 : decode cX9_teach 187 = .ok (.goto 4, 3) := by decide +kernel
theorem dX9_teach_190 : decode cX9_teach 190 = .ok (.iconst 0, 1) := by decide +kernel
theorem dX9_teach_191 : decode cX9_teach 191 = .ok (.iadd, 1) := by decide +kernel
theorem dX9_teach_192 : decode cX9_teach 192 = .ok (.iastore, 1) := by decide +kernel
theorem dX9_teach_193 : decode cX9_teach 193 = .ok (.aload_n 0, 1) := by decide +kernel
theorem dX9_teach_194 : decode cX9_teach 194 = .ok (.getfield 17, 3) := by decide +kernel
theorem dX9_teach_197 : decode cX9_teach 197 = .ok (.iload_n 3, 1) := by decide +kernel
theorem dX9_teach_198 : decode cX9_teach 198 = .ok (.iconst 5, 1) := by decide +kernel
theorem dX9_teach_199 : decode cX9_teach 199 = .ok (.iadd, 1) := by decide +kernel
theorem dX9_teach_200 : decode cX9_teach 200 = .ok (.dup2, 1) := by decide +kernel
theorem dX9_teach_201 : decode cX9_teach 201 = .ok (.iaload, 1) := by decide +kernel
theorem dX9_teach_202 : decode cX9_teach 202 = .ok (.aload_n 0, 1) := by decide +kernel
theorem dX9_teach_203 : decode cX9_teach 203 = .ok (.getfield 17, 3) := by decide +kernel
theorem dX9_teach_206 : decode cX9_teach 206 = .ok (.iload_n 3, 1) := by decide +kernel
theorem dX9_teach_207 : decode cX9_teach 207 = .ok (.iconst 5, 1) := by decide +kernel
theorem dX9_teach_208 : decode cX9_teach 208 = .ok (.iadd, 1) := by decide +kernel
theorem dX9_teach_209 : decode cX9_teach 209 = .ok (.iaload, 1) := by decide +kernel
theorem dX9_teach_210 : decode cX9_teach 210 = .ok (.ifCond .le 7, 3) := by decide +kernel
theorem dX9_teach_213 : decode cX9_teach 213 = .ok (.iconst 1, 1) := by decide +kernel
theorem dX9_teach_214 : decode cX9_teach 214 = .ok (.goto 4, 3) := by decide +kernel
theorem dX9_teach_217 : decode cX9_teach 217 = .ok (.iconst 0, 1) := by decide +kernel
theorem dX9_teach_218 : decode cX9_teach 218 = .ok (.isub, 1) := by decide +kernel
theorem dX9_teach_219 : decode cX9_teach 219 = .ok (.iastore, 1) := by decide +kernel
theorem dX9_teach_220 : decode cX9_teach 220 = .ok (.return_, 1) := by decide +kernel
theorem dX9_plainScore_0 : decode cX9_plainScore 0 = .ok (.aload_n 0, 1) := by decide +kernel
theorem dX9_plainScore_1 : decode cX9_plainScore 1 = .ok (.aload_n 0, 1) := by decide +kernel
theorem dX9_plainScore_2 : decode cX9_plainScore 2 = .ok (.getfield 60, 3) := by decide +kernel
theorem dX9_plainScore_5 : decode cX9_plainScore 5 = .ok (.iload_n 1, 1) := by decide +kernel
theorem dX9_plainScore_6 : decode cX9_plainScore 6 = .ok (.iconst 2, 1) := by decide +kernel
theorem dX9_plainScore_7 : decode cX9_plainScore 7 = .ok (.iconst 1, 1) := by decide +kernel
theorem dX9_plainScore_8 : decode cX9_plainScore 8 = .ok (.invokevirtual 269, 3) := by decide +kernel
theorem dX9_plainScore_11 : decode cX9_plainScore 11 = .ok (.aload_n 0, 1) := by decide +kernel
theorem dX9_plainScore_12 : decode cX9_plainScore 12 = .ok (.aload_n 0, 1) := by decide +kernel
theorem dX9_plainScore_13 : decode cX9_plainScore 13 = .ok (.getfield 60, 3) := by decide +kernel
theorem dX9_plainScore_16 : decode cX9_plainScore 16 = .ok (.iload_n 1, 1) := by decide +kernel
theorem dX9_plainScore_17 : decode cX9_plainScore 17 = .ok (.iconst 0, 1) := by decide +kernel
theorem dX9_plainScore_18 : decode cX9_plainScore 18 = .ok (.invokevirtual 273, 3) := by decide +kernel
theorem dX9_plainScore_21 : decode cX9_plainScore 21 = .ok (.aload_n 0, 1) := by decide +kernel
theorem dX9_plainScore_22 : decode cX9_plainScore 22 = .ok (.aload_n 0, 1) := by decide +kernel
theorem dX9_plainScore_23 : decode cX9_plainScore 23 = .ok (.getfield 60, 3) := by decide +kernel
theorem dX9_plainScore_26 : decode cX9_plainScore 26 = .ok (.iload_n 1, 1) := by decide +kernel
theorem dX9_plainScore_27 : decode cX9_plainScore 27 = .ok (.iconst 1, 1) := by decide +kernel
theorem dX9_plainScore_28 : decode cX9_plainScore 28 = .ok (.invokevirtual 273, 3) := by decide +kernel
theorem dX9_plainScore_31 : decode cX9_plainScore 31 = .ok (.iadd, 1) := by decide +kernel
theorem dX9_plainScore_32 : decode cX9_plainScore 32 = .ok (.ireturn, 1) := by decide +kernel
theorem dX9_lesson_0 : decode cX9_lesson 0 = .ok (.aload_n 0, 1) := by decide +kernel
theorem dX9_lesson_1 : decode cX9_lesson 1 = .ok (.iload_n 1, 1) := by decide +kernel
theorem dX9_lesson_2 : decode cX9_lesson 2 = .ok (.invokevirtual 217, 3) := by decide +kernel
theorem dX9_lesson_5 : decode cX9_lesson 5 = .ok (.ifCond .eq 15, 3) := by decide +kernel
theorem dX9_lesson_8 : decode cX9_lesson 8 = .ok (.iload_n 2, 1) := by decide +kernel
theorem dX9_lesson_9 : decode cX9_lesson 9 = .ok (.i2l, 1) := by decide +kernel
theorem dX9_lesson_10 : decode cX9_lesson 10 = .ok (.lconst 0, 1) := by decide +kernel
theorem dX9_lesson_11 : decode cX9_lesson 11 = .ok (.ldc2_w 225, 3) := by decide +kernel
theorem dX9_lesson_14 : decode cX9_lesson 14 = .ok (.invokestatic 90, 3) := by decide +kernel
theorem dX9_lesson_17 : decode cX9_lesson 17 = .ok (.ifCond .ne 6, 3) := by decide +kernel
theorem dX9_lesson_20 : decode cX9_lesson 20 = .ok (.ldc 216, 2) := by decide +kernel
theorem dX9_lesson_22 : decode cX9_lesson 22 = .ok (.ireturn, 1) := by decide +kernel
theorem dX9_lesson_23 : decode cX9_lesson 23 = .ok (.aload_n 0, 1) := by decide +kernel
theorem dX9_lesson_24 : decode cX9_lesson 24 = .ok (.iload_n 1, 1) := by decide +kernel
theorem dX9_lesson_25 : decode cX9_lesson 25 = .ok (.iload_n 2, 1) := by decide +kernel
theorem dX9_lesson_26 : decode cX9_lesson 26 = .ok (.invokevirtual 321, 3) := by decide +kernel
theorem dX9_lesson_29 : decode cX9_lesson 29 = .ok (.aload_n 0, 1) := by decide +kernel
theorem dX9_lesson_30 : decode cX9_lesson 30 = .ok (.iload_n 1, 1) := by decide +kernel
theorem dX9_lesson_31 : decode cX9_lesson 31 = .ok (.invokevirtual 325, 3) := by decide +kernel
theorem dX9_lesson_34 : decode cX9_lesson 34 = .ok (.ireturn, 1) := by decide +kernel
theorem dX9_hold_0 : decode cX9_hold 0 = .ok (.iconst 0, 1) := by decide +kernel
theorem dX9_hold_1 : decode cX9_hold 1 = .ok (.istore_n 2, 1) := by decide +kernel
theorem dX9_hold_2 : decode cX9_hold 2 = .ok (.iload_n 2, 1) := by decide +kernel
theorem dX9_hold_3 : decode cX9_hold 3 = .ok (.bipush 8, 2) := by decide +kernel
theorem dX9_hold_5 : decode cX9_hold 5 = .ok (.if_icmp .ge 26, 3) := by decide +kernel
theorem dX9_hold_8 : decode cX9_hold 8 = .ok (.aload_n 0, 1) := by decide +kernel
theorem dX9_hold_9 : decode cX9_hold 9 = .ok (.getfield 63, 3) := by decide +kernel
theorem dX9_hold_12 : decode cX9_hold 12 = .ok (.iload_n 2, 1) := by decide +kernel
theorem dX9_hold_13 : decode cX9_hold 13 = .ok (.aload_n 0, 1) := by decide +kernel
theorem dX9_hold_14 : decode cX9_hold 14 = .ok (.getfield 17, 3) := by decide +kernel
theorem dX9_hold_17 : decode cX9_hold 17 = .ok (.bipush 8, 2) := by decide +kernel
theorem dX9_hold_19 : decode cX9_hold 19 = .ok (.iload_n 1, 1) := by decide +kernel
theorem dX9_hold_20 : decode cX9_hold 20 = .ok (.imul, 1) := by decide +kernel
theorem dX9_hold_21 : decode cX9_hold 21 = .ok (.iload_n 2, 1) := by decide +kernel
theorem dX9_hold_22 : decode cX9_hold 22 = .ok (.iadd, 1) := by decide +kernel
theorem dX9_hold_23 : decode cX9_hold 23 = .ok (.iaload, 1) := by decide +kernel
theorem dX9_hold_24 : decode cX9_hold 24 = .ok (.iastore, 1) := by decide +kernel
theorem dX9_hold_25 : decode cX9_hold 25 = .ok (.iinc 2 1, 3) := by decide +kernel
theorem dX9_hold_28 : decode cX9_hold 28 = .ok (.goto (-26), 3) := by decide +kernel
theorem dX9_hold_31 : decode cX9_hold 31 = .ok (.return_, 1) := by decide +kernel
theorem dX9_putBack_0 : decode cX9_putBack 0 = .ok (.iconst 0, 1) := by decide +kernel
theorem dX9_putBack_1 : decode cX9_putBack 1 = .ok (.istore_n 2, 1) := by decide +kernel
theorem dX9_putBack_2 : decode cX9_putBack 2 = .ok (.iload_n 2, 1) := by decide +kernel
theorem dX9_putBack_3 : decode cX9_putBack 3 = .ok (.bipush 8, 2) := by decide +kernel
theorem dX9_putBack_5 : decode cX9_putBack 5 = .ok (.if_icmp .ge 26, 3) := by decide +kernel
theorem dX9_putBack_8 : decode cX9_putBack 8 = .ok (.aload_n 0, 1) := by decide +kernel
theorem dX9_putBack_9 : decode cX9_putBack 9 = .ok (.getfield 17, 3) := by decide +kernel
theorem dX9_putBack_12 : decode cX9_putBack 12 = .ok (.bipush 8, 2) := by decide +kernel
theorem dX9_putBack_14 : decode cX9_putBack 14 = .ok (.iload_n 1, 1) := by decide +kernel
theorem dX9_putBack_15 : decode cX9_putBack 15 = .ok (.imul, 1) := by decide +kernel
theorem dX9_putBack_16 : decode cX9_putBack 16 = .ok (.iload_n 2, 1) := by decide +kernel
theorem dX9_putBack_17 : decode cX9_putBack 17 = .ok (.iadd, 1) := by decide +kernel
theorem dX9_putBack_18 : decode cX9_putBack 18 = .ok (.aload_n 0, 1) := by decide +kernel
theorem dX9_putBack_19 : decode cX9_putBack 19 = .ok (.getfield 63, 3) := by decide +kernel
theorem dX9_putBack_22 : decode cX9_putBack 22 = .ok (.iload_n 2, 1) := by decide +kernel
theorem dX9_putBack_23 : decode cX9_putBack 23 = .ok (.iaload, 1) := by decide +kernel
theorem dX9_putBack_24 : decode cX9_putBack 24 = .ok (.iastore, 1) := by decide +kernel
theorem dX9_putBack_25 : decode cX9_putBack 25 = .ok (.iinc 2 1, 3) := by decide +kernel
theorem dX9_putBack_28 : decode cX9_putBack 28 = .ok (.goto (-26), 3) := by decide +kernel
theorem dX9_putBack_31 : decode cX9_putBack 31 = .ok (.return_, 1) := by decide +kernel
theorem dX9_partOf_0 : decode cX9_partOf 0 = .ok (.iload_n 0, 1) := by decide +kernel
theorem dX9_partOf_1 : decode cX9_partOf 1 = .ok (.iconst 2, 1) := by decide +kernel
theorem dX9_partOf_2 : decode cX9_partOf 2 = .ok (.iload_n 1, 1) := by decide +kernel
theorem dX9_partOf_3 : decode cX9_partOf 3 = .ok (.iconst 1, 1) := by decide +kernel
theorem dX9_partOf_4 : decode cX9_partOf 4 = .ok (.isub, 1) := by decide +kernel
theorem dX9_partOf_5 : decode cX9_partOf 5 = .ok (.iload_n 2, 1) := by decide +kernel
theorem dX9_partOf_6 : decode cX9_partOf 6 = .ok (.isub, 1) := by decide +kernel
theorem dX9_partOf_7 : decode cX9_partOf 7 = .ok (.imul, 1) := by decide +kernel
theorem dX9_partOf_8 : decode cX9_partOf 8 = .ok (.ishr, 1) := by decide +kernel
theorem dX9_partOf_9 : decode cX9_partOf 9 = .ok (.iconst 3, 1) := by decide +kernel
theorem dX9_partOf_10 : decode cX9_partOf 10 = .ok (.iand, 1) := by decide +kernel
theorem dX9_partOf_11 : decode cX9_partOf 11 = .ok (.ireturn, 1) := by decide +kernel
theorem dX9_plan_0 : decode cX9_plan 0 = .ok (.aload_n 0, 1) := by decide +kernel
theorem dX9_plan_1 : decode cX9_plan 1 = .ok (.iload_n 1, 1) := by decide +kernel
theorem dX9_plan_2 : decode cX9_plan 2 = .ok (.invokevirtual 217, 3) := by decide +kernel
theorem dX9_plan_5 : decode cX9_plan 5 = .ok (.ifCond .ne 6, 3) := by decide +kernel
theorem dX9_plan_8 : decode cX9_plan 8 = .ok (.ldc 216, 2) := by decide +kernel
theorem dX9_plan_10 : decode cX9_plan 10 = .ok (.ireturn, 1) := by decide +kernel
theorem dX9_plan_11 : decode cX9_plan 11 = .ok (.iload_n 2, 1) := by decide +kernel
theorem dX9_plan_12 : decode cX9_plan 12 = .ok (.i2l, 1) := by decide +kernel
theorem dX9_plan_13 : decode cX9_plan 13 = .ok (.lconst 1, 1) := by decide +kernel
theorem dX9_plan_14 : decode cX9_plan 14 = .ok (.ldc2_w 328, 3) := by decide +kernel
theorem dX9_plan_17 : decode cX9_plan 17 = .ok (.invokestatic 90, 3) := by decide +kernel
theorem dX9_plan_20 : decode cX9_plan 20 = .ok (.ifCond .eq 14, 3) := by decide +kernel
theorem dX9_plan_23 : decode cX9_plan 23 = .ok (.iload_n 3, 1) := by decide +kernel
theorem dX9_plan_24 : decode cX9_plan 24 = .ok (.i2l, 1) := by decide +kernel
theorem dX9_plan_25 : decode cX9_plan 25 = .ok (.lconst 0, 1) := by decide +kernel
theorem dX9_plan_26 : decode cX9_plan 26 = .ok (.iload_n 2, 1) := by decide +kernel
theorem dX9_plan_27 : decode cX9_plan 27 = .ok (.i2l, 1) := by decide +kernel
theorem dX9_plan_28 : decode cX9_plan 28 = .ok (.invokestatic 90, 3) := by decide +kernel
theorem dX9_plan_31 : decode cX9_plan 31 = .ok (.ifCond .ne 6, 3) := by decide +kernel
theorem dX9_plan_34 : decode cX9_plan 34 = .ok (.ldc 99, 2) := by decide +kernel
theorem dX9_plan_36 : decode cX9_plan 36 = .ok (.ireturn, 1) := by decide +kernel
theorem dX9_plan_37 : decode cX9_plan 37 = .ok (.iconst (-1), 1) := by decide +kernel
theorem dX9_plan_38 : decode cX9_plan 38 = .ok (.istore 4, 2) := by decide +kernel
theorem dX9_plan_40 : decode cX9_plan 40 = .ok (.iconst 0, 1) := by decide +kernel
theorem dX9_plan_41 : decode cX9_plan 41 = .ok (.istore 5, 2) := by decide +kernel
theorem dX9_plan_43 : decode cX9_plan 43 = .ok (.aload_n 0, 1) := by decide +kernel
theorem dX9_plan_44 : decode cX9_plan 44 = .ok (.iload_n 1, 1) := by decide +kernel
theorem dX9_plan_45 : decode cX9_plan 45 = .ok (.invokevirtual 330, 3) := by decide +kernel
theorem dX9_plan_48 : decode cX9_plan 48 = .ok (.iconst 0, 1) := by decide +kernel
theorem dX9_plan_49 : decode cX9_plan 49 = .ok (.istore 6, 2) := by decide +kernel
theorem dX9_plan_51 : decode cX9_plan 51 = .ok (.iload 6, 2) := by decide +kernel
theorem dX9_plan_53 : decode cX9_plan 53 = .ok (.iconst 1, 1) := by decide +kernel
theorem dX9_plan_54 : decode cX9_plan 54 = .ok (.iconst 2, 1) := by decide +kernel
theorem dX9_plan_55 : decode cX9_plan 55 = .ok (.iload_n 2, 1) := by decide +kernel
theorem dX9_plan_56 : decode cX9_plan 56 = .ok (.imul, 1) := by decide +kernel
theorem dX9_plan_57 : decode cX9_plan 57 = .ok (.ishl, 1) := by decide +kernel
theorem dX9_plan_58 : decode cX9_plan 58 = .ok (.if_icmp .ge 86, 3) := by decide +kernel
theorem dX9_plan_61 : decode cX9_plan 61 = .ok (.iconst 0, 1) := by decide +kernel
theorem dX9_plan_62 : decode cX9_plan 62 = .ok (.istore 7, 2) := by decide +kernel
theorem dX9_plan_64 : decode cX9_plan 64 = .ok (.iload 7, 2) := by decide +kernel
theorem dX9_plan_66 : decode cX9_plan 66 = .ok (.iload_n 2, 1) := by decide +kernel
theorem dX9_plan_67 : decode cX9_plan 67 = .ok (.if_icmp .ge 22, 3) := by decide +kernel
theorem dX9_plan_70 : decode cX9_plan 70 = .ok (.aload_n 0, 1) := by decide +kernel
theorem dX9_plan_71 : decode cX9_plan 71 = .ok (.iload_n 1, 1) := by decide +kernel
theorem dX9_plan_72 : decode cX9_plan 72 = .ok (.iload 6, 2) := by decide +kernel
theorem dX9_plan_74 : decode cX9_plan 74 = .ok (.iload_n 2, 1) := by decide +kernel
theorem dX9_plan_75 : decode cX9_plan 75 = .ok (.iload 7, 2) := by decide +kernel
theorem dX9_plan_77 : decode cX9_plan 77 = .ok (.invokestatic 334, 3) := by decide +kernel
theorem dX9_plan_80 : decode cX9_plan 80 = .ok (.invokevirtual 321, 3) := by decide +kernel
theorem dX9_plan_83 : decode cX9_plan 83 = .ok (.iinc 7 1, 3) := by decide +kernel
theorem dX9_plan_86 : decode cX9_plan 86 = .ok (.goto (-22), 3) := by decide +kernel
theorem dX9_plan_89 : decode cX9_plan 89 = .ok (.aload_n 0, 1) := by decide +kernel
theorem dX9_plan_90 : decode cX9_plan 90 = .ok (.iload_n 1, 1) := by decide +kernel
theorem dX9_plan_91 : decode cX9_plan 91 = .ok (.invokevirtual 325, 3) := by decide +kernel
theorem dX9_plan_94 : decode cX9_plan 94 = .ok (.istore 7, 2) := by decide +kernel
theorem dX9_plan_96 : decode cX9_plan 96 = .ok (.iload 4, 2) := by decide +kernel
theorem dX9_plan_98 : decode cX9_plan 98 = .ok (.ifCond .lt 10, 3) := by decide +kernel
theorem dX9_plan_101 : decode cX9_plan 101 = .ok (.iload 7, 2) := by decide +kernel
theorem dX9_plan_103 : decode cX9_plan 103 = .ok (.iload 5, 2) := by decide +kernel
theorem dX9_plan_105 : decode cX9_plan 105 = .ok (.if_icmp .le 8, 3) := by decide +kernel
theorem dX9_plan_108 : decode cX9_plan 108 = .ok (.iload 6, 2) := by decide +kernel
theorem dX9_plan_110 : decode cX9_plan 110 = .ok (.goto 5, 3) := by decide +kernel
theorem dX9_plan_113 : decode cX9_plan 113 = .ok (.iload 4, 2) := by decide +kernel
theorem dX9_plan_115 : decode cX9_plan 115 = .ok (.istore 4, 2) := by decide +kernel
theorem dX9_plan_117 : decode cX9_plan 117 = .ok (.iload 4, 2) := by decide +kernel
theorem dX9_plan_119 : decode cX9_plan 119 = .ok (.iload 6, 2) := by decide +kernel
theorem dX9_plan_121 : decode cX9_plan 121 = .ok (.if_icmp .ne 8, 3) := by decide +kernel
theorem dX9_plan_124 : decode cX9_plan 124 = .ok (.iload 7, 2) := by decide +kernel
theorem dX9_plan_126 : decode cX9_plan 126 = .ok (.goto 5, 3) := by decide +kernel
theorem dX9_plan_129 : decode cX9_plan 129 = .ok (.iload 5, 2) := by decide +kernel
theorem dX9_plan_131 : decode cX9_plan 131 = .ok (.istore 5, 2) := by decide +kernel
theorem dX9_plan_133 : decode cX9_plan 133 = .ok (.aload_n 0, 1) := by decide +kernel
theorem dX9_plan_134 : decode cX9_plan 134 = .ok (.iload_n 1, 1) := by decide +kernel
theorem dX9_plan_135 : decode cX9_plan 135 = .ok (.invokevirtual 337, 3) := by decide +kernel
theorem dX9_plan_138 : decode cX9_plan 138 = .ok (.iinc 6 1, 3) := by decide +kernel
theorem dX9_plan_141 : decode cX9_plan 141 = .ok (.goto (-90), 3) := by decide +kernel
theorem dX9_plan_144 : decode cX9_plan 144 = .ok (.iload_n 3, 1) := by decide +kernel
theorem dX9_plan_145 : decode cX9_plan 145 = .ok (.ifCond .ne 8, 3) := by decide +kernel
theorem dX9_plan_148 : decode cX9_plan 148 = .ok (.iload 5, 2) := by decide +kernel
theorem dX9_plan_150 : decode cX9_plan 150 = .ok (.goto 12, 3) := by decide +kernel
theorem dX9_plan_153 : decode cX9_plan 153 = .ok (.iload 4, 2) := by decide +kernel
theorem dX9_plan_155 : decode cX9_plan 155 = .ok (.iload_n 2, 1) := by decide +kernel
theorem dX9_plan_156 : decode cX9_plan 156 = .ok (.iload_n 3, 1) := by decide +kernel
theorem dX9_plan_157 : decode cX9_plan 157 = .ok (.iconst 1, 1) := by decide +kernel
theorem dX9_plan_158 : decode cX9_plan 158 = .ok (.isub, 1) := by decide +kernel
theorem dX9_plan_159 : decode cX9_plan 159 = .ok (.invokestatic 334, 3) := by decide +kernel
theorem dX9_plan_162 : decode cX9_plan 162 = .ok (.ireturn, 1) := by decide +kernel
theorem dX9_isWithin_0 : decode cX9_isWithin 0 = .ok (.aload_n 0, 1) := by decide +kernel
theorem dX9_isWithin_1 : decode cX9_isWithin 1 = .ok (.getfield 17, 3) := by decide +kernel
theorem dX9_isWithin_4 : decode cX9_isWithin 4 = .ok (.bipush 8, 2) := by decide +kernel
theorem dX9_isWithin_6 : decode cX9_isWithin 6 = .ok (.iload_n 1, 1) := by decide +kernel
theorem dX9_isWithin_7 : decode cX9_isWithin 7 = .ok (.imul, 1) := by decide +kernel
theorem dX9_isWithin_8 : decode cX9_isWithin 8 = .ok (.iaload, 1) := by decide +kernel
theorem dX9_isWithin_9 : decode cX9_isWithin 9 = .ok (.iconst 4, 1) := by decide +kernel
theorem dX9_isWithin_10 : decode cX9_isWithin 10 = .ok (.if_icmp .eq 21, 3) := by decide +kernel
theorem dX9_isWithin_13 : decode cX9_isWithin 13 = .ok (.aload_n 0, 1) := by decide +kernel
theorem dX9_isWithin_14 : decode cX9_isWithin 14 = .ok (.getfield 17, 3) := by decide +kernel
theorem dX9_isWithin_17 : decode cX9_isWithin 17 = .ok (.bipush 8, 2) := by decide +kernel
theorem dX9_isWithin_19 : decode cX9_isWithin 19 = .ok (.iload_n 1, 1) := by decide +kernel
theorem dX9_isWithin_20 : decode cX9_isWithin 20 = .ok (.imul, 1) := by decide +kernel
theorem dX9_isWithin_21 : decode cX9_isWithin 21 = .ok (.iaload, 1) := by decide +kernel
theorem dX9_isWithin_22 : decode cX9_isWithin 22 = .ok (.bipush 7, 2) := by decide +kernel
theorem dX9_isWithin_24 : decode cX9_isWithin 24 = .ok (.if_icmp .eq 7, 3) := by decide +kernel
theorem dX9_isWithin_27 : decode cX9_isWithin 27 = .ok (.iconst 1, 1) := by decide +kernel
theorem dX9_isWithin_28 : decode cX9_isWithin 28 = .ok (.goto 4, 3) := by decide +kernel
theorem dX9_isWithin_31 : decode cX9_isWithin 31 = .ok (.iconst 0, 1) := by decide +kernel
theorem dX9_isWithin_32 : decode cX9_isWithin 32 = .ok (.istore_n 3, 1) := by decide +kernel
theorem dX9_isWithin_33 : decode cX9_isWithin 33 = .ok (.iconst 0, 1) := by decide +kernel
theorem dX9_isWithin_34 : decode cX9_isWithin 34 = .ok (.istore 4, 2) := by decide +kernel
theorem dX9_isWithin_36 : decode cX9_isWithin 36 = .ok (.iload 4, 2) := by decide +kernel
theorem dX9_isWithin_38 : decode cX9_isWithin 38 = .ok (.aload_n 0, 1) := by decide +kernel
theorem dX9_isWithin_39 : decode cX9_isWithin 39 = .ok (.getfield 178, 3) := by decide +kernel
theorem dX9_isWithin_42 : decode cX9_isWithin 42 = .ok (.if_icmp .ge 45, 3) := by decide +kernel
theorem dX9_isWithin_45 : decode cX9_isWithin 45 = .ok (.aload_n 0, 1) := by decide +kernel
theorem dX9_isWithin_46 : decode cX9_isWithin 46 = .ok (.getfield 7, 3) := by decide +kernel
theorem dX9_isWithin_49 : decode cX9_isWithin 49 = .ok (.iload 4, 2) := by decide +kernel
theorem dX9_isWithin_51 : decode cX9_isWithin 51 = .ok (.iaload, 1) := by decide +kernel
theorem dX9_isWithin_52 : decode cX9_isWithin 52 = .ok (.bipush 100, 2) := by decide +kernel
theorem dX9_isWithin_54 : decode cX9_isWithin 54 = .ok (.iload_n 2, 1) := by decide +kernel
theorem dX9_isWithin_55 : decode cX9_isWithin 55 = .ok (.imul, 1) := by decide +kernel
theorem dX9_isWithin_56 : decode cX9_isWithin 56 = .ok (.iadd, 1) := by decide +kernel
theorem dX9_isWithin_57 : decode cX9_isWithin 57 = .ok (.istore 5, 2) := by decide +kernel
theorem dX9_isWithin_59 : decode cX9_isWithin 59 = .ok (.iload_n 3, 1) := by decide +kernel
theorem dX9_isWithin_60 : decode cX9_isWithin 60 = .ok (.ifCond .eq 19, 3) := by decide +kernel
theorem dX9_isWithin_63 : decode cX9_isWithin 63 = .ok (.aload_n 0, 1) := by decide +kernel
theorem dX9_isWithin_64 : decode cX9_isWithin 64 = .ok (.iload_n 1, 1) := by decide +kernel
theorem dX9_isWithin_65 : decode cX9_isWithin 65 = .ok (.iload 5, 2) := by decide +kernel
theorem dX9_isWithin_67 : decode cX9_isWithin 67 = .ok (.invokevirtual 257, 3) := by decide +kernel
theorem dX9_isWithin_70 : decode cX9_isWithin 70 = .ok (.iload 5, 2) := by decide +kernel
theorem dX9_isWithin_72 : decode cX9_isWithin 72 = .ok (.if_icmp .ne 7, 3) := by decide +kernel
theorem dX9_isWithin_75 : decode cX9_isWithin 75 = .ok (.iconst 1, 1) := by decide +kernel
theorem dX9_isWithin_76 : decode cX9_isWithin 76 = .ok (.goto 4, 3) := by decide +kernel
theorem dX9_isWithin_79 : decode cX9_isWithin 79 = .ok (.iconst 0, 1) := by decide +kernel
theorem dX9_isWithin_80 : decode cX9_isWithin 80 = .ok (.istore_n 3, 1) := by decide +kernel
theorem dX9_isWithin_81 : decode cX9_isWithin 81 = .ok (.iinc 4 1, 3) := by decide +kernel
theorem dX9_isWithin_84 : decode cX9_isWithin 84 = .ok (.goto (-48), 3) := by decide +kernel
theorem dX9_isWithin_87 : decode cX9_isWithin 87 = .ok (.iload_n 3, 1) := by decide +kernel
theorem dX9_isWithin_88 : decode cX9_isWithin 88 = .ok (.ireturn, 1) := by decide +kernel
theorem dX9_key_0 : decode cX9_key 0 = .ok (.iload_n 1, 1) := by decide +kernel
theorem dX9_key_1 : decode cX9_key 1 = .ok (.i2l, 1) := by decide +kernel
theorem dX9_key_2 : decode cX9_key 2 = .ok (.lconst 0, 1) := by decide +kernel
theorem dX9_key_3 : decode cX9_key 3 = .ok (.lconst 1, 1) := by decide +kernel
theorem dX9_key_4 : decode cX9_key 4 = .ok (.invokestatic 90, 3) := by decide +kernel
theorem dX9_key_7 : decode cX9_key 7 = .ok (.ifCond .ne 6, 3) := by decide +kernel
theorem dX9_key_10 : decode cX9_key 10 = .ok (.ldc 99, 2) := by decide +kernel
theorem dX9_key_12 : decode cX9_key 12 = .ok (.ireturn, 1) := by decide +kernel
theorem dX9_key_13 : decode cX9_key 13 = .ok (.iconst 0, 1) := by decide +kernel
theorem dX9_key_14 : decode cX9_key 14 = .ok (.istore_n 2, 1) := by decide +kernel
theorem dX9_key_15 : decode cX9_key 15 = .ok (.iconst (-1), 1) := by decide +kernel
theorem dX9_key_16 : decode cX9_key 16 = .ok (.istore_n 3, 1) := by decide +kernel
theorem dX9_key_17 : decode cX9_key 17 = .ok (.bipush (-12), 2) := by decide +kernel
theorem dX9_key_19 : decode cX9_key 19 = .ok (.istore 4, 2) := by decide +kernel
theorem dX9_key_21 : decode cX9_key 21 = .ok (.iload 4, 2) := by decide +kernel
theorem dX9_key_23 : decode cX9_key 23 = .ok (.bipush 12, 2) := by decide +kernel
theorem dX9_key_25 : decode cX9_key 25 = .ok (.if_icmp .gt 106, 3) := by decide +kernel
theorem dX9_key_28 : decode cX9_key 28 = .ok (.iconst 0, 1) := by decide +kernel
theorem dX9_key_29 : decode cX9_key 29 = .ok (.istore 5, 2) := by decide +kernel
theorem dX9_key_31 : decode cX9_key 31 = .ok (.iconst 0, 1) := by decide +kernel
theorem dX9_key_32 : decode cX9_key 32 = .ok (.istore 6, 2) := by decide +kernel
theorem dX9_key_34 : decode cX9_key 34 = .ok (.iload 6, 2) := by decide +kernel
theorem dX9_key_36 : decode cX9_key 36 = .ok (.aload_n 0, 1) := by decide +kernel
theorem dX9_key_37 : decode cX9_key 37 = .ok (.getfield 87, 3) := by decide +kernel
theorem dX9_key_40 : decode cX9_key 40 = .ok (.if_icmp .ge 30, 3) := by decide +kernel
theorem dX9_key_43 : decode cX9_key 43 = .ok (.iload 5, 2) := by decide +kernel
theorem dX9_key_45 : decode cX9_key 45 = .ok (.aload_n 0, 1) := by decide +kernel
theorem dX9_key_46 : decode cX9_key 46 = .ok (.iload 6, 2) := by decide +kernel
theorem dX9_key_48 : decode cX9_key 48 = .ok (.iload 4, 2) := by decide +kernel
theorem dX9_key_50 : decode cX9_key 50 = .ok (.invokevirtual 340, 3) := by decide +kernel
theorem dX9_key_53 : decode cX9_key 53 = .ok (.ifCond .eq 7, 3) := by decide +kernel
theorem dX9_key_56 : decode cX9_key 56 = .ok (.iconst 1, 1) := by decide +kernel
theorem dX9_key_57 : decode cX9_key 57 = .ok (.goto 4, 3) := by decide +kernel
theorem dX9_key_60 : decode cX9_key 60 = .ok (.iconst 0, 1) := by decide +kernel
theorem dX9_key_61 : decode cX9_key 61 = .ok (.iadd, 1) := by decide +kernel
theorem dX9_key_62 : decode cX9_key 62 = .ok (.istore 5, 2) := by decide +kernel
theorem dX9_key_64 : decode cX9_key 64 = .ok (.iinc 6 1, 3) := by decide +kernel
theorem dX9_key_67 : decode cX9_key 67 = .ok (.goto (-33), 3) := by decide +kernel
theorem dX9_key_70 : decode cX9_key 70 = .ok (.iload 5, 2) := by decide +kernel
theorem dX9_key_72 : decode cX9_key 72 = .ok (.iload_n 3, 1) := by decide +kernel
theorem dX9_key_73 : decode cX9_key 73 = .ok (.if_icmp .gt 21, 3) := by decide +kernel
theorem dX9_key_76 : decode cX9_key 76 = .ok (.iload 5, 2) := by decide +kernel
theorem dX9_key_78 : decode cX9_key 78 = .ok (.iload_n 3, 1) := by decide +kernel
theorem dX9_key_79 : decode cX9_key 79 = .ok (.if_icmp .ne 19, 3) := by decide +kernel
theorem dX9_key_82 : decode cX9_key 82 = .ok (.iload 4, 2) := by decide +kernel
theorem dX9_key_84 : decode cX9_key 84 = .ok (.invokestatic 243, 3) := by decide +kernel
theorem dX9_key_87 : decode cX9_key 87 = .ok (.iload_n 2, 1) := by decide +kernel
theorem dX9_key_88 : decode cX9_key 88 = .ok (.invokestatic 243, 3) := by decide +kernel
theorem dX9_key_91 : decode cX9_key 91 = .ok (.if_icmp .ge 7, 3) := by decide +kernel
theorem dX9_key_94 : decode cX9_key 94 = .ok (.iconst 1, 1) := by decide +kernel
theorem dX9_key_95 : decode cX9_key 95 = .ok (.goto 4, 3) := by decide +kernel
theorem dX9_key_98 : decode cX9_key 98 = .ok (.iconst 0, 1) := by decide +kernel
theorem dX9_key_99 : decode cX9_key 99 = .ok (.istore 6, 2) := by decide +kernel
theorem dX9_key_101 : decode cX9_key 101 = .ok (.iload 6, 2) := by decide +kernel
theorem dX9_key_103 : decode cX9_key 103 = .ok (.ifCond .eq 8, 3) := by decide +kernel
theorem dX9_key_106 : decode cX9_key 106 = .ok (.iload 4, 2) := by decide +kernel
theorem dX9_key_108 : decode cX9_key 108 = .ok (.goto 4, 3) := by decide +kernel
theorem dX9_key_111 : decode cX9_key 111 = .ok (.iload_n 2, 1) := by decide +kernel
theorem dX9_key_112 : decode cX9_key 112 = .ok (.istore_n 2, 1) := by decide +kernel
theorem dX9_key_113 : decode cX9_key 113 = .ok (.iload 6, 2) := by decide +kernel
theorem dX9_key_115 : decode cX9_key 115 = .ok (.ifCond .eq 8, 3) := by decide +kernel
theorem dX9_key_118 : decode cX9_key 118 = .ok (.iload 5, 2) := by decide +kernel
theorem dX9_key_120 : decode cX9_key 120 = .ok (.goto 4, 3) := by decide +kernel
theorem dX9_key_123 : decode cX9_key 123 = .ok (.iload_n 3, 1) := by decide +kernel
theorem dX9_key_124 : decode cX9_key 124 = .ok (.istore_n 3, 1) := by decide +kernel
theorem dX9_key_125 : decode cX9_key 125 = .ok (.iinc 4 1, 3) := by decide +kernel
theorem dX9_key_128 : decode cX9_key 128 = .ok (.goto (-107), 3) := by decide +kernel
theorem dX9_key_131 : decode cX9_key 131 = .ok (.iload_n 1, 1) := by decide +kernel
theorem dX9_key_132 : decode cX9_key 132 = .ok (.ifCond .ne 7, 3) := by decide +kernel
theorem dX9_key_135 : decode cX9_key 135 = .ok (.iload_n 2, 1) := by decide +kernel
theorem dX9_key_136 : decode cX9_key 136 = .ok (.goto 4, 3) := by decide +kernel
theorem dX9_key_139 : decode cX9_key 139 = .ok (.iload_n 3, 1) := by decide +kernel
theorem dX9_key_140 : decode cX9_key 140 = .ok (.ireturn, 1) := by decide +kernel
theorem dX9_age_0 : decode cX9_age 0 = .ok (.aload_n 0, 1) := by decide +kernel
theorem dX9_age_1 : decode cX9_age 1 = .ok (.iload_n 1, 1) := by decide +kernel
theorem dX9_age_2 : decode cX9_age 2 = .ok (.invokevirtual 217, 3) := by decide +kernel
theorem dX9_age_5 : decode cX9_age 5 = .ok (.ifCond .ne 6, 3) := by decide +kernel
theorem dX9_age_8 : decode cX9_age 8 = .ok (.ldc 216, 2) := by decide +kernel
theorem dX9_age_10 : decode cX9_age 10 = .ok (.ireturn, 1) := by decide +kernel
theorem dX9_age_11 : decode cX9_age 11 = .ok (.iconst (-1), 1) := by decide +kernel
theorem dX9_age_12 : decode cX9_age 12 = .ok (.istore_n 2, 1) := by decide +kernel
theorem dX9_age_13 : decode cX9_age 13 = .ok (.aload_n 0, 1) := by decide +kernel
theorem dX9_age_14 : decode cX9_age 14 = .ok (.iload_n 1, 1) := by decide +kernel
theorem dX9_age_15 : decode cX9_age 15 = .ok (.invokevirtual 330, 3) := by decide +kernel
theorem dX9_age_18 : decode cX9_age 18 = .ok (.iconst 0, 1) := by decide +kernel
theorem dX9_age_19 : decode cX9_age 19 = .ok (.istore_n 3, 1) := by decide +kernel
theorem dX9_age_20 : decode cX9_age 20 = .ok (.iload_n 3, 1) := by decide +kernel
theorem dX9_age_21 : decode cX9_age 21 = .ok (.bipush 30, 2) := by decide +kernel
theorem dX9_age_23 : decode cX9_age 23 = .ok (.if_icmp .gt 90, 3) := by decide +kernel
theorem dX9_age_26 : decode cX9_age 26 = .ok (.iload_n 2, 1) := by decide +kernel
theorem dX9_age_27 : decode cX9_age 27 = .ok (.ifCond .ge 86, 3) := by decide +kernel
theorem dX9_age_30 : decode cX9_age 30 = .ok (.aload_n 0, 1) := by decide +kernel
theorem dX9_age_31 : decode cX9_age 31 = .ok (.getfield 178, 3) := by decide +kernel
theorem dX9_age_34 : decode cX9_age 34 = .ok (.ifCond .le 37, 3) := by decide +kernel
theorem dX9_age_37 : decode cX9_age 37 = .ok (.aload_n 0, 1) := by decide +kernel
theorem dX9_age_38 : decode cX9_age 38 = .ok (.getfield 17, 3) := by decide +kernel
theorem dX9_age_41 : decode cX9_age 41 = .ok (.bipush 8, 2) := by decide +kernel
theorem dX9_age_43 : decode cX9_age 43 = .ok (.iload_n 1, 1) := by decide +kernel
theorem dX9_age_44 : decode cX9_age 44 = .ok (.imul, 1) := by decide +kernel
theorem dX9_age_45 : decode cX9_age 45 = .ok (.iaload, 1) := by decide +kernel
theorem dX9_age_46 : decode cX9_age 46 = .ok (.bipush 7, 2) := by decide +kernel
theorem dX9_age_48 : decode cX9_age 48 = .ok (.if_icmp .eq 23, 3) := by decide +kernel
theorem dX9_age_51 : decode cX9_age 51 = .ok (.aload_n 0, 1) := by decide +kernel
theorem dX9_age_52 : decode cX9_age 52 = .ok (.iload_n 1, 1) := by decide +kernel
theorem dX9_age_53 : decode cX9_age 53 = .ok (.invokevirtual 325, 3) := by decide +kernel
theorem dX9_age_56 : decode cX9_age 56 = .ok (.iconst 2, 1) := by decide +kernel
theorem dX9_age_57 : decode cX9_age 57 = .ok (.aload_n 0, 1) := by decide +kernel
theorem dX9_age_58 : decode cX9_age 58 = .ok (.getfield 178, 3) := by decide +kernel
theorem dX9_age_61 : decode cX9_age 61 = .ok (.imul, 1) := by decide +kernel
theorem dX9_age_62 : decode cX9_age 62 = .ok (.iconst 1, 1) := by decide +kernel
theorem dX9_age_63 : decode cX9_age 63 = .ok (.isub, 1) := by decide +kernel
theorem dX9_age_64 : decode cX9_age 64 = .ok (.if_icmp .ne 7, 3) := by decide +kernel
theorem dX9_age_67 : decode cX9_age 67 = .ok (.iconst 1, 1) := by decide +kernel
theorem dX9_age_68 : decode cX9_age 68 = .ok (.goto 4, 3) := by decide +kernel
theorem dX9_age_71 : decode cX9_age 71 = .ok (.iconst 0, 1) := by decide +kernel
theorem dX9_age_72 : decode cX9_age 72 = .ok (.istore 4, 2) := by decide +kernel
theorem dX9_age_74 : decode cX9_age 74 = .ok (.iload 4, 2) := by decide +kernel
theorem dX9_age_76 : decode cX9_age 76 = .ok (.ifCond .eq 7, 3) := by decide +kernel
theorem dX9_age_79 : decode cX9_age 79 = .ok (.iload_n 3, 1) := by decide +kernel
theorem dX9_age_80 : decode cX9_age 80 = .ok (.goto 4, 3) := by decide +kernel
theorem dX9_age_83 : decode cX9_age 83 = .ok (.iconst (-1), 1) := by decide +kernel
theorem dX9_age_84 : decode cX9_age 84 = .ok (.istore_n 2, 1) := by decide +kernel
theorem dX9_age_85 : decode cX9_age 85 = .ok (.iconst 0, 1) := by decide +kernel
theorem dX9_age_86 : decode cX9_age 86 = .ok (.istore 5, 2) := by decide +kernel
theorem dX9_age_88 : decode cX9_age 88 = .ok (.iload 5, 2) := by decide +kernel
theorem dX9_age_90 : decode cX9_age 90 = .ok (.iconst 4, 1) := by decide +kernel
theorem dX9_age_91 : decode cX9_age 91 = .ok (.if_icmp .ge 16, 3) := by decide +kernel
theorem dX9_age_94 : decode cX9_age 94 = .ok (.aload_n 0, 1) := by decide +kernel
theorem dX9_age_95 : decode cX9_age 95 = .ok (.iload_n 1, 1) := by decide +kernel
theorem dX9_age_96 : decode cX9_age 96 = .ok (.iload 5, 2) := by decide +kernel
theorem dX9_age_98 : decode cX9_age 98 = .ok (.invokevirtual 321, 3) := by decide +kernel
theorem dX9_age_101 : decode cX9_age 101 = .ok (.iinc 5 1, 3) := by decide +kernel
theorem dX9_age_104 : decode cX9_age 104 = .ok (.goto (-16), 3) := by decide +kernel
theorem dX9_age_107 : decode cX9_age 107 = .ok (.iinc 3 1, 3) := by decide +kernel
theorem dX9_age_110 : decode cX9_age 110 = .ok (.goto (-90), 3) := by decide +kernel
theorem dX9_age_113 : decode cX9_age 113 = .ok (.aload_n 0, 1) := by decide +kernel
theorem dX9_age_114 : decode cX9_age 114 = .ok (.iload_n 1, 1) := by decide +kernel
theorem dX9_age_115 : decode cX9_age 115 = .ok (.invokevirtual 337, 3) := by decide +kernel
theorem dX9_age_118 : decode cX9_age 118 = .ok (.iload_n 2, 1) := by decide +kernel
theorem dX9_age_119 : decode cX9_age 119 = .ok (.ireturn, 1) := by decide +kernel
theorem dX9_isKnownBy_0 : decode cX9_isKnownBy 0 = .ok (.aload_n 0, 1) := by decide +kernel
theorem dX9_isKnownBy_1 : decode cX9_isKnownBy 1 = .ok (.getfield 66, 3) := by decide +kernel
theorem dX9_isKnownBy_4 : decode cX9_isKnownBy 4 = .ok (.bipush 33, 2) := by decide +kernel
theorem dX9_isKnownBy_6 : decode cX9_isKnownBy 6 = .ok (.iload_n 1, 1) := by decide +kernel
theorem dX9_isKnownBy_7 : decode cX9_isKnownBy 7 = .ok (.imul, 1) := by decide +kernel
theorem dX9_isKnownBy_8 : decode cX9_isKnownBy 8 = .ok (.iload_n 2, 1) := by decide +kernel
theorem dX9_isKnownBy_9 : decode cX9_isKnownBy 9 = .ok (.iadd, 1) := by decide +kernel
theorem dX9_isKnownBy_10 : decode cX9_isKnownBy 10 = .ok (.baload, 1) := by decide +kernel
theorem dX9_isKnownBy_11 : decode cX9_isKnownBy 11 = .ok (.istore_n 3, 1) := by decide +kernel
theorem dX9_isKnownBy_12 : decode cX9_isKnownBy 12 = .ok (.iconst 0, 1) := by decide +kernel
theorem dX9_isKnownBy_13 : decode cX9_isKnownBy 13 = .ok (.istore 4, 2) := by decide +kernel
theorem dX9_isKnownBy_15 : decode cX9_isKnownBy 15 = .ok (.iload 4, 2) := by decide +kernel
theorem dX9_isKnownBy_17 : decode cX9_isKnownBy 17 = .ok (.iload_n 1, 1) := by decide +kernel
theorem dX9_isKnownBy_18 : decode cX9_isKnownBy 18 = .ok (.iconst 1, 1) := by decide +kernel
theorem dX9_isKnownBy_19 : decode cX9_isKnownBy 19 = .ok (.iadd, 1) := by decide +kernel
theorem dX9_isKnownBy_20 : decode cX9_isKnownBy 20 = .ok (.iload_n 2, 1) := by decide +kernel
theorem dX9_isKnownBy_21 : decode cX9_isKnownBy 21 = .ok (.iconst 1, 1) := by decide +kernel
theorem dX9_isKnownBy_22 : decode cX9_isKnownBy 22 = .ok (.iadd, 1) := by decide +kernel
theorem dX9_isKnownBy_23 : decode cX9_isKnownBy 23 = .ok (.imul, 1) := by decide +kernel
theorem dX9_isKnownBy_24 : decode cX9_isKnownBy 24 = .ok (.if_icmp .ge 79, 3) := by decide +kernel
theorem dX9_isKnownBy_27 : decode cX9_isKnownBy 27 = .ok (.iload_n 3, 1) := by decide +kernel
theorem dX9_isKnownBy_28 : decode cX9_isKnownBy 28 = .ok (.ifCond .ne 75, 3) := by decide +kernel
theorem dX9_isKnownBy_31 : decode cX9_isKnownBy 31 = .ok (.iload 4, 2) := by decide +kernel
theorem dX9_isKnownBy_33 : decode cX9_isKnownBy 33 = .ok (.iload_n 2, 1) := by decide +kernel
theorem dX9_isKnownBy_34 : decode cX9_isKnownBy 34 = .ok (.iconst 1, 1) := by decide +kernel
theorem dX9_isKnownBy_35 : decode cX9_isKnownBy 35 = .ok (.iadd, 1) := by decide +kernel
theorem dX9_isKnownBy_36 : decode cX9_isKnownBy 36 = .ok (.idiv, 1) := by decide +kernel
theorem dX9_isKnownBy_37 : decode cX9_isKnownBy 37 = .ok (.istore 5, 2) := by decide +kernel
theorem dX9_isKnownBy_39 : decode cX9_isKnownBy 39 = .ok (.iload 4, 2) := by decide +kernel
theorem dX9_isKnownBy_41 : decode cX9_isKnownBy 41 = .ok (.iload_n 2, 1) := by decide +kernel
theorem dX9_isKnownBy_42 : decode cX9_isKnownBy 42 = .ok (.iconst 1, 1) := by decide +kernel
theorem dX9_isKnownBy_43 : decode cX9_isKnownBy 43 = .ok (.iadd, 1) := by decide +kernel
theorem dX9_isKnownBy_44 : decode cX9_isKnownBy 44 = .ok (.irem, 1) := by decide +kernel
theorem dX9_isKnownBy_45 : decode cX9_isKnownBy 45 = .ok (.istore 6, 2) := by decide +kernel
theorem dX9_isKnownBy_47 : decode cX9_isKnownBy 47 = .ok (.aload_n 0, 1) := by decide +kernel
theorem dX9_isKnownBy_48 : decode cX9_isKnownBy 48 = .ok (.getfield 66, 3) := by decide +kernel
theorem dX9_isKnownBy_51 : decode cX9_isKnownBy 51 = .ok (.bipush 33, 2) := by decide +kernel
theorem dX9_isKnownBy_53 : decode cX9_isKnownBy 53 = .ok (.iload 5, 2) := by decide +kernel
theorem dX9_isKnownBy_55 : decode cX9_isKnownBy 55 = .ok (.imul, 1) := by decide +kernel
theorem dX9_isKnownBy_56 : decode cX9_isKnownBy 56 = .ok (.iload_n 1, 1) := by decide +kernel
theorem dX9_isKnownBy_57 : decode cX9_isKnownBy 57 = .ok (.iadd, 1) := by decide +kernel
theorem dX9_isKnownBy_58 : decode cX9_isKnownBy 58 = .ok (.iload 5, 2) := by decide +kernel
theorem dX9_isKnownBy_60 : decode cX9_isKnownBy 60 = .ok (.isub, 1) := by decide +kernel
theorem dX9_isKnownBy_61 : decode cX9_isKnownBy 61 = .ok (.iload 6, 2) := by decide +kernel
theorem dX9_isKnownBy_63 : decode cX9_isKnownBy 63 = .ok (.iadd, 1) := by decide +kernel
theorem dX9_isKnownBy_64 : decode cX9_isKnownBy 64 = .ok (.baload, 1) := by decide +kernel
theorem dX9_isKnownBy_65 : decode cX9_isKnownBy 65 = .ok (.ifCond .eq 30, 3) := by decide +kernel
theorem dX9_isKnownBy_68 : decode cX9_isKnownBy 68 = .ok (.aload_n 0, 1) := by decide +kernel
theorem dX9_isKnownBy_69 : decode cX9_isKnownBy 69 = .ok (.getfield 66, 3) := by decide +kernel
theorem dX9_isKnownBy_72 : decode cX9_isKnownBy 72 = .ok (.bipush 33, 2) := by decide +kernel
theorem dX9_isKnownBy_74 : decode cX9_isKnownBy 74 = .ok (.iload_n 1, 1) := by decide +kernel
theorem dX9_isKnownBy_75 : decode cX9_isKnownBy 75 = .ok (.iload 5, 2) := by decide +kernel
theorem dX9_isKnownBy_77 : decode cX9_isKnownBy 77 = .ok (.isub, 1) := by decide +kernel
theorem dX9_isKnownBy_78 : decode cX9_isKnownBy 78 = .ok (.imul, 1) := by decide +kernel
theorem dX9_isKnownBy_79 : decode cX9_isKnownBy 79 = .ok (.iload 5, 2) := by decide +kernel
theorem dX9_isKnownBy_81 : decode cX9_isKnownBy 81 = .ok (.iadd, 1) := by decide +kernel
theorem dX9_isKnownBy_82 : decode cX9_isKnownBy 82 = .ok (.iload_n 2, 1) := by decide +kernel
theorem dX9_isKnownBy_83 : decode cX9_isKnownBy 83 = .ok (.iadd, 1) := by decide +kernel
theorem dX9_isKnownBy_84 : decode cX9_isKnownBy 84 = .ok (.iload 6, 2) := by decide +kernel
theorem dX9_isKnownBy_86 : decode cX9_isKnownBy 86 = .ok (.isub, 1) := by decide +kernel
theorem dX9_isKnownBy_87 : decode cX9_isKnownBy 87 = .ok (.baload, 1) := by decide +kernel
theorem dX9_isKnownBy_88 : decode cX9_isKnownBy 88 = .ok (.ifCond .eq 7, 3) := by decide +kernel
theorem dX9_isKnownBy_91 : decode cX9_isKnownBy 91 = .ok (.iconst 1, 1) := by decide +kernel
theorem dX9_isKnownBy_92 : decode cX9_isKnownBy 92 = .ok (.goto 4, 3) := by decide +kernel
theorem dX9_isKnownBy_95 : decode cX9_isKnownBy 95 = .ok (.iconst 0, 1) := by decide +kernel
theorem dX9_isKnownBy_96 : decode cX9_isKnownBy 96 = .ok (.istore_n 3, 1) := by decide +kernel
theorem dX9_isKnownBy_97 : decode cX9_isKnownBy 97 = .ok (.iinc 4 1, 3) := by decide +kernel
theorem dX9_isKnownBy_100 : decode cX9_isKnownBy 100 = .ok (.goto (-85), 3) := by decide +kernel
theorem dX9_isKnownBy_103 : decode cX9_isKnownBy 103 = .ok (.iload_n 3, 1) := by decide +kernel
theorem dX9_isKnownBy_104 : decode cX9_isKnownBy 104 = .ok (.ireturn, 1) := by decide +kernel
theorem dX9_passesWithSlip_0 : decode cX9_passesWithSlip 0 = .ok (.iconst 0, 1) := by decide +kernel
theorem dX9_passesWithSlip_1 : decode cX9_passesWithSlip 1 = .ok (.istore_n 2, 1) := by decide +kernel
theorem dX9_passesWithSlip_2 : decode cX9_passesWithSlip 2 = .ok (.iload_n 2, 1) := by decide +kernel
theorem dX9_passesWithSlip_3 : decode cX9_passesWithSlip 3 = .ok (.sipush 1089, 3) := by decide +kernel
theorem dX9_passesWithSlip_6 : decode cX9_passesWithSlip 6 = .ok (.if_icmp .ge 33, 3) := by decide +kernel
theorem dX9_passesWithSlip_9 : decode cX9_passesWithSlip 9 = .ok (.aload_n 0, 1) := by decide +kernel
theorem dX9_passesWithSlip_10 : decode cX9_passesWithSlip 10 = .ok (.getfield 66, 3) := by decide +kernel
theorem dX9_passesWithSlip_13 : decode cX9_passesWithSlip 13 = .ok (.iload_n 2, 1) := by decide +kernel
theorem dX9_passesWithSlip_14 : decode cX9_passesWithSlip 14 = .ok (.iload_n 2, 1) := by decide +kernel
theorem dX9_passesWithSlip_15 : decode cX9_passesWithSlip 15 = .ok (.bipush 33, 2) := by decide +kernel
theorem dX9_passesWithSlip_17 : decode cX9_passesWithSlip 17 = .ok (.idiv, 1) := by decide +kernel
theorem dX9_passesWithSlip_18 : decode cX9_passesWithSlip 18 = .ok (.iload_n 2, 1) := by decide +kernel
theorem dX9_passesWithSlip_19 : decode cX9_passesWithSlip 19 = .ok (.bipush 33, 2) := by decide +kernel
theorem dX9_passesWithSlip_21 : decode cX9_passesWithSlip 21 = .ok (.irem, 1) := by decide +kernel
theorem dX9_passesWithSlip_22 : decode cX9_passesWithSlip 22 = .ok (.iadd, 1) := by decide +kernel
theorem dX9_passesWithSlip_23 : decode cX9_passesWithSlip 23 = .ok (.iconst 1, 1) := by decide +kernel
theorem dX9_passesWithSlip_24 : decode cX9_passesWithSlip 24 = .ok (.if_icmp .gt 7, 3) := by decide +kernel
theorem dX9_passesWithSlip_27 : decode cX9_passesWithSlip 27 = .ok (.iconst 1, 1) := by decide +kernel
theorem dX9_passesWithSlip_28 : decode cX9_passesWithSlip 28 = .ok (.goto 4, 3) := by decide +kernel
theorem dX9_passesWithSlip_31 : decode cX9_passesWithSlip 31 = .ok (.iconst 0, 1) := by decide +kernel
theorem dX9_passesWithSlip_32 : decode cX9_passesWithSlip 32 = .ok (.bastore, 1) := by decide +kernel
theorem dX9_passesWithSlip_33 : decode cX9_passesWithSlip 33 = .ok (.iinc 2 1, 3) := by decide +kernel
theorem dX9_passesWithSlip_36 : decode cX9_passesWithSlip 36 = .ok (.goto (-34), 3) := by decide +kernel
theorem dX9_passesWithSlip_39 : decode cX9_passesWithSlip 39 = .ok (.iconst 0, 1) := by decide +kernel
theorem dX9_passesWithSlip_40 : decode cX9_passesWithSlip 40 = .ok (.istore_n 2, 1) := by decide +kernel
theorem dX9_passesWithSlip_41 : decode cX9_passesWithSlip 41 = .ok (.aload_n 0, 1) := by decide +kernel
theorem dX9_passesWithSlip_42 : decode cX9_passesWithSlip 42 = .ok (.getfield 66, 3) := by decide +kernel
theorem dX9_passesWithSlip_45 : decode cX9_passesWithSlip 45 = .ok (.bipush 33, 2) := by decide +kernel
theorem dX9_passesWithSlip_47 : decode cX9_passesWithSlip 47 = .ok (.iload_n 1, 1) := by decide +kernel
theorem dX9_passesWithSlip_48 : decode cX9_passesWithSlip 48 = .ok (.imul, 1) := by decide +kernel
theorem dX9_passesWithSlip_49 : decode cX9_passesWithSlip 49 = .ok (.baload, 1) := by decide +kernel
theorem dX9_passesWithSlip_50 : decode cX9_passesWithSlip 50 = .ok (.ifCond .ne 112, 3) := by decide +kernel
theorem dX9_passesWithSlip_53 : decode cX9_passesWithSlip 53 = .ok (.iconst 0, 1) := by decide +kernel
theorem dX9_passesWithSlip_54 : decode cX9_passesWithSlip 54 = .ok (.istore_n 3, 1) := by decide +kernel
theorem dX9_passesWithSlip_55 : decode cX9_passesWithSlip 55 = .ok (.iload_n 3, 1) := by decide +kernel
theorem dX9_passesWithSlip_56 : decode cX9_passesWithSlip 56 = .ok (.iload_n 1, 1) := by decide +kernel
theorem dX9_passesWithSlip_57 : decode cX9_passesWithSlip 57 = .ok (.if_icmp .gt 45, 3) := by decide +kernel
theorem dX9_passesWithSlip_60 : decode cX9_passesWithSlip 60 = .ok (.iconst 0, 1) := by decide +kernel
theorem dX9_passesWithSlip_61 : decode cX9_passesWithSlip 61 = .ok (.istore 4, 2) := by decide +kernel
theorem dX9_passesWithSlip_63 : decode cX9_passesWithSlip 63 = .ok (.iload_n 3, 1) := by decide +kernel
theorem dX9_passesWithSlip_64 : decode cX9_passesWithSlip 64 = .ok (.iload 4, 2) := by decide +kernel
theorem dX9_passesWithSlip_66 : decode cX9_passesWithSlip 66 = .ok (.iadd, 1) := by decide +kernel
theorem dX9_passesWithSlip_67 : decode cX9_passesWithSlip 67 = .ok (.iload_n 1, 1) := by decide +kernel
theorem dX9_passesWithSlip_68 : decode cX9_passesWithSlip 68 = .ok (.if_icmp .gt 28, 3) := by decide +kernel
theorem dX9_passesWithSlip_71 : decode cX9_passesWithSlip 71 = .ok (.aload_n 0, 1) := by decide +kernel
theorem dX9_passesWithSlip_72 : decode cX9_passesWithSlip 72 = .ok (.getfield 69, 3) := by decide +kernel
theorem dX9_passesWithSlip_75 : decode cX9_passesWithSlip 75 = .ok (.bipush 33, 2) := by decide +kernel
theorem dX9_passesWithSlip_77 : decode cX9_passesWithSlip 77 = .ok (.iload_n 3, 1) := by decide +kernel
theorem dX9_passesWithSlip_78 : decode cX9_passesWithSlip 78 = .ok (.imul, 1) := by decide +kernel
theorem dX9_passesWithSlip_79 : decode cX9_passesWithSlip 79 = .ok (.iload 4, 2) := by decide +kernel
theorem dX9_passesWithSlip_81 : decode cX9_passesWithSlip 81 = .ok (.iadd, 1) := by decide +kernel
theorem dX9_passesWithSlip_82 : decode cX9_passesWithSlip 82 = .ok (.aload_n 0, 1) := by decide +kernel
theorem dX9_passesWithSlip_83 : decode cX9_passesWithSlip 83 = .ok (.iload_n 3, 1) := by decide +kernel
theorem dX9_passesWithSlip_84 : decode cX9_passesWithSlip 84 = .ok (.iload 4, 2) := by decide +kernel
theorem dX9_passesWithSlip_86 : decode cX9_passesWithSlip 86 = .ok (.invokevirtual 343, 3) := by decide +kernel
theorem dX9_passesWithSlip_89 : decode cX9_passesWithSlip 89 = .ok (.bastore, 1) := by decide +kernel
theorem dX9_passesWithSlip_90 : decode cX9_passesWithSlip 90 = .ok (.iinc 4 1, 3) := by decide +kernel
theorem dX9_passesWithSlip_93 : decode cX9_passesWithSlip 93 = .ok (.goto (-30), 3) := by decide +kernel
theorem dX9_passesWithSlip_96 : decode cX9_passesWithSlip 96 = .ok (.iinc 3 1, 3) := by decide +kernel
theorem dX9_passesWithSlip_99 : decode cX9_passesWithSlip 99 = .ok (.goto (-44), 3) := by decide +kernel
theorem dX9_passesWithSlip_102 : decode cX9_passesWithSlip 102 = .ok (.iconst 0, 1) := by decide +kernel
theorem dX9_passesWithSlip_103 : decode cX9_passesWithSlip 103 = .ok (.istore_n 3, 1) := by decide +kernel
theorem dX9_passesWithSlip_104 : decode cX9_passesWithSlip 104 = .ok (.iload_n 3, 1) := by decide +kernel
theorem dX9_passesWithSlip_105 : decode cX9_passesWithSlip 105 = .ok (.iload_n 1, 1) := by decide +kernel
theorem dX9_passesWithSlip_106 : decode cX9_passesWithSlip 106 = .ok (.if_icmp .gt 50, 3) := by decide +kernel
theorem dX9_passesWithSlip_109 : decode cX9_passesWithSlip 109 = .ok (.iconst 0, 1) := by decide +kernel
theorem dX9_passesWithSlip_110 : decode cX9_passesWithSlip 110 = .ok (.istore 4, 2) := by decide +kernel
theorem dX9_passesWithSlip_112 : decode cX9_passesWithSlip 112 = .ok (.iload_n 3, 1) := by decide +kernel
theorem dX9_passesWithSlip_113 : decode cX9_passesWithSlip 113 = .ok (.iload 4, 2) := by decide +kernel
theorem dX9_passesWithSlip_115 : decode cX9_passesWithSlip 115 = .ok (.iadd, 1) := by decide +kernel
theorem dX9_passesWithSlip_116 : decode cX9_passesWithSlip 116 = .ok (.iload_n 1, 1) := by decide +kernel
theorem dX9_passesWithSlip_117 : decode cX9_passesWithSlip 117 = .ok (.if_icmp .gt 33, 3) := by decide +kernel
theorem dX9_passesWithSlip_120 : decode cX9_passesWithSlip 120 = .ok (.aload_n 0, 1) := by decide +kernel
theorem dX9_passesWithSlip_121 : decode cX9_passesWithSlip 121 = .ok (.getfield 66, 3) := by decide +kernel
theorem dX9_passesWithSlip_124 : decode cX9_passesWithSlip 124 = .ok (.bipush 33, 2) := by decide +kernel
theorem dX9_passesWithSlip_126 : decode cX9_passesWithSlip 126 = .ok (.iload_n 3, 1) := by decide +kernel
theorem dX9_passesWithSlip_127 : decode cX9_passesWithSlip 127 = .ok (.imul, 1) := by decide +kernel
theorem dX9_passesWithSlip_128 : decode cX9_passesWithSlip 128 = .ok (.iload 4, 2) := by decide +kernel
theorem dX9_passesWithSlip_130 : decode cX9_passesWithSlip 130 = .ok (.iadd, 1) := by decide +kernel
theorem dX9_passesWithSlip_131 : decode cX9_passesWithSlip 131 = .ok (.aload_n 0, 1) := by decide +kernel
theorem dX9_passesWithSlip_132 : decode cX9_passesWithSlip 132 = .ok (.getfield 69, 3) := by decide +kernel
theorem dX9_passesWithSlip_135 : decode cX9_passesWithSlip 135 = .ok (.bipush 33, 2) := by decide +kernel
theorem dX9_passesWithSlip_137 : decode cX9_passesWithSlip 137 = .ok (.iload_n 3, 1) := by decide +kernel
theorem dX9_passesWithSlip_138 : decode cX9_passesWithSlip 138 = .ok (.imul, 1) := by decide +kernel
theorem dX9_passesWithSlip_139 : decode cX9_passesWithSlip 139 = .ok (.iload 4, 2) := by decide +kernel
theorem dX9_passesWithSlip_141 : decode cX9_passesWithSlip 141 = .ok (.iadd, 1) := by decide +kernel
theorem dX9_passesWithSlip_142 : decode cX9_passesWithSlip 142 = .ok (.baload, 1) := by decide +kernel
theorem dX9_passesWithSlip_143 : decode cX9_passesWithSlip 143 = .ok (.bastore, 1) := by decide +kernel
theorem dX9_passesWithSlip_144 : decode cX9_passesWithSlip 144 = .ok (.iinc 4 1, 3) := by decide +kernel
theorem dX9_passesWithSlip_147 : decode cX9_passesWithSlip 147 = .ok (.goto (-35), 3) := by decide +kernel
theorem dX9_passesWithSlip_150 : decode cX9_passesWithSlip 150 = .ok (.iinc 3 1, 3) := by decide +kernel
theorem dX9_passesWithSlip_153 : decode cX9_passesWithSlip 153 = .ok (.goto (-49), 3) := by decide +kernel
theorem dX9_passesWithSlip_156 : decode cX9_passesWithSlip 156 = .ok (.iinc 2 1, 3) := by decide +kernel
theorem dX9_passesWithSlip_159 : decode cX9_passesWithSlip 159 = .ok (.goto (-118), 3) := by decide +kernel
theorem dX9_passesWithSlip_162 : decode cX9_passesWithSlip 162 = .ok (.iload_n 2, 1) := by decide +kernel
theorem dX9_passesWithSlip_163 : decode cX9_passesWithSlip 163 = .ok (.ireturn, 1) := by decide +kernel
theorem dX9_figures_0 : decode cX9_figures 0 = .ok (.iconst 0, 1) := by decide +kernel
theorem dX9_figures_1 : decode cX9_figures 1 = .ok (.istore_n 1, 1) := by decide +kernel
theorem dX9_figures_2 : decode cX9_figures 2 = .ok (.iconst 1, 1) := by decide +kernel
theorem dX9_figures_3 : decode cX9_figures 3 = .ok (.iload_n 1, 1) := by decide +kernel
theorem dX9_figures_4 : decode cX9_figures 4 = .ok (.ishl, 1) := by decide +kernel
theorem dX9_figures_5 : decode cX9_figures 5 = .ok (.iload_n 0, 1) := by decide +kernel
theorem dX9_figures_6 : decode cX9_figures 6 = .ok (.if_icmp .ge 9, 3) := by decide +kernel
theorem dX9_figures_9 : decode cX9_figures 9 = .ok (.iinc 1 1, 3) := by decide +kernel
theorem dX9_figures_12 : decode cX9_figures 12 = .ok (.goto (-10), 3) := by decide +kernel
theorem dX9_figures_15 : decode cX9_figures 15 = .ok (.iload_n 1, 1) := by decide +kernel
theorem dX9_figures_16 : decode cX9_figures 16 = .ok (.ireturn, 1) := by decide +kernel
theorem dX9_passes_0 : decode cX9_passes 0 = .ok (.iload_n 1, 1) := by decide +kernel
theorem dX9_passes_1 : decode cX9_passes 1 = .ok (.i2l, 1) := by decide +kernel
theorem dX9_passes_2 : decode cX9_passes 2 = .ok (.lconst 1, 1) := by decide +kernel
theorem dX9_passes_3 : decode cX9_passes 3 = .ok (.ldc2_w 346, 3) := by decide +kernel
theorem dX9_passes_6 : decode cX9_passes 6 = .ok (.invokestatic 90, 3) := by decide +kernel
theorem dX9_passes_9 : decode cX9_passes 9 = .ok (.ifCond .eq 13, 3) := by decide +kernel
theorem dX9_passes_12 : decode cX9_passes 12 = .ok (.iload_n 2, 1) := by decide +kernel
theorem dX9_passes_13 : decode cX9_passes 13 = .ok (.i2l, 1) := by decide +kernel
theorem dX9_passes_14 : decode cX9_passes 14 = .ok (.lconst 0, 1) := by decide +kernel
theorem dX9_passes_15 : decode cX9_passes 15 = .ok (.lconst 1, 1) := by decide +kernel
theorem dX9_passes_16 : decode cX9_passes 16 = .ok (.invokestatic 90, 3) := by decide +kernel
theorem dX9_passes_19 : decode cX9_passes 19 = .ok (.ifCond .ne 6, 3) := by decide +kernel
theorem dX9_passes_22 : decode cX9_passes 22 = .ok (.ldc 99, 2) := by decide +kernel
theorem dX9_passes_24 : decode cX9_passes 24 = .ok (.ireturn, 1) := by decide +kernel
theorem dX9_passes_25 : decode cX9_passes 25 = .ok (.iload_n 2, 1) := by decide +kernel
theorem dX9_passes_26 : decode cX9_passes 26 = .ok (.ifCond .ne 10, 3) := by decide +kernel
theorem dX9_passes_29 : decode cX9_passes 29 = .ok (.iload_n 1, 1) := by decide +kernel
theorem dX9_passes_30 : decode cX9_passes 30 = .ok (.invokestatic 348, 3) := by decide +kernel
theorem dX9_passes_33 : decode cX9_passes 33 = .ok (.goto 8, 3) := by decide +kernel
theorem dX9_passes_36 : decode cX9_passes 36 = .ok (.aload_n 0, 1) := by decide +kernel
theorem dX9_passes_37 : decode cX9_passes 37 = .ok (.iload_n 1, 1) := by decide +kernel
theorem dX9_passes_38 : decode cX9_passes 38 = .ok (.invokevirtual 351, 3) := by decide +kernel
theorem dX9_passes_41 : decode cX9_passes 41 = .ok (.ireturn, 1) := by decide +kernel
theorem dX9_pairs_0 : decode cX9_pairs 0 = .ok (.iload_n 1, 1) := by decide +kernel
theorem dX9_pairs_1 : decode cX9_pairs 1 = .ok (.i2l, 1) := by decide +kernel
theorem dX9_pairs_2 : decode cX9_pairs 2 = .ok (.ldc2_w 267, 3) := by decide +kernel
theorem dX9_pairs_5 : decode cX9_pairs 5 = .ok (.ldc2_w 346, 3) := by decide +kernel
theorem dX9_pairs_8 : decode cX9_pairs 8 = .ok (.invokestatic 90, 3) := by decide +kernel
theorem dX9_pairs_11 : decode cX9_pairs 11 = .ok (.ifCond .eq 16, 3) := by decide +kernel
theorem dX9_pairs_14 : decode cX9_pairs 14 = .ok (.iload_n 1, 1) := by decide +kernel
theorem dX9_pairs_15 : decode cX9_pairs 15 = .ok (.iload_n 1, 1) := by decide +kernel
theorem dX9_pairs_16 : decode cX9_pairs 16 = .ok (.iconst 1, 1) := by decide +kernel
theorem dX9_pairs_17 : decode cX9_pairs 17 = .ok (.isub, 1) := by decide +kernel
theorem dX9_pairs_18 : decode cX9_pairs 18 = .ok (.imul, 1) := by decide +kernel
theorem dX9_pairs_19 : decode cX9_pairs 19 = .ok (.iconst 2, 1) := by decide +kernel
theorem dX9_pairs_20 : decode cX9_pairs 20 = .ok (.idiv, 1) := by decide +kernel
theorem dX9_pairs_21 : decode cX9_pairs 21 = .ok (.invokestatic 348, 3) := by decide +kernel
theorem dX9_pairs_24 : decode cX9_pairs 24 = .ok (.goto 5, 3) := by decide +kernel
theorem dX9_pairs_27 : decode cX9_pairs 27 = .ok (.ldc 99, 2) := by decide +kernel
theorem dX9_pairs_29 : decode cX9_pairs 29 = .ok (.ireturn, 1) := by decide +kernel
theorem dX9_isHome_0 : decode cX9_isHome 0 = .ok (.iload_n 0, 1) := by decide +kernel
theorem dX9_isHome_1 : decode cX9_isHome 1 = .ok (.i2l, 1) := by decide +kernel
theorem dX9_isHome_2 : decode cX9_isHome 2 = .ok (.ldc2_w 354, 3) := by decide +kernel
theorem dX9_isHome_5 : decode cX9_isHome 5 = .ok (.ldc2_w 356, 3) := by decide +kernel
theorem dX9_isHome_8 : decode cX9_isHome 8 = .ok (.invokestatic 90, 3) := by decide +kernel
theorem dX9_isHome_11 : decode cX9_isHome 11 = .ok (.ireturn, 1) := by decide +kernel
theorem dX9_join_0 : decode cX9_join 0 = .ok (.iload_n 1, 1) := by decide +kernel
theorem dX9_join_1 : decode cX9_join 1 = .ok (.invokestatic 358, 3) := by decide +kernel
theorem dX9_join_4 : decode cX9_join 4 = .ok (.ifCond .ne 6, 3) := by decide +kernel
theorem dX9_join_7 : decode cX9_join 7 = .ok (.ldc 99, 2) := by decide +kernel
theorem dX9_join_9 : decode cX9_join 9 = .ok (.ireturn, 1) := by decide +kernel
theorem dX9_join_10 : decode cX9_join 10 = .ok (.aload_n 0, 1) := by decide +kernel
theorem dX9_join_11 : decode cX9_join 11 = .ok (.getfield 206, 3) := by decide +kernel
theorem dX9_join_14 : decode cX9_join 14 = .ok (.bipush 8, 2) := by decide +kernel
theorem dX9_join_16 : decode cX9_join 16 = .ok (.if_icmp .ne 6, 3) := by decide +kernel
theorem dX9_join_19 : decode cX9_join 19 = .ok (.ldc 103, 2) := by decide +kernel
theorem dX9_join_21 : decode cX9_join 21 = .ok (.ireturn, 1) := by decide +kernel
theorem dX9_join_22 : decode cX9_join 22 = .ok (.aload_n 0, 1) := by decide +kernel
theorem dX9_join_23 : decode cX9_join 23 = .ok (.getfield 72, 3) := by decide +kernel
theorem dX9_join_26 : decode cX9_join 26 = .ok (.aload_n 0, 1) := by decide +kernel
theorem dX9_join_27 : decode cX9_join 27 = .ok (.getfield 206, 3) := by decide +kernel
theorem dX9_join_30 : decode cX9_join 30 = .ok (.iload_n 1, 1) := by decide +kernel
theorem dX9_join_31 : decode cX9_join 31 = .ok (.iastore, 1) := by decide +kernel
theorem dX9_join_32 : decode cX9_join 32 = .ok (.aload_n 0, 1) := by decide +kernel
theorem dX9_join_33 : decode cX9_join 33 = .ok (.dup, 1) := by decide +kernel
theorem dX9_join_34 : decode cX9_join 34 = .ok (.getfield 206, 3) := by decide +kernel
theorem dX9_join_37 : decode cX9_join 37 = .ok (.iconst 1, 1) := by decide +kernel
theorem dX9_join_38 : decode cX9_join 38 = .ok (.iadd, 1) := by decide +kernel
theorem dX9_join_39 : decode cX9_join 39 = .ok (.putfield 206, 3) := by decide +kernel
theorem dX9_join_42 : decode cX9_join 42 = .ok (.aload_n 0, 1) := by decide +kernel
theorem dX9_join_43 : decode cX9_join 43 = .ok (.getfield 206, 3) := by decide +kernel
theorem dX9_join_46 : decode cX9_join 46 = .ok (.ireturn, 1) := by decide +kernel
theorem dX9_part_0 : decode cX9_part 0 = .ok (.aload_n 0, 1) := by decide +kernel
theorem dX9_part_1 : decode cX9_part 1 = .ok (.getfield 206, 3) := by decide +kernel
theorem dX9_part_4 : decode cX9_part 4 = .ok (.istore_n 1, 1) := by decide +kernel
theorem dX9_part_5 : decode cX9_part 5 = .ok (.aload_n 0, 1) := by decide +kernel
theorem dX9_part_6 : decode cX9_part 6 = .ok (.iconst 0, 1) := by decide +kernel
theorem dX9_part_7 : decode cX9_part 7 = .ok (.putfield 206, 3) := by decide +kernel
theorem dX9_part_10 : decode cX9_part 10 = .ok (.iload_n 1, 1) := by decide +kernel
theorem dX9_part_11 : decode cX9_part 11 = .ok (.ireturn, 1) := by decide +kernel
theorem dX9_ends_0 : decode cX9_ends 0 = .ok (.iload_n 1, 1) := by decide +kernel
theorem dX9_ends_1 : decode cX9_ends 1 = .ok (.i2l, 1) := by decide +kernel
theorem dX9_ends_2 : decode cX9_ends 2 = .ok (.lconst 0, 1) := by decide +kernel
theorem dX9_ends_3 : decode cX9_ends 3 = .ok (.lconst 1, 1) := by decide +kernel
theorem dX9_ends_4 : decode cX9_ends 4 = .ok (.invokestatic 90, 3) := by decide +kernel
theorem dX9_ends_7 : decode cX9_ends 7 = .ok (.ifCond .ne 6, 3) := by decide +kernel
theorem dX9_ends_10 : decode cX9_ends 10 = .ok (.ldc 99, 2) := by decide +kernel
theorem dX9_ends_12 : decode cX9_ends 12 = .ok (.ireturn, 1) := by decide +kernel
theorem dX9_ends_13 : decode cX9_ends 13 = .ok (.aload_n 0, 1) := by decide +kernel
theorem dX9_ends_14 : decode cX9_ends 14 = .ok (.getfield 206, 3) := by decide +kernel
theorem dX9_ends_17 : decode cX9_ends 17 = .ok (.ifCond .ne 7, 3) := by decide +kernel
theorem dX9_ends_20 : decode cX9_ends 20 = .ok (.ldc_w 277, 3) := by decide +kernel
theorem dX9_ends_23 : decode cX9_ends 23 = .ok (.ireturn, 1) := by decide +kernel
theorem dX9_ends_24 : decode cX9_ends 24 = .ok (.iconst 0, 1) := by decide +kernel
theorem dX9_ends_25 : decode cX9_ends 25 = .ok (.istore_n 2, 1) := by decide +kernel
theorem dX9_ends_26 : decode cX9_ends 26 = .ok (.iload_n 2, 1) := by decide +kernel
theorem dX9_ends_27 : decode cX9_ends 27 = .ok (.aload_n 0, 1) := by decide +kernel
theorem dX9_ends_28 : decode cX9_ends 28 = .ok (.getfield 206, 3) := by decide +kernel
theorem dX9_ends_31 : decode cX9_ends 31 = .ok (.if_icmp .ge 21, 3) := by decide +kernel
theorem dX9_ends_34 : decode cX9_ends 34 = .ok (.aload_n 0, 1) := by decide +kernel
theorem dX9_ends_35 : decode cX9_ends 35 = .ok (.getfield 75, 3) := by decide +kernel
theorem dX9_ends_38 : decode cX9_ends 38 = .ok (.iload_n 2, 1) := by decide +kernel
theorem dX9_ends_39 : decode cX9_ends 39 = .ok (.aload_n 0, 1) := by decide +kernel
theorem dX9_ends_40 : decode cX9_ends 40 = .ok (.getfield 72, 3) := by decide +kernel
theorem dX9_ends_43 : decode cX9_ends 43 = .ok (.iload_n 2, 1) := by decide +kernel
theorem dX9_ends_44 : decode cX9_ends 44 = .ok (.iaload, 1) := by decide +kernel
theorem dX9_ends_45 : decode cX9_ends 45 = .ok (.iastore, 1) := by decide +kernel
theorem dX9_ends_46 : decode cX9_ends 46 = .ok (.iinc 2 1, 3) := by decide +kernel
theorem dX9_ends_49 : decode cX9_ends 49 = .ok (.goto (-23), 3) := by decide +kernel
theorem dX9_ends_52 : decode cX9_ends 52 = .ok (.iconst 0, 1) := by decide +kernel
theorem dX9_ends_53 : decode cX9_ends 53 = .ok (.istore_n 2, 1) := by decide +kernel
theorem dX9_ends_54 : decode cX9_ends 54 = .ok (.iconst 0, 1) := by decide +kernel
theorem dX9_ends_55 : decode cX9_ends 55 = .ok (.istore_n 3, 1) := by decide +kernel
theorem dX9_ends_56 : decode cX9_ends 56 = .ok (.iconst 1, 1) := by decide +kernel
theorem dX9_ends_57 : decode cX9_ends 57 = .ok (.istore 4, 2) := by decide +kernel
theorem dX9_ends_59 : decode cX9_ends 59 = .ok (.iload 4, 2) := by decide +kernel
theorem dX9_ends_61 : decode cX9_ends 61 = .ok (.ifCond .eq 123, 3) := by decide +kernel
theorem dX9_ends_64 : decode cX9_ends 64 = .ok (.iconst 0, 1) := by decide +kernel
theorem dX9_ends_65 : decode cX9_ends 65 = .ok (.istore 5, 2) := by decide +kernel
theorem dX9_ends_67 : decode cX9_ends 67 = .ok (.iconst 0, 1) := by decide +kernel
theorem dX9_ends_68 : decode cX9_ends 68 = .ok (.istore 6, 2) := by decide +kernel
theorem dX9_ends_70 : decode cX9_ends 70 = .ok (.iload 6, 2) := by decide +kernel
theorem dX9_ends_72 : decode cX9_ends 72 = .ok (.aload_n 0, 1) := by decide +kernel
theorem dX9_ends_73 : decode cX9_ends 73 = .ok (.getfield 206, 3) := by decide +kernel
theorem dX9_ends_76 : decode cX9_ends 76 = .ok (.if_icmp .ge 21, 3) := by decide +kernel
theorem dX9_ends_79 : decode cX9_ends 79 = .ok (.iload 5, 2) := by decide +kernel
theorem dX9_ends_81 : decode cX9_ends 81 = .ok (.aload_n 0, 1) := by decide +kernel
theorem dX9_ends_82 : decode cX9_ends 82 = .ok (.getfield 75, 3) := by decide +kernel
theorem dX9_ends_85 : decode cX9_ends 85 = .ok (.iload 6, 2) := by decide +kernel
theorem dX9_ends_87 : decode cX9_ends 87 = .ok (.iaload, 1) := by decide +kernel
theorem dX9_ends_88 : decode cX9_ends 88 = .ok (.iadd, 1) := by decide +kernel
theorem dX9_ends_89 : decode cX9_ends 89 = .ok (.istore 5, 2) := by decide +kernel
theorem dX9_ends_91 : decode cX9_ends 91 = .ok (.iinc 6 1, 3) := by decide +kernel
theorem dX9_ends_94 : decode cX9_ends 94 = .ok (.goto (-24), 3) := by decide +kernel
theorem dX9_ends_97 : decode cX9_ends 97 = .ok (.iload 5, 2) := by decide +kernel
theorem dX9_ends_99 : decode cX9_ends 99 = .ok (.aload_n 0, 1) := by decide +kernel
theorem dX9_ends_100 : decode cX9_ends 100 = .ok (.getfield 206, 3) := by decide +kernel
theorem dX9_ends_103 : decode cX9_ends 103 = .ok (.idiv, 1) := by decide +kernel
theorem dX9_ends_104 : decode cX9_ends 104 = .ok (.istore_n 3, 1) := by decide +kernel
theorem dX9_ends_105 : decode cX9_ends 105 = .ok (.iconst 0, 1) := by decide +kernel
theorem dX9_ends_106 : decode cX9_ends 106 = .ok (.istore 4, 2) := by decide +kernel
theorem dX9_ends_108 : decode cX9_ends 108 = .ok (.iconst 0, 1) := by decide +kernel
theorem dX9_ends_109 : decode cX9_ends 109 = .ok (.istore 6, 2) := by decide +kernel
theorem dX9_ends_111 : decode cX9_ends 111 = .ok (.iload 6, 2) := by decide +kernel
theorem dX9_ends_113 : decode cX9_ends 113 = .ok (.aload_n 0, 1) := by decide +kernel
theorem dX9_ends_114 : decode cX9_ends 114 = .ok (.getfield 206, 3) := by decide +kernel
theorem dX9_ends_117 : decode cX9_ends 117 = .ok (.if_icmp .ge 51, 3) := by decide +kernel
theorem dX9_ends_120 : decode cX9_ends 120 = .ok (.iload_n 3, 1) := by decide +kernel
theorem dX9_ends_121 : decode cX9_ends 121 = .ok (.aload_n 0, 1) := by decide +kernel
theorem dX9_ends_122 : decode cX9_ends 122 = .ok (.getfield 75, 3) := by decide +kernel
theorem dX9_ends_125 : decode cX9_ends 125 = .ok (.iload 6, 2) := by decide +kernel
theorem dX9_ends_127 : decode cX9_ends 127 = .ok (.iaload, 1) := by decide +kernel
theorem dX9_ends_128 : decode cX9_ends 128 = .ok (.isub, 1) := by decide +kernel
theorem dX9_ends_129 : decode cX9_ends 129 = .ok (.iconst 2, 1) := by decide +kernel
theorem dX9_ends_130 : decode cX9_ends 130 = .ok (.idiv, 1) := by decide +kernel
theorem dX9_ends_131 : decode cX9_ends 131 = .ok (.istore 7, 2) := by decide +kernel
theorem dX9_ends_133 : decode cX9_ends 133 = .ok (.iload 4, 2) := by decide +kernel
theorem dX9_ends_135 : decode cX9_ends 135 = .ok (.ifCond .ne 8, 3) := by decide +kernel
theorem dX9_ends_138 : decode cX9_ends 138 = .ok (.iload 7, 2) := by decide +kernel
theorem dX9_ends_140 : decode cX9_ends 140 = .ok (.ifCond .eq 7, 3) := by decide +kernel
theorem dX9_ends_143 : decode cX9_ends 143 = .ok (.iconst 1, 1) := by decide +kernel
theorem dX9_ends_144 : decode cX9_ends 144 = .ok (.goto 4, 3) := by decide +kernel
theorem dX9_ends_147 : decode cX9_ends 147 = .ok (.iconst 0, 1) := by decide +kernel
theorem dX9_ends_148 : decode cX9_ends 148 = .ok (.istore 4, 2) := by decide +kernel
theorem dX9_ends_150 : decode cX9_ends 150 = .ok (.aload_n 0, 1) := by decide +kernel
theorem dX9_ends_151 : decode cX9_ends 151 = .ok (.getfield 75, 3) := by decide +kernel
theorem dX9_ends_154 : decode cX9_ends 154 = .ok (.iload 6, 2) := by decide +kernel
theorem dX9_ends_156 : decode cX9_ends 156 = .ok (.dup2, 1) := by decide +kernel
theorem dX9_ends_157 : decode cX9_ends 157 = .ok (.iaload, 1) := by decide +kernel
theorem dX9_ends_158 : decode cX9_ends 158 = .ok (.iload 7, 2) := by decide +kernel
theorem dX9_ends_160 : decode cX9_ends 160 = .ok (.iadd, 1) := by decide +kernel
theorem dX9_ends_161 : decode cX9_ends 161 = .ok (.iastore, 1) := by decide +kernel
theorem dX9_ends_162 : decode cX9_ends 162 = .ok (.iinc 6 1, 3) := by decide +kernel
theorem dX9_ends_165 : decode cX9_ends 165 = .ok (.goto (-54), 3) := by decide +kernel
theorem dX9_ends_168 : decode cX9_ends 168 = .ok (.iload_n 2, 1) := by decide +kernel
theorem dX9_ends_169 : decode cX9_ends 169 = .ok (.iload 4, 2) := by decide +kernel
theorem dX9_ends_171 : decode cX9_ends 171 = .ok (.ifCond .eq 7, 3) := by decide +kernel
theorem dX9_ends_174 : decode cX9_ends 174 = .ok (.iconst 1, 1) := by decide +kernel
theorem dX9_ends_175 : decode cX9_ends 175 = .ok (.goto 4, 3) := by decide +kernel
theorem dX9_ends_178 : decode cX9_ends 178 = .ok (.iconst 0, 1) := by decide +kernel
theorem dX9_ends_179 : decode cX9_ends 179 = .ok (.iadd, 1) := by decide +kernel
theorem dX9_ends_180 : decode cX9_ends 180 = .ok (.istore_n 2, 1) := by decide +kernel
theorem dX9_ends_181 : decode cX9_ends 181 = .ok (.goto (-122), 3) := by decide +kernel
theorem dX9_ends_184 : decode cX9_ends 184 = .ok (.iload_n 1, 1) := by decide +kernel
theorem dX9_ends_185 : decode cX9_ends 185 = .ok (.ifCond .ne 7, 3) := by decide +kernel
theorem dX9_ends_188 : decode cX9_ends 188 = .ok (.iload_n 3, 1) := by decide +kernel
theorem dX9_ends_189 : decode cX9_ends 189 = .ok (.goto 4, 3) := by decide +kernel
theorem dX9_ends_192 : decode cX9_ends 192 = .ok (.iload_n 2, 1) := by decide +kernel
theorem dX9_ends_193 : decode cX9_ends 193 = .ok (.ireturn, 1) := by decide +kernel
theorem dX9_round_0 : decode cX9_round 0 = .ok (.iload_n 1, 1) := by decide +kernel
theorem dX9_round_1 : decode cX9_round 1 = .ok (.invokestatic 358, 3) := by decide +kernel
theorem dX9_round_4 : decode cX9_round 4 = .ok (.ifCond .eq 33, 3) := by decide +kernel
theorem dX9_round_7 : decode cX9_round 7 = .ok (.iload_n 2, 1) := by decide +kernel
theorem dX9_round_8 : decode cX9_round 8 = .ok (.invokestatic 358, 3) := by decide +kernel
theorem dX9_round_11 : decode cX9_round 11 = .ok (.ifCond .eq 26, 3) := by decide +kernel
theorem dX9_round_14 : decode cX9_round 14 = .ok (.iload_n 3, 1) := by decide +kernel
theorem dX9_round_15 : decode cX9_round 15 = .ok (.i2l, 1) := by decide +kernel
theorem dX9_round_16 : decode cX9_round 16 = .ok (.lconst 0, 1) := by decide +kernel
theorem dX9_round_17 : decode cX9_round 17 = .ok (.ldc2_w 284, 3) := by decide +kernel
theorem dX9_round_20 : decode cX9_round 20 = .ok (.invokestatic 90, 3) := by decide +kernel
theorem dX9_round_23 : decode cX9_round 23 = .ok (.ifCond .eq 14, 3) := by decide +kernel
theorem dX9_round_26 : decode cX9_round 26 = .ok (.iload 4, 2) := by decide +kernel
theorem dX9_round_28 : decode cX9_round 28 = .ok (.i2l, 1) := by decide +kernel
theorem dX9_round_29 : decode cX9_round 29 = .ok (.lconst 0, 1) := by decide +kernel
theorem dX9_round_30 : decode cX9_round 30 = .ok (.lconst 1, 1) := by decide +kernel
theorem dX9_round_31 : decode cX9_round 31 = .ok (.invokestatic 90, 3) := by decide +kernel
theorem dX9_round_34 : decode cX9_round 34 = .ok (.ifCond .ne 6, 3) := by decide +kernel
theorem dX9_round_37 : decode cX9_round 37 = .ok (.ldc 99, 2) := by decide +kernel
theorem dX9_round_39 : decode cX9_round 39 = .ok (.ireturn, 1) := by decide +kernel
theorem dX9_round_40 : decode cX9_round 40 = .ok (.iload_n 1, 1) := by decide +kernel
theorem dX9_round_41 : decode cX9_round 41 = .ok (.istore 5, 2) := by decide +kernel
theorem dX9_round_43 : decode cX9_round 43 = .ok (.iload_n 2, 1) := by decide +kernel
theorem dX9_round_44 : decode cX9_round 44 = .ok (.istore 6, 2) := by decide +kernel
theorem dX9_round_46 : decode cX9_round 46 = .ok (.iconst 0, 1) := by decide +kernel
theorem dX9_round_47 : decode cX9_round 47 = .ok (.istore 7, 2) := by decide +kernel
theorem dX9_round_49 : decode cX9_round 49 = .ok (.iload 7, 2) := by decide +kernel
theorem dX9_round_51 : decode cX9_round 51 = .ok (.iload_n 3, 1) := by decide +kernel
theorem dX9_round_52 : decode cX9_round 52 = .ok (.if_icmp .ge 32, 3) := by decide +kernel
theorem dX9_round_55 : decode cX9_round 55 = .ok (.iload 6, 2) := by decide +kernel
theorem dX9_round_57 : decode cX9_round 57 = .ok (.iload 5, 2) := by decide +kernel
theorem dX9_round_59 : decode cX9_round 59 = .ok (.isub, 1) := by decide +kernel
theorem dX9_round_60 : decode cX9_round 60 = .ok (.iconst 3, 1) := by decide +kernel
theorem dX9_round_61 : decode cX9_round 61 = .ok (.idiv, 1) := by decide +kernel
theorem dX9_round_62 : decode cX9_round 62 = .ok (.istore 8, 2) := by decide +kernel
theorem dX9_round_64 : decode cX9_round 64 = .ok (.iload 5, 2) := by decide +kernel
theorem dX9_round_66 : decode cX9_round 66 = .ok (.iload 8, 2) := by decide +kernel
theorem dX9_round_68 : decode cX9_round 68 = .ok (.iadd, 1) := by decide +kernel
theorem dX9_round_69 : decode cX9_round 69 = .ok (.istore 5, 2) := by decide +kernel
theorem dX9_round_71 : decode cX9_round 71 = .ok (.iload 6, 2) := by decide +kernel
theorem dX9_round_73 : decode cX9_round 73 = .ok (.iload 8, 2) := by decide +kernel
theorem dX9_round_75 : decode cX9_round 75 = .ok (.isub, 1) := by decide +kernel
theorem dX9_round_76 : decode cX9_round 76 = .ok (.istore 6, 2) := by decide +kernel
theorem dX9_round_78 : decode cX9_round 78 = .ok (.iinc 7 1, 3) := by decide +kernel
theorem dX9_round_81 : decode cX9_round 81 = .ok (.goto (-32), 3) := by decide +kernel
theorem dX9_round_84 : decode cX9_round 84 = .ok (.iload 4, 2) := by decide +kernel
theorem dX9_round_86 : decode cX9_round 86 = .ok (.ifCond .ne 8, 3) := by decide +kernel
theorem dX9_round_89 : decode cX9_round 89 = .ok (.iload 5, 2) := by decide +kernel
theorem dX9_round_91 : decode cX9_round 91 = .ok (.goto 5, 3) := by decide +kernel
theorem dX9_round_94 : decode cX9_round 94 = .ok (.iload 6, 2) := by decide +kernel
theorem dX9_round_96 : decode cX9_round 96 = .ok (.ireturn, 1) := by decide +kernel
theorem dX9_write_0 : decode cX9_write 0 = .ok (.iload_n 1, 1) := by decide +kernel
theorem dX9_write_1 : decode cX9_write 1 = .ok (.i2l, 1) := by decide +kernel
theorem dX9_write_2 : decode cX9_write 2 = .ok (.lconst 0, 1) := by decide +kernel
theorem dX9_write_3 : decode cX9_write 3 = .ok (.ldc2_w 361, 3) := by decide +kernel
theorem dX9_write_6 : decode cX9_write 6 = .ok (.invokestatic 90, 3) := by decide +kernel
theorem dX9_write_9 : decode cX9_write 9 = .ok (.ifCond .ne 6, 3) := by decide +kernel
theorem dX9_write_12 : decode cX9_write 12 = .ok (.ldc 99, 2) := by decide +kernel
theorem dX9_write_14 : decode cX9_write 14 = .ok (.ireturn, 1) := by decide +kernel
theorem dX9_write_15 : decode cX9_write 15 = .ok (.aload_n 0, 1) := by decide +kernel
theorem dX9_write_16 : decode cX9_write 16 = .ok (.getfield 184, 3) := by decide +kernel
theorem dX9_write_19 : decode cX9_write 19 = .ok (.bipush 40, 2) := by decide +kernel
theorem dX9_write_21 : decode cX9_write 21 = .ok (.if_icmp .ne 6, 3) := by decide +kernel
theorem dX9_write_24 : decode cX9_write 24 = .ok (.ldc 103, 2) := by decide +kernel
theorem dX9_write_26 : decode cX9_write 26 = .ok (.ireturn, 1) := by decide +kernel
theorem dX9_write_27 : decode cX9_write 27 = .ok (.aload_n 0, 1) := by decide +kernel
theorem dX9_write_28 : decode cX9_write 28 = .ok (.getfield 78, 3) := by decide +kernel
theorem dX9_write_31 : decode cX9_write 31 = .ok (.aload_n 0, 1) := by decide +kernel
theorem dX9_write_32 : decode cX9_write 32 = .ok (.getfield 184, 3) := by decide +kernel
theorem dX9_write_35 : decode cX9_write 35 = .ok (.iload_n 1, 1) := by decide +kernel
theorem dX9_write_36 : decode cX9_write 36 = .ok (.iastore, 1) := by decide +kernel
theorem dX9_write_37 : decode cX9_write 37 = .ok (.aload_n 0, 1) := by decide +kernel
theorem dX9_write_38 : decode cX9_write 38 = .ok (.dup, 1) := by decide +kernel
theorem dX9_write_39 : decode cX9_write 39 = .ok (.getfield 184, 3) := by decide +kernel
theorem dX9_write_42 : decode cX9_write 42 = .ok (.iconst 1, 1) := by decide +kernel
theorem dX9_write_43 : decode cX9_write 43 = .ok (.iadd, 1) := by decide +kernel
theorem dX9_write_44 : decode cX9_write 44 = .ok (.putfield 184, 3) := by decide +kernel
theorem dX9_write_47 : decode cX9_write 47 = .ok (.aload_n 0, 1) := by decide +kernel
theorem dX9_write_48 : decode cX9_write 48 = .ok (.getfield 184, 3) := by decide +kernel
theorem dX9_write_51 : decode cX9_write 51 = .ok (.ireturn, 1) := by decide +kernel
theorem dX9_tear_0 : decode cX9_tear 0 = .ok (.aload_n 0, 1) := by decide +kernel
theorem dX9_tear_1 : decode cX9_tear 1 = .ok (.getfield 184, 3) := by decide +kernel
theorem dX9_tear_4 : decode cX9_tear 4 = .ok (.istore_n 1, 1) := by decide +kernel
theorem dX9_tear_5 : decode cX9_tear 5 = .ok (.aload_n 0, 1) := by decide +kernel
theorem dX9_tear_6 : decode cX9_tear 6 = .ok (.iconst 0, 1) := by decide +kernel
theorem dX9_tear_7 : decode cX9_tear 7 = .ok (.putfield 184, 3) := by decide +kernel
theorem dX9_tear_10 : decode cX9_tear 10 = .ok (.iload_n 1, 1) := by decide +kernel
theorem dX9_tear_11 : decode cX9_tear 11 = .ok (.ireturn, 1) := by decide +kernel
theorem dX9_judge_0 : decode cX9_judge 0 = .ok (.aload_n 0, 1) := by decide +kernel
theorem dX9_judge_1 : decode cX9_judge 1 = .ok (.getfield 29, 3) := by decide +kernel
theorem dX9_judge_4 : decode cX9_judge 4 = .ok (.ifCond .ge 7, 3) := by decide +kernel
theorem dX9_judge_7 : decode cX9_judge 7 = .ok (.ldc_w 277, 3) := by decide +kernel
theorem dX9_judge_10 : decode cX9_judge 10 = .ok (.ireturn, 1) := by decide +kernel
theorem dX9_judge_11 : decode cX9_judge 11 = .ok (.iconst 0, 1) := by decide +kernel
theorem dX9_judge_12 : decode cX9_judge 12 = .ok (.istore_n 1, 1) := by decide +kernel
theorem dX9_judge_13 : decode cX9_judge 13 = .ok (.iload_n 1, 1) := by decide +kernel
theorem dX9_judge_14 : decode cX9_judge 14 = .ok (.aload_n 0, 1) := by decide +kernel
theorem dX9_judge_15 : decode cX9_judge 15 = .ok (.getfield 184, 3) := by decide +kernel
theorem dX9_judge_18 : decode cX9_judge 18 = .ok (.if_icmp .ge 47, 3) := by decide +kernel
theorem dX9_judge_21 : decode cX9_judge 21 = .ok (.iload_n 1, 1) := by decide +kernel
theorem dX9_judge_22 : decode cX9_judge 22 = .ok (.aload_n 0, 1) := by decide +kernel
theorem dX9_judge_23 : decode cX9_judge 23 = .ok (.getfield 178, 3) := by decide +kernel
theorem dX9_judge_26 : decode cX9_judge 26 = .ok (.if_icmp .ge 31, 3) := by decide +kernel
theorem dX9_judge_29 : decode cX9_judge 29 = .ok (.aload_n 0, 1) := by decide +kernel
theorem dX9_judge_30 : decode cX9_judge 30 = .ok (.getfield 33, 3) := by decide +kernel
theorem dX9_judge_33 : decode cX9_judge 33 = .ok (.iload_n 1, 1) := by decide +kernel
theorem dX9_judge_34 : decode cX9_judge 34 = .ok (.iaload, 1) := by decide +kernel
theorem dX9_judge_35 : decode cX9_judge 35 = .ok (.ifCond .lt 22, 3) := by decide +kernel
theorem dX9_judge_38 : decode cX9_judge 38 = .ok (.aload_n 0, 1) := by decide +kernel
theorem dX9_judge_39 : decode cX9_judge 39 = .ok (.getfield 78, 3) := by decide +kernel
theorem dX9_judge_42 : decode cX9_judge 42 = .ok (.iload_n 1, 1) := by decide +kernel
theorem dX9_judge_43 : decode cX9_judge 43 = .ok (.iaload, 1) := by decide +kernel
theorem dX9_judge_44 : decode cX9_judge 44 = .ok (.aload_n 0, 1) := by decide +kernel
theorem dX9_judge_45 : decode cX9_judge 45 = .ok (.getfield 33, 3) := by decide +kernel
theorem dX9_judge_48 : decode cX9_judge 48 = .ok (.iload_n 1, 1) := by decide +kernel
theorem dX9_judge_49 : decode cX9_judge 49 = .ok (.iaload, 1) := by decide +kernel
theorem dX9_judge_50 : decode cX9_judge 50 = .ok (.isub, 1) := by decide +kernel
theorem dX9_judge_51 : decode cX9_judge 51 = .ok (.invokestatic 264, 3) := by decide +kernel
theorem dX9_judge_54 : decode cX9_judge 54 = .ok (.ifCond .ne 5, 3) := by decide +kernel
theorem dX9_judge_57 : decode cX9_judge 57 = .ok (.iload_n 1, 1) := by decide +kernel
theorem dX9_judge_58 : decode cX9_judge 58 = .ok (.ireturn, 1) := by decide +kernel
theorem dX9_judge_59 : decode cX9_judge 59 = .ok (.iinc 1 1, 3) := by decide +kernel
theorem dX9_judge_62 : decode cX9_judge 62 = .ok (.goto (-49), 3) := by decide +kernel
theorem dX9_judge_65 : decode cX9_judge 65 = .ok (.iconst (-1), 1) := by decide +kernel
theorem dX9_judge_66 : decode cX9_judge 66 = .ok (.ireturn, 1) := by decide +kernel
theorem dX9_seed_0 : decode cX9_seed 0 = .ok (.iload_n 1, 1) := by decide +kernel
theorem dX9_seed_1 : decode cX9_seed 1 = .ok (.ifCond .ge 6, 3) := by decide +kernel
theorem dX9_seed_4 : decode cX9_seed 4 = .ok (.ldc 99, 2) := by decide +kernel
theorem dX9_seed_6 : decode cX9_seed 6 = .ok (.ireturn, 1) := by decide +kernel
theorem dX9_seed_7 : decode cX9_seed 7 = .ok (.aload_n 0, 1) := by decide +kernel
theorem dX9_seed_8 : decode cX9_seed 8 = .ok (.getfield 227, 3) := by decide +kernel
theorem dX9_seed_11 : decode cX9_seed 11 = .ok (.istore_n 2, 1) := by decide +kernel
theorem dX9_seed_12 : decode cX9_seed 12 = .ok (.aload_n 0, 1) := by decide +kernel
theorem dX9_seed_13 : decode cX9_seed 13 = .ok (.iload_n 1, 1) := by decide +kernel
theorem dX9_seed_14 : decode cX9_seed 14 = .ok (.putfield 227, 3) := by decide +kernel
theorem dX9_seed_17 : decode cX9_seed 17 = .ok (.iload_n 2, 1) := by decide +kernel
theorem dX9_seed_18 : decode cX9_seed 18 = .ok (.ireturn, 1) := by decide +kernel
theorem dX9_keep_0 : decode cX9_keep 0 = .ok (.iload_n 1, 1) := by decide +kernel
theorem dX9_keep_1 : decode cX9_keep 1 = .ok (.i2l, 1) := by decide +kernel
theorem dX9_keep_2 : decode cX9_keep 2 = .ok (.lconst 0, 1) := by decide +kernel
theorem dX9_keep_3 : decode cX9_keep 3 = .ok (.lconst 1, 1) := by decide +kernel
theorem dX9_keep_4 : decode cX9_keep 4 = .ok (.invokestatic 90, 3) := by decide +kernel
theorem dX9_keep_7 : decode cX9_keep 7 = .ok (.ifCond .ne 6, 3) := by decide +kernel
theorem dX9_keep_10 : decode cX9_keep 10 = .ok (.ldc 216, 2) := by decide +kernel
theorem dX9_keep_12 : decode cX9_keep 12 = .ok (.ireturn, 1) := by decide +kernel
theorem dX9_keep_13 : decode cX9_keep 13 = .ok (.sipush 200, 3) := by decide +kernel
theorem dX9_keep_16 : decode cX9_keep 16 = .ok (.iload_n 1, 1) := by decide +kernel
theorem dX9_keep_17 : decode cX9_keep 17 = .ok (.imul, 1) := by decide +kernel
theorem dX9_keep_18 : decode cX9_keep 18 = .ok (.istore_n 2, 1) := by decide +kernel
theorem dX9_keep_19 : decode cX9_keep 19 = .ok (.iconst 0, 1) := by decide +kernel
theorem dX9_keep_20 : decode cX9_keep 20 = .ok (.istore_n 3, 1) := by decide +kernel
theorem dX9_keep_21 : decode cX9_keep 21 = .ok (.iload_n 3, 1) := by decide +kernel
theorem dX9_keep_22 : decode cX9_keep 22 = .ok (.bipush 40, 2) := by decide +kernel
theorem dX9_keep_24 : decode cX9_keep 24 = .ok (.if_icmp .ge 23, 3) := by decide +kernel
theorem dX9_keep_27 : decode cX9_keep 27 = .ok (.aload_n 0, 1) := by decide +kernel
theorem dX9_keep_28 : decode cX9_keep 28 = .ok (.getfield 81, 3) := by decide +kernel
theorem dX9_keep_31 : decode cX9_keep 31 = .ok (.iload_n 2, 1) := by decide +kernel
theorem dX9_keep_32 : decode cX9_keep 32 = .ok (.iload_n 3, 1) := by decide +kernel
theorem dX9_keep_33 : decode cX9_keep 33 = .ok (.iadd, 1) := by decide +kernel
theorem dX9_keep_34 : decode cX9_keep 34 = .ok (.aload_n 0, 1) := by decide +kernel
theorem dX9_keep_35 : decode cX9_keep 35 = .ok (.getfield 33, 3) := by decide +kernel
theorem dX9_keep_38 : decode cX9_keep 38 = .ok (.iload_n 3, 1) := by decide +kernel
theorem dX9_keep_39 : decode cX9_keep 39 = .ok (.iaload, 1) := by decide +kernel
theorem dX9_keep_40 : decode cX9_keep 40 = .ok (.iastore, 1) := by decide +kernel
theorem dX9_keep_41 : decode cX9_keep 41 = .ok (.iinc 3 1, 3) := by decide +kernel
theorem dX9_keep_44 : decode cX9_keep 44 = .ok (.goto (-23), 3) := by decide +kernel
theorem dX9_keep_47 : decode cX9_keep 47 = .ok (.iconst 0, 1) := by decide +kernel
theorem dX9_keep_48 : decode cX9_keep 48 = .ok (.istore_n 3, 1) := by decide +kernel
theorem dX9_keep_49 : decode cX9_keep 49 = .ok (.iload_n 3, 1) := by decide +kernel
theorem dX9_keep_50 : decode cX9_keep 50 = .ok (.bipush 6, 2) := by decide +kernel
theorem dX9_keep_52 : decode cX9_keep 52 = .ok (.if_icmp .ge 26, 3) := by decide +kernel
theorem dX9_keep_55 : decode cX9_keep 55 = .ok (.aload_n 0, 1) := by decide +kernel
theorem dX9_keep_56 : decode cX9_keep 56 = .ok (.getfield 81, 3) := by decide +kernel
theorem dX9_keep_59 : decode cX9_keep 59 = .ok (.iload_n 2, 1) := by decide +kernel
theorem dX9_keep_60 : decode cX9_keep 60 = .ok (.bipush 40, 2) := by decide +kernel
theorem dX9_keep_62 : decode cX9_keep 62 = .ok (.iadd, 1) := by decide +kernel
theorem dX9_keep_63 : decode cX9_keep 63 = .ok (.iload_n 3, 1) := by decide +kernel
theorem dX9_keep_64 : decode cX9_keep 64 = .ok (.iadd, 1) := by decide +kernel
theorem dX9_keep_65 : decode cX9_keep 65 = .ok (.aload_n 0, 1) := by decide +kernel
theorem dX9_keep_66 : decode cX9_keep 66 = .ok (.getfield 26, 3) := by decide +kernel
theorem dX9_keep_69 : decode cX9_keep 69 = .ok (.iload_n 3, 1) := by decide +kernel
theorem dX9_keep_70 : decode cX9_keep 70 = .ok (.iaload, 1) := by decide +kernel
theorem dX9_keep_71 : decode cX9_keep 71 = .ok (.iastore, 1) := by decide +kernel
theorem dX9_keep_72 : decode cX9_keep 72 = .ok (.iinc 3 1, 3) := by decide +kernel
theorem dX9_keep_75 : decode cX9_keep 75 = .ok (.goto (-26), 3) := by decide +kernel
theorem dX9_keep_78 : decode cX9_keep 78 = .ok (.iconst 0, 1) := by decide +kernel
theorem dX9_keep_79 : decode cX9_keep 79 = .ok (.istore_n 3, 1) := by decide +kernel
theorem dX9_keep_80 : decode cX9_keep 80 = .ok (.iload_n 3, 1) := by decide +kernel
theorem dX9_keep_81 : decode cX9_keep 81 = .ok (.bipush 16, 2) := by decide +kernel
theorem dX9_keep_83 : decode cX9_keep 83 = .ok (.if_icmp .ge 26, 3) := by decide +kernel
theorem dX9_keep_86 : decode cX9_keep 86 = .ok (.aload_n 0, 1) := by decide +kernel
theorem dX9_keep_87 : decode cX9_keep 87 = .ok (.getfield 81, 3) := by decide +kernel
theorem dX9_keep_90 : decode cX9_keep 90 = .ok (.iload_n 2, 1) := by decide +kernel
theorem dX9_keep_91 : decode cX9_keep 91 = .ok (.bipush 46, 2) := by decide +kernel
theorem dX9_keep_93 : decode cX9_keep 93 = .ok (.iadd, 1) := by decide +kernel
theorem dX9_keep_94 : decode cX9_keep 94 = .ok (.iload_n 3, 1) := by decide +kernel
theorem dX9_keep_95 : decode cX9_keep 95 = .ok (.iadd, 1) := by decide +kernel
theorem dX9_keep_96 : decode cX9_keep 96 = .ok (.aload_n 0, 1) := by decide +kernel
theorem dX9_keep_97 : decode cX9_keep 97 = .ok (.getfield 23, 3) := by decide +kernel
theorem dX9_keep_100 : decode cX9_keep 100 = .ok (.iload_n 3, 1) := by decide +kernel
theorem dX9_keep_101 : decode cX9_keep 101 = .ok (.iaload, 1) := by decide +kernel
theorem dX9_keep_102 : decode cX9_keep 102 = .ok (.iastore, 1) := by decide +kernel
theorem dX9_keep_103 : decode cX9_keep 103 = .ok (.iinc 3 1, 3) := by decide +kernel
theorem dX9_keep_106 : decode cX9_keep 106 = .ok (.goto (-26), 3) := by decide +kernel
theorem dX9_keep_109 : decode cX9_keep 109 = .ok (.iconst 0, 1) := by decide +kernel
theorem dX9_keep_110 : decode cX9_keep 110 = .ok (.istore_n 3, 1) := by decide +kernel
theorem dX9_keep_111 : decode cX9_keep 111 = .ok (.iload_n 3, 1) := by decide +kernel
theorem dX9_keep_112 : decode cX9_keep 112 = .ok (.bipush 96, 2) := by decide +kernel
theorem dX9_keep_114 : decode cX9_keep 114 = .ok (.if_icmp .ge 26, 3) := by decide +kernel
theorem dX9_keep_117 : decode cX9_keep 117 = .ok (.aload_n 0, 1) := by decide +kernel
theorem dX9_keep_118 : decode cX9_keep 118 = .ok (.getfield 81, 3) := by decide +kernel
theorem dX9_keep_121 : decode cX9_keep 121 = .ok (.iload_n 2, 1) := by decide +kernel
theorem dX9_keep_122 : decode cX9_keep 122 = .ok (.bipush 62, 2) := by decide +kernel
theorem dX9_keep_124 : decode cX9_keep 124 = .ok (.iadd, 1) := by decide +kernel
theorem dX9_keep_125 : decode cX9_keep 125 = .ok (.iload_n 3, 1) := by decide +kernel
theorem dX9_keep_126 : decode cX9_keep 126 = .ok (.iadd, 1) := by decide +kernel
theorem dX9_keep_127 : decode cX9_keep 127 = .ok (.aload_n 0, 1) := by decide +kernel
theorem dX9_keep_128 : decode cX9_keep 128 = .ok (.getfield 17, 3) := by decide +kernel
theorem dX9_keep_131 : decode cX9_keep 131 = .ok (.iload_n 3, 1) := by decide +kernel
theorem dX9_keep_132 : decode cX9_keep 132 = .ok (.iaload, 1) := by decide +kernel
theorem dX9_keep_133 : decode cX9_keep 133 = .ok (.iastore, 1) := by decide +kernel
theorem dX9_keep_134 : decode cX9_keep 134 = .ok (.iinc 3 1, 3) := by decide +kernel
theorem dX9_keep_137 : decode cX9_keep 137 = .ok (.goto (-26), 3) := by decide +kernel
theorem dX9_keep_140 : decode cX9_keep 140 = .ok (.aload_n 0, 1) := by decide +kernel
theorem dX9_keep_141 : decode cX9_keep 141 = .ok (.getfield 81, 3) := by decide +kernel
theorem dX9_keep_144 : decode cX9_keep 144 = .ok (.iload_n 2, 1) := by decide +kernel
theorem dX9_keep_145 : decode cX9_keep 145 = .ok (.sipush 158, 3) := by decide +kernel
theorem dX9_keep_148 : decode cX9_keep 148 = .ok (.iadd, 1) := by decide +kernel
theorem dX9_keep_149 : decode cX9_keep 149 = .ok (.aload_n 0, 1) := by decide +kernel
theorem dX9_keep_150 : decode cX9_keep 150 = .ok (.getfield 29, 3) := by decide +kernel
theorem dX9_keep_153 : decode cX9_keep 153 = .ok (.iastore, 1) := by decide +kernel
theorem dX9_keep_154 : decode cX9_keep 154 = .ok (.aload_n 0, 1) := by decide +kernel
theorem dX9_keep_155 : decode cX9_keep 155 = .ok (.getfield 81, 3) := by decide +kernel
theorem dX9_keep_158 : decode cX9_keep 158 = .ok (.iload_n 2, 1) := by decide +kernel
theorem dX9_keep_159 : decode cX9_keep 159 = .ok (.sipush 159, 3) := by decide +kernel
theorem dX9_keep_162 : decode cX9_keep 162 = .ok (.iadd, 1) := by decide +kernel
theorem dX9_keep_163 : decode cX9_keep 163 = .ok (.aload_n 0, 1) := by decide +kernel
theorem dX9_keep_164 : decode cX9_keep 164 = .ok (.getfield 227, 3) := by decide +kernel
theorem dX9_keep_167 : decode cX9_keep 167 = .ok (.iastore, 1) := by decide +kernel
theorem dX9_keep_168 : decode cX9_keep 168 = .ok (.aload_n 0, 1) := by decide +kernel
theorem dX9_keep_169 : decode cX9_keep 169 = .ok (.getfield 84, 3) := by decide +kernel
theorem dX9_keep_172 : decode cX9_keep 172 = .ok (.iload_n 1, 1) := by decide +kernel
theorem dX9_keep_173 : decode cX9_keep 173 = .ok (.iconst 1, 1) := by decide +kernel
theorem dX9_keep_174 : decode cX9_keep 174 = .ok (.bastore, 1) := by decide +kernel
theorem dX9_keep_175 : decode cX9_keep 175 = .ok (.iconst 1, 1) := by decide +kernel
theorem dX9_keep_176 : decode cX9_keep 176 = .ok (.ireturn, 1) := by decide +kernel
theorem dX9_goBack_0 : decode cX9_goBack 0 = .ok (.iload_n 1, 1) := by decide +kernel
theorem dX9_goBack_1 : decode cX9_goBack 1 = .ok (.i2l, 1) := by decide +kernel
theorem dX9_goBack_2 : decode cX9_goBack 2 = .ok (.lconst 0, 1) := by decide +kernel
theorem dX9_goBack_3 : decode cX9_goBack 3 = .ok (.lconst 1, 1) := by decide +kernel
theorem dX9_goBack_4 : decode cX9_goBack 4 = .ok (.invokestatic 90, 3) := by decide +kernel
theorem dX9_goBack_7 : decode cX9_goBack 7 = .ok (.ifCond .ne 6, 3) := by decide +kernel
theorem dX9_goBack_10 : decode cX9_goBack 10 = .ok (.ldc 216, 2) := by decide +kernel
theorem dX9_goBack_12 : decode cX9_goBack 12 = .ok (.ireturn, 1) := by decide +kernel
theorem dX9_goBack_13 : decode cX9_goBack 13 = .ok (.aload_n 0, 1) := by decide +kernel
theorem dX9_goBack_14 : decode cX9_goBack 14 = .ok (.getfield 84, 3) := by decide +kernel
theorem dX9_goBack_17 : decode cX9_goBack 17 = .ok (.iload_n 1, 1) := by decide +kernel
theorem dX9_goBack_18 : decode cX9_goBack 18 = .ok (.baload, 1) := by decide +kernel
theorem dX9_goBack_19 : decode cX9_goBack 19 = .ok (.ifCond .ne 7, 3) := by decide +kernel
theorem dX9_goBack_22 : decode cX9_goBack 22 = .ok (.ldc_w 277, 3) := by decide +kernel
theorem dX9_goBack_25 : decode cX9_goBack 25 = .ok (.ireturn, 1) := by decide +kernel
theorem dX9_goBack_26 : decode cX9_goBack 26 = .ok (.sipush 200, 3) := by decide +kernel
theorem dX9_goBack_29 : decode cX9_goBack 29 = .ok (.iload_n 1, 1) := by decide +kernel
theorem dX9_goBack_30 : decode cX9_goBack 30 = .ok (.imul, 1) := by decide +kernel
theorem dX9_goBack_31 : decode cX9_goBack 31 = .ok (.istore_n 2, 1) := by decide +kernel
theorem dX9_goBack_32 : decode cX9_goBack 32 = .ok (.iconst 0, 1) := by decide +kernel
theorem dX9_goBack_33 : decode cX9_goBack 33 = .ok (.istore_n 3, 1) := by decide +kernel
theorem dX9_goBack_34 : decode cX9_goBack 34 = .ok (.iload_n 3, 1) := by decide +kernel
theorem dX9_goBack_35 : decode cX9_goBack 35 = .ok (.bipush 40, 2) := by decide +kernel
theorem dX9_goBack_37 : decode cX9_goBack 37 = .ok (.if_icmp .ge 23, 3) := by decide +kernel
theorem dX9_goBack_40 : decode cX9_goBack 40 = .ok (.aload_n 0, 1) := by decide +kernel
theorem dX9_goBack_41 : decode cX9_goBack 41 = .ok (.getfield 33, 3) := by decide +kernel
theorem dX9_goBack_44 : decode cX9_goBack 44 = .ok (.iload_n 3, 1) := by decide +kernel
theorem dX9_goBack_45 : decode cX9_goBack 45 = .ok (.aload_n 0, 1) := by decide +kernel
theorem dX9_goBack_46 : decode cX9_goBack 46 = .ok (.getfield 81, 3) := by decide +kernel
theorem dX9_goBack_49 : decode cX9_goBack 49 = .ok (.iload_n 2, 1) := by decide +kernel
theorem dX9_goBack_50 : decode cX9_goBack 50 = .ok (.iload_n 3, 1) := by decide +kernel
theorem dX9_goBack_51 : decode cX9_goBack 51 = .ok (.iadd, 1) := by decide +kernel
theorem dX9_goBack_52 : decode cX9_goBack 52 = .ok (.iaload, 1) := by decide +kernel
theorem dX9_goBack_53 : decode cX9_goBack 53 = .ok (.iastore, 1) := by decide +kernel
theorem dX9_goBack_54 : decode cX9_goBack 54 = .ok (.iinc 3 1, 3) := by decide +kernel
theorem dX9_goBack_57 : decode cX9_goBack 57 = .ok (.goto (-23), 3) := by decide +kernel
theorem dX9_goBack_60 : decode cX9_goBack 60 = .ok (.iconst 0, 1) := by decide +kernel
theorem dX9_goBack_61 : decode cX9_goBack 61 = .ok (.istore_n 3, 1) := by decide +kernel
theorem dX9_goBack_62 : decode cX9_goBack 62 = .ok (.iload_n 3, 1) := by decide +kernel
theorem dX9_goBack_63 : decode cX9_goBack 63 = .ok (.bipush 6, 2) := by decide +kernel
theorem dX9_goBack_65 : decode cX9_goBack 65 = .ok (.if_icmp .ge 26, 3) := by decide +kernel
theorem dX9_goBack_68 : decode cX9_goBack 68 = .ok (.aload_n 0, 1) := by decide +kernel
theorem dX9_goBack_69 : decode cX9_goBack 69 = .ok (.getfield 26, 3) := by decide +kernel
theorem dX9_goBack_72 : decode cX9_goBack 72 = .ok (.iload_n 3, 1) := by decide +kernel
theorem dX9_goBack_73 : decode cX9_goBack 73 = .ok (.aload_n 0, 1) := by decide +kernel
theorem dX9_goBack_74 : decode cX9_goBack 74 = .ok (.getfield 81, 3) := by decide +kernel
theorem dX9_goBack_77 : decode cX9_goBack 77 = .ok (.iload_n 2, 1) := by decide +kernel
theorem dX9_goBack_78 : decode cX9_goBack 78 = .ok (.bipush 40, 2) := by decide +kernel
theorem dX9_goBack_80 : decode cX9_goBack 80 = .ok (.iadd, 1) := by decide +kernel
theorem dX9_goBack_81 : decode cX9_goBack 81 = .ok (.iload_n 3, 1) := by decide +kernel
theorem dX9_goBack_82 : decode cX9_goBack 82 = .ok (.iadd, 1) := by decide +kernel
theorem dX9_goBack_83 : decode cX9_goBack 83 = .ok (.iaload, 1) := by decide +kernel
theorem dX9_goBack_84 : decode cX9_goBack 84 = .ok (.iastore, 1) := by decide +kernel
theorem dX9_goBack_85 : decode cX9_goBack 85 = .ok (.iinc 3 1, 3) := by decide +kernel
theorem dX9_goBack_88 : decode cX9_goBack 88 = .ok (.goto (-26), 3) := by decide +kernel
theorem dX9_goBack_91 : decode cX9_goBack 91 = .ok (.iconst 0, 1) := by decide +kernel
theorem dX9_goBack_92 : decode cX9_goBack 92 = .ok (.istore_n 3, 1) := by decide +kernel
theorem dX9_goBack_93 : decode cX9_goBack 93 = .ok (.iload_n 3, 1) := by decide +kernel
theorem dX9_goBack_94 : decode cX9_goBack 94 = .ok (.bipush 16, 2) := by decide +kernel
theorem dX9_goBack_96 : decode cX9_goBack 96 = .ok (.if_icmp .ge 26, 3) := by decide +kernel
theorem dX9_goBack_99 : decode cX9_goBack 99 = .ok (.aload_n 0, 1) := by decide +kernel
theorem dX9_goBack_100 : decode cX9_goBack 100 = .ok (.getfield 23, 3) := by decide +kernel
theorem dX9_goBack_103 : decode cX9_goBack 103 = .ok (.iload_n 3, 1) := by decide +kernel
theorem dX9_goBack_104 : decode cX9_goBack 104 = .ok (.aload_n 0, 1) := by decide +kernel
theorem dX9_goBack_105 : decode cX9_goBack 105 = .ok (.getfield 81, 3) := by decide +kernel
theorem dX9_goBack_108 : decode cX9_goBack 108 = .ok (.iload_n 2, 1) := by decide +kernel
theorem dX9_goBack_109 : decode cX9_goBack 109 = .ok (.bipush 46, 2) := by decide +kernel
theorem dX9_goBack_111 : decode cX9_goBack 111 = .ok (.iadd, 1) := by decide +kernel
theorem dX9_goBack_112 : decode cX9_goBack 112 = .ok (.iload_n 3, 1) := by decide +kernel
theorem dX9_goBack_113 : decode cX9_goBack 113 = .ok (.iadd, 1) := by decide +kernel
theorem dX9_goBack_114 : decode cX9_goBack 114 = .ok (.iaload, 1) := by decide +kernel
theorem dX9_goBack_115 : decode cX9_goBack 115 = .ok (.iastore, 1) := by decide +kernel
theorem dX9_goBack_116 : decode cX9_goBack 116 = .ok (.iinc 3 1, 3) := by decide +kernel
theorem dX9_goBack_119 : decode cX9_goBack 119 = .ok (.goto (-26), 3) := by decide +kernel
theorem dX9_goBack_122 : decode cX9_goBack 122 = .ok (.iconst 0, 1) := by decide +kernel
theorem dX9_goBack_123 : decode cX9_goBack 123 = .ok (.istore_n 3, 1) := by decide +kernel
theorem dX9_goBack_124 : decode cX9_goBack 124 = .ok (.iload_n 3, 1) := by decide +kernel
theorem dX9_goBack_125 : decode cX9_goBack 125 = .ok (.bipush 96, 2) := by decide +kernel
theorem dX9_goBack_127 : decode cX9_goBack 127 = .ok (.if_icmp .ge 26, 3) := by decide +kernel
theorem dX9_goBack_130 : decode cX9_goBack 130 = .ok (.aload_n 0, 1) := by decide +kernel
theorem dX9_goBack_131 : decode cX9_goBack 131 = .ok (.getfield 17, 3) := by decide +kernel
theorem dX9_goBack_134 : decode cX9_goBack 134 = .ok (.iload_n 3, 1) := by decide +kernel
theorem dX9_goBack_135 : decode cX9_goBack 135 = .ok (.aload_n 0, 1) := by decide +kernel
theorem dX9_goBack_136 : decode cX9_goBack 136 = .ok (.getfield 81, 3) := by decide +kernel
theorem dX9_goBack_139 : decode cX9_goBack 139 = .ok (.iload_n 2, 1) := by decide +kernel
theorem dX9_goBack_140 : decode cX9_goBack 140 = .ok (.bipush 62, 2) := by decide +kernel
theorem dX9_goBack_142 : decode cX9_goBack 142 = .ok (.iadd, 1) := by decide +kernel
theorem dX9_goBack_143 : decode cX9_goBack 143 = .ok (.iload_n 3, 1) := by decide +kernel
theorem dX9_goBack_144 : decode cX9_goBack 144 = .ok (.iadd, 1) := by decide +kernel
theorem dX9_goBack_145 : decode cX9_goBack 145 = .ok (.iaload, 1) := by decide +kernel
theorem dX9_goBack_146 : decode cX9_goBack 146 = .ok (.iastore, 1) := by decide +kernel
theorem dX9_goBack_147 : decode cX9_goBack 147 = .ok (.iinc 3 1, 3) := by decide +kernel
theorem dX9_goBack_150 : decode cX9_goBack 150 = .ok (.goto (-26), 3) := by decide +kernel
theorem dX9_goBack_153 : decode cX9_goBack 153 = .ok (.aload_n 0, 1) := by decide +kernel
theorem dX9_goBack_154 : decode cX9_goBack 154 = .ok (.aload_n 0, 1) := by decide +kernel
theorem dX9_goBack_155 : decode cX9_goBack 155 = .ok (.getfield 81, 3) := by decide +kernel
theorem dX9_goBack_158 : decode cX9_goBack 158 = .ok (.iload_n 2, 1) := by decide +kernel
theorem dX9_goBack_159 : decode cX9_goBack 159 = .ok (.sipush 158, 3) := by decide +kernel
theorem dX9_goBack_162 : decode cX9_goBack 162 = .ok (.iadd, 1) := by decide +kernel
theorem dX9_goBack_163 : decode cX9_goBack 163 = .ok (.iaload, 1) := by decide +kernel
theorem dX9_goBack_164 : decode cX9_goBack 164 = .ok (.putfield 29, 3) := by decide +kernel
theorem dX9_goBack_167 : decode cX9_goBack 167 = .ok (.aload_n 0, 1) := by decide +kernel
theorem dX9_goBack_168 : decode cX9_goBack 168 = .ok (.aload_n 0, 1) := by decide +kernel
theorem dX9_goBack_169 : decode cX9_goBack 169 = .ok (.getfield 81, 3) := by decide +kernel
theorem dX9_goBack_172 : decode cX9_goBack 172 = .ok (.iload_n 2, 1) := by decide +kernel
theorem dX9_goBack_173 : decode cX9_goBack 173 = .ok (.sipush 159, 3) := by decide +kernel
theorem dX9_goBack_176 : decode cX9_goBack 176 = .ok (.iadd, 1) := by decide +kernel
theorem dX9_goBack_177 : decode cX9_goBack 177 = .ok (.iaload, 1) := by decide +kernel
theorem dX9_goBack_178 : decode cX9_goBack 178 = .ok (.putfield 227, 3) := by decide +kernel
theorem dX9_goBack_181 : decode cX9_goBack 181 = .ok (.iconst 1, 1) := by decide +kernel
theorem dX9_goBack_182 : decode cX9_goBack 182 = .ok (.ireturn, 1) := by decide +kernel
theorem dJ6_bitCount_0f7a4_0 : decode cJ6_bitCount_0f7a4 0 = .ok (.iload_n 0, 1) := by decide +kernel
theorem dJ6_bitCount_0f7a4_1 : decode cJ6_bitCount_0f7a4 1 = .ok (.iload_n 0, 1) := by decide +kernel
theorem dJ6_bitCount_0f7a4_2 : decode cJ6_bitCount_0f7a4 2 = .ok (.iconst 1, 1) := by decide +kernel
theorem dJ6_bitCount_0f7a4_3 : decode cJ6_bitCount_0f7a4 3 = .ok (.iushr, 1) := by decide +kernel
theorem dJ6_bitCount_0f7a4_4 : decode cJ6_bitCount_0f7a4 4 = .ok (.ldc_w 265, 3) := by decide +kernel
theorem dJ6_bitCount_0f7a4_7 : decode cJ6_bitCount_0f7a4 7 = .ok (.iand, 1) := by decide +kernel
theorem dJ6_bitCount_0f7a4_8 : decode cJ6_bitCount_0f7a4 8 = .ok (.isub, 1) := by decide +kernel
theorem dJ6_bitCount_0f7a4_9 : decode cJ6_bitCount_0f7a4 9 = .ok (.istore_n 0, 1) := by decide +kernel
theorem dJ6_bitCount_0f7a4_10 : decode cJ6_bitCount_0f7a4 10 = .ok (.iload_n 0, 1) := by decide +kernel
theorem dJ6_bitCount_0f7a4_11 : decode cJ6_bitCount_0f7a4 11 = .ok (.ldc_w 266, 3) := by decide +kernel
theorem dJ6_bitCount_0f7a4_14 : decode cJ6_bitCount_0f7a4 14 = .ok (.iand, 1) := by decide +kernel
theorem dJ6_bitCount_0f7a4_15 : decode cJ6_bitCount_0f7a4 15 = .ok (.iload_n 0, 1) := by decide +kernel
end
section
theorem dJ6_bitCount_0f7a4_16 : decode cJ6_bitCount_0f7a4 16 = .ok (.iconst 2, 1) := by decide +kernel
theorem dJ6_bitCount_0f7a4_17 : decode cJ6_bitCount_0f7a4 17 = .ok (.iushr, 1) := by decide +kernel
theorem dJ6_bitCount_0f7a4_18 : decode cJ6_bitCount_0f7a4 18 = .ok (.ldc_w 266, 3) := by decide +kernel
theorem dJ6_bitCount_0f7a4_21 : decode cJ6_bitCount_0f7a4 21 = .ok (.iand, 1) := by decide +kernel
theorem dJ6_bitCount_0f7a4_22 : decode cJ6_bitCount_0f7a4 22 = .ok (.iadd, 1) := by decide +kernel
theorem dJ6_bitCount_0f7a4_23 : decode cJ6_bitCount_0f7a4 23 = .ok (.istore_n 0, 1) := by decide +kernel
theorem dJ6_bitCount_0f7a4_24 : decode cJ6_bitCount_0f7a4 24 = .ok (.iload_n 0, 1) := by decide +kernel
theorem dJ6_bitCount_0f7a4_25 : decode cJ6_bitCount_0f7a4 25 = .ok (.iload_n 0, 1) := by decide +kernel
theorem dJ6_bitCount_0f7a4_26 : decode cJ6_bitCount_0f7a4 26 = .ok (.iconst 4, 1) := by decide +kernel
theorem dJ6_bitCount_0f7a4_27 : decode cJ6_bitCount_0f7a4 27 = .ok (.iushr, 1) := by decide +kernel
theorem dJ6_bitCount_0f7a4_28 : decode cJ6_bitCount_0f7a4 28 = .ok (.iadd, 1) := by decide +kernel
theorem dJ6_bitCount_0f7a4_29 : decode cJ6_bitCount_0f7a4 29 = .ok (.ldc_w 267, 3) := by decide +kernel
theorem dJ6_bitCount_0f7a4_32 : decode cJ6_bitCount_0f7a4 32 = .ok (.iand, 1) := by decide +kernel
theorem dJ6_bitCount_0f7a4_33 : decode cJ6_bitCount_0f7a4 33 = .ok (.istore_n 0, 1) := by decide +kernel
theorem dJ6_bitCount_0f7a4_34 : decode cJ6_bitCount_0f7a4 34 = .ok (.iload_n 0, 1) := by decide +kernel
theorem dJ6_bitCount_0f7a4_35 : decode cJ6_bitCount_0f7a4 35 = .ok (.iload_n 0, 1) := by decide +kernel
theorem dJ6_bitCount_0f7a4_36 : decode cJ6_bitCount_0f7a4 36 = .ok (.bipush 8, 2) := by decide +kernel
theorem dJ6_bitCount_0f7a4_38 : decode cJ6_bitCount_0f7a4 38 = .ok (.iushr, 1) := by decide +kernel
theorem dJ6_bitCount_0f7a4_39 : decode cJ6_bitCount_0f7a4 39 = .ok (.iadd, 1) := by decide +kernel
theorem dJ6_bitCount_0f7a4_40 : decode cJ6_bitCount_0f7a4 40 = .ok (.istore_n 0, 1) := by decide +kernel
theorem dJ6_bitCount_0f7a4_41 : decode cJ6_bitCount_0f7a4 41 = .ok (.iload_n 0, 1) := by decide +kernel
theorem dJ6_bitCount_0f7a4_42 : decode cJ6_bitCount_0f7a4 42 = .ok (.iload_n 0, 1) := by decide +kernel
theorem dJ6_bitCount_0f7a4_43 : decode cJ6_bitCount_0f7a4 43 = .ok (.bipush 16, 2) := by decide +kernel
theorem dJ6_bitCount_0f7a4_45 : decode cJ6_bitCount_0f7a4 45 = .ok (.iushr, 1) := by decide +kernel
theorem dJ6_bitCount_0f7a4_46 : decode cJ6_bitCount_0f7a4 46 = .ok (.iadd, 1) := by decide +kernel
theorem dJ6_bitCount_0f7a4_47 : decode cJ6_bitCount_0f7a4 47 = .ok (.istore_n 0, 1) := by decide +kernel
theorem dJ6_bitCount_0f7a4_48 : decode cJ6_bitCount_0f7a4 48 = .ok (.iload_n 0, 1) := by decide +kernel
theorem dJ6_bitCount_0f7a4_49 : decode cJ6_bitCount_0f7a4 49 = .ok (.bipush 63, 2) := by decide +kernel
theorem dJ6_bitCount_0f7a4_51 : decode cJ6_bitCount_0f7a4 51 = .ok (.iand, 1) := by decide +kernel
theorem dJ6_bitCount_0f7a4_52 : decode cJ6_bitCount_0f7a4 52 = .ok (.ireturn, 1) := by decide +kernel
theorem dJ9_abs_0f7a4_0 : decode cJ9_abs_0f7a4 0 = .ok (.iload_n 0, 1) := by decide +kernel
theorem dJ9_abs_0f7a4_1 : decode cJ9_abs_0f7a4 1 = .ok (.ifCond .ge 8, 3) := by decide +kernel
theorem dJ9_abs_0f7a4_4 : decode cJ9_abs_0f7a4 4 = .ok (.iload_n 0, 1) := by decide +kernel
theorem dJ9_abs_0f7a4_5 : decode cJ9_abs_0f7a4 5 = .ok (.ineg, 1) := by decide +kernel
theorem dJ9_abs_0f7a4_6 : decode cJ9_abs_0f7a4 6 = .ok (.goto 4, 3) := by decide +kernel
theorem dJ9_abs_0f7a4_9 : decode cJ9_abs_0f7a4 9 = .ok (.iload_n 0, 1) := by decide +kernel
theorem dJ9_abs_0f7a4_10 : decode cJ9_abs_0f7a4 10 = .ok (.ireturn, 1) := by decide +kernel
theorem dJ9_max_7cf53_0 : decode cJ9_max_7cf53 0 = .ok (.iload_n 0, 1) := by decide +kernel
theorem dJ9_max_7cf53_1 : decode cJ9_max_7cf53 1 = .ok (.iload_n 1, 1) := by decide +kernel
theorem dJ9_max_7cf53_2 : decode cJ9_max_7cf53 2 = .ok (.if_icmp .lt 7, 3) := by decide +kernel
theorem dJ9_max_7cf53_5 : decode cJ9_max_7cf53 5 = .ok (.iload_n 0, 1) := by decide +kernel
theorem dJ9_max_7cf53_6 : decode cJ9_max_7cf53 6 = .ok (.goto 4, 3) := by decide +kernel
theorem dJ9_max_7cf53_9 : decode cJ9_max_7cf53 9 = .ok (.iload_n 1, 1) := by decide +kernel
theorem dJ9_max_7cf53_10 : decode cJ9_max_7cf53 10 = .ok (.ireturn, 1) := by decide +kernel
theorem dJ9_max_f86c9_0 : decode cJ9_max_f86c9 0 = .ok (.lload_n 0, 1) := by decide +kernel
theorem dJ9_max_f86c9_1 : decode cJ9_max_f86c9 1 = .ok (.lload_n 2, 1) := by decide +kernel
theorem dJ9_max_f86c9_2 : decode cJ9_max_f86c9 2 = .ok (.lcmp, 1) := by decide +kernel
theorem dJ9_max_f86c9_3 : decode cJ9_max_f86c9 3 = .ok (.ifCond .lt 7, 3) := by decide +kernel
theorem dJ9_max_f86c9_6 : decode cJ9_max_f86c9 6 = .ok (.lload_n 0, 1) := by decide +kernel
theorem dJ9_max_f86c9_7 : decode cJ9_max_f86c9 7 = .ok (.goto 4, 3) := by decide +kernel
theorem dJ9_max_f86c9_10 : decode cJ9_max_f86c9 10 = .ok (.lload_n 2, 1) := by decide +kernel
theorem dJ9_max_f86c9_11 : decode cJ9_max_f86c9 11 = .ok (.lreturn, 1) := by decide +kernel
theorem dJ9_min_7cf53_0 : decode cJ9_min_7cf53 0 = .ok (.iload_n 0, 1) := by decide +kernel
theorem dJ9_min_7cf53_1 : decode cJ9_min_7cf53 1 = .ok (.iload_n 1, 1) := by decide +kernel
theorem dJ9_min_7cf53_2 : decode cJ9_min_7cf53 2 = .ok (.if_icmp .gt 7, 3) := by decide +kernel
theorem dJ9_min_7cf53_5 : decode cJ9_min_7cf53 5 = .ok (.iload_n 0, 1) := by decide +kernel
theorem dJ9_min_7cf53_6 : decode cJ9_min_7cf53 6 = .ok (.goto 4, 3) := by decide +kernel
theorem dJ9_min_7cf53_9 : decode cJ9_min_7cf53 9 = .ok (.iload_n 1, 1) := by decide +kernel
theorem dJ9_min_7cf53_10 : decode cJ9_min_7cf53 10 = .ok (.ireturn, 1) := by decide +kernel
theorem dJ0_length_8abf5_0 : decode cJ0_length_8abf5 0 = .ok (.aload_n 0, 1) := by decide +kernel
theorem dJ0_length_8abf5_1 : decode cJ0_length_8abf5 1 = .ok (.getfield 9, 3) := by decide +kernel
theorem dJ0_length_8abf5_4 : decode cJ0_length_8abf5 4 = .ok (.arraylength, 1) := by decide +kernel
theorem dJ0_length_8abf5_5 : decode cJ0_length_8abf5 5 = .ok (.aload_n 0, 1) := by decide +kernel
theorem dJ0_length_8abf5_6 : decode cJ0_length_8abf5 6 = .ok (.invokevirtual 335, 3) := by decide +kernel
theorem dJ0_length_8abf5_9 : decode cJ0_length_8abf5 9 = .ok (.ishr, 1) := by decide +kernel
theorem dJ0_length_8abf5_10 : decode cJ0_length_8abf5 10 = .ok (.ireturn, 1) := by decide +kernel
theorem dJ0_charAt_5068e_0 : decode cJ0_charAt_5068e 0 = .ok (.aload_n 0, 1) := by decide +kernel
theorem dJ0_charAt_5068e_1 : decode cJ0_charAt_5068e 1 = .ok (.invokevirtual 492, 3) := by decide +kernel
theorem dJ0_charAt_5068e_4 : decode cJ0_charAt_5068e 4 = .ok (.ifCond .eq 12, 3) := by decide +kernel
theorem dJ0_charAt_5068e_7 : decode cJ0_charAt_5068e 7 = .ok (.aload_n 0, 1) := by decide +kernel
theorem dJ0_charAt_5068e_8 : decode cJ0_charAt_5068e 8 = .ok (.getfield 9, 3) := by decide +kernel
theorem dJ0_charAt_5068e_11 : decode cJ0_charAt_5068e 11 = .ok (.iload_n 1, 1) := by decide +kernel
theorem dJ0_charAt_5068e_12 : decode cJ0_charAt_5068e 12 = .ok (.invokestatic 495, 3) := by decide +kernel
theorem dJ0_charAt_5068e_15 : decode cJ0_charAt_5068e 15 = .ok (.ireturn, 1) := by decide +kernel
theorem dJ0_charAt_5068e_16 : decode cJ0_charAt_5068e 16 = .ok (.aload_n 0, 1) := by decide +kernel
theorem dJ0_charAt_5068e_17 : decode cJ0_charAt_5068e 17 = .ok (.getfield 9, 3) := by decide +kernel
theorem dJ0_charAt_5068e_20 : decode cJ0_charAt_5068e 20 = .ok (.iload_n 1, 1) := by decide +kernel
theorem dJ0_charAt_5068e_21 : decode cJ0_charAt_5068e 21 = .ok (.invokestatic 498, 3) := by decide +kernel
theorem dJ0_charAt_5068e_24 : decode cJ0_charAt_5068e 24 = .ok (.ireturn, 1) := by decide +kernel
theorem dJ0_coder_7d493_0 : decode cJ0_coder_7d493 0 = .ok (.getstatic 38, 3) := by decide +kernel
theorem dJ0_coder_7d493_3 : decode cJ0_coder_7d493 3 = .ok (.ifCond .eq 10, 3) := by decide +kernel
theorem dJ0_coder_7d493_6 : decode cJ0_coder_7d493 6 = .ok (.aload_n 0, 1) := by decide +kernel
theorem dJ0_coder_7d493_7 : decode cJ0_coder_7d493 7 = .ok (.getfield 15, 3) := by decide +kernel
theorem dJ0_coder_7d493_10 : decode cJ0_coder_7d493 10 = .ok (.goto 4, 3) := by decide +kernel
theorem dJ0_coder_7d493_13 : decode cJ0_coder_7d493 13 = .ok (.iconst 1, 1) := by decide +kernel
theorem dJ0_coder_7d493_14 : decode cJ0_coder_7d493 14 = .ok (.ireturn, 1) := by decide +kernel
theorem dJ0_isLatin1_aae02_0 : decode cJ0_isLatin1_aae02 0 = .ok (.getstatic 38, 3) := by decide +kernel
theorem dJ0_isLatin1_aae02_3 : decode cJ0_isLatin1_aae02 3 = .ok (.ifCond .eq 14, 3) := by decide +kernel
theorem dJ0_isLatin1_aae02_6 : decode cJ0_isLatin1_aae02 6 = .ok (.aload_n 0, 1) := by decide +kernel
theorem dJ0_isLatin1_aae02_7 : decode cJ0_isLatin1_aae02 7 = .ok (.getfield 15, 3) := by decide +kernel
theorem dJ0_isLatin1_aae02_10 : decode cJ0_isLatin1_aae02 10 = .ok (.ifCond .ne 7, 3) := by decide +kernel
theorem dJ0_isLatin1_aae02_13 : decode cJ0_isLatin1_aae02 13 = .ok (.iconst 1, 1) := by decide +kernel
theorem dJ0_isLatin1_aae02_14 : decode cJ0_isLatin1_aae02 14 = .ok (.goto 4, 3) := by decide +kernel
theorem dJ0_isLatin1_aae02_17 : decode cJ0_isLatin1_aae02 17 = .ok (.iconst 0, 1) := by decide +kernel
theorem dJ0_isLatin1_aae02_18 : decode cJ0_isLatin1_aae02 18 = .ok (.ireturn, 1) := by decide +kernel
theorem dJ0_checkIndex_df160_0 : decode cJ0_checkIndex_df160 0 = .ok (.iload_n 0, 1) := by decide +kernel
theorem dJ0_checkIndex_df160_1 : decode cJ0_checkIndex_df160 1 = .ok (.iload_n 1, 1) := by decide +kernel
theorem dJ0_checkIndex_df160_2 : decode cJ0_checkIndex_df160 2 = .ok (.getstatic 1053, 3) := by decide +kernel
theorem dJ0_checkIndex_df160_5 : decode cJ0_checkIndex_df160 5 = .ok (.invokestatic 1059, 3) := by decide +kernel
theorem dJ0_checkIndex_df160_8 : decode cJ0_checkIndex_df160 8 = .ok (.pop, 1) := by decide +kernel
theorem dJ0_checkIndex_df160_9 : decode cJ0_checkIndex_df160 9 = .ok (.return_, 1) := by decide +kernel
theorem dJ1_charAt_3b067_0 : decode cJ1_charAt_3b067 0 = .ok (.iload_n 1, 1) := by decide +kernel
theorem dJ1_charAt_3b067_1 : decode cJ1_charAt_3b067 1 = .ok (.aload_n 0, 1) := by decide +kernel
theorem dJ1_charAt_3b067_2 : decode cJ1_charAt_3b067 2 = .ok (.arraylength, 1) := by decide +kernel
theorem dJ1_charAt_3b067_3 : decode cJ1_charAt_3b067 3 = .ok (.invokestatic 9, 3) := by decide +kernel
theorem dJ1_charAt_3b067_6 : decode cJ1_charAt_3b067 6 = .ok (.aload_n 0, 1) := by decide +kernel
theorem dJ1_charAt_3b067_7 : decode cJ1_charAt_3b067 7 = .ok (.iload_n 1, 1) := by decide +kernel
theorem dJ1_charAt_3b067_8 : decode cJ1_charAt_3b067 8 = .ok (.baload, 1) := by decide +kernel
theorem dJ1_charAt_3b067_9 : decode cJ1_charAt_3b067 9 = .ok (.sipush 255, 3) := by decide +kernel
theorem dJ1_charAt_3b067_12 : decode cJ1_charAt_3b067 12 = .ok (.iand, 1) := by decide +kernel
theorem dJ1_charAt_3b067_13 : decode cJ1_charAt_3b067 13 = .ok (.i2c, 1) := by decide +kernel
theorem dJ1_charAt_3b067_14 : decode cJ1_charAt_3b067 14 = .ok (.ireturn, 1) := by decide +kernel
theorem dJ2_getChar_3b067_0 : decode cJ2_getChar_3b067 0 = .ok (.getstatic 44, 3) := by decide +kernel
theorem dJ2_getChar_3b067_3 : decode cJ2_getChar_3b067 3 = .ok (.ifCond .ne 25, 3) := by decide +kernel
theorem dJ2_getChar_3b067_6 : decode cJ2_getChar_3b067 6 = .ok (.iload_n 1, 1) := by decide +kernel
theorem dJ2_getChar_3b067_7 : decode cJ2_getChar_3b067 7 = .ok (.ifCond .lt 11, 3) := by decide +kernel
theorem dJ2_getChar_3b067_10 : decode cJ2_getChar_3b067 10 = .ok (.iload_n 1, 1) := by decide +kernel
theorem dJ2_getChar_3b067_11 : decode cJ2_getChar_3b067 11 = .ok (.aload_n 0, 1) := by decide +kernel
theorem dJ2_getChar_3b067_12 : decode cJ2_getChar_3b067 12 = .ok (.invokestatic 48, 3) := by decide +kernel
theorem dJ2_getChar_3b067_15 : decode cJ2_getChar_3b067 15 = .ok (.if_icmp .lt 13, 3) := by decide +kernel
theorem dJ2_getChar_3b067_18 : decode cJ2_getChar_3b067 18 = .ok (.new 52, 3) := by decide +kernel
theorem dJ2_getChar_3b067_21 : decode cJ2_getChar_3b067 21 = .ok (.dup, 1) := by decide +kernel
theorem dJ2_getChar_3b067_22 : decode cJ2_getChar_3b067 22 = .ok (.ldc 54, 2) := by decide +kernel
theorem dJ2_getChar_3b067_24 : decode cJ2_getChar_3b067 24 = .ok (.invokespecial 56, 3) := by decide +kernel
theorem dJ2_getChar_3b067_27 : decode cJ2_getChar_3b067 27 = .ok (.athrow, 1) := by decide +kernel
theorem dJ2_getChar_3b067_28 : decode cJ2_getChar_3b067 28 = .ok (.iload_n 1, 1) := by decide +kernel
theorem dJ2_getChar_3b067_29 : decode cJ2_getChar_3b067 29 = .ok (.iconst 1, 1) := by decide +kernel
theorem dJ2_getChar_3b067_30 : decode cJ2_getChar_3b067 30 = .ok (.ishl, 1) := by decide +kernel
theorem dJ2_getChar_3b067_31 : decode cJ2_getChar_3b067 31 = .ok (.istore_n 1, 1) := by decide +kernel
theorem dJ2_getChar_3b067_32 : decode cJ2_getChar_3b067 32 = .ok (.aload_n 0, 1) := by decide +kernel
theorem dJ2_getChar_3b067_33 : decode cJ2_getChar_3b067 33 = .ok (.iload_n 1, 1) := by decide +kernel
theorem dJ2_getChar_3b067_34 : decode cJ2_getChar_3b067 34 = .ok (.iinc 1 1, 3) := by decide +kernel
theorem dJ2_getChar_3b067_37 : decode cJ2_getChar_3b067 37 = .ok (.baload, 1) := by decide +kernel
theorem dJ2_getChar_3b067_38 : decode cJ2_getChar_3b067 38 = .ok (.sipush 255, 3) := by decide +kernel
theorem dJ2_getChar_3b067_41 : decode cJ2_getChar_3b067 41 = .ok (.iand, 1) := by decide +kernel
theorem dJ2_getChar_3b067_42 : decode cJ2_getChar_3b067 42 = .ok (.getstatic 59, 3) := by decide +kernel
theorem dJ2_getChar_3b067_45 : decode cJ2_getChar_3b067 45 = .ok (.ishl, 1) := by decide +kernel
theorem dJ2_getChar_3b067_46 : decode cJ2_getChar_3b067 46 = .ok (.aload_n 0, 1) := by decide +kernel
theorem dJ2_getChar_3b067_47 : decode cJ2_getChar_3b067 47 = .ok (.iload_n 1, 1) := by decide +kernel
theorem dJ2_getChar_3b067_48 : decode cJ2_getChar_3b067 48 = .ok (.baload, 1) := by decide +kernel
theorem dJ2_getChar_3b067_49 : decode cJ2_getChar_3b067 49 = .ok (.sipush 255, 3) := by decide +kernel
theorem dJ2_getChar_3b067_52 : decode cJ2_getChar_3b067 52 = .ok (.iand, 1) := by decide +kernel
theorem dJ2_getChar_3b067_53 : decode cJ2_getChar_3b067 53 = .ok (.getstatic 63, 3) := by decide +kernel
theorem dJ2_getChar_3b067_56 : decode cJ2_getChar_3b067 56 = .ok (.ishl, 1) := by decide +kernel
theorem dJ2_getChar_3b067_57 : decode cJ2_getChar_3b067 57 = .ok (.ior, 1) := by decide +kernel
theorem dJ2_getChar_3b067_58 : decode cJ2_getChar_3b067 58 = .ok (.i2c, 1) := by decide +kernel
theorem dJ2_getChar_3b067_59 : decode cJ2_getChar_3b067 59 = .ok (.ireturn, 1) := by decide +kernel
theorem dJ2_length_9d52b_0 : decode cJ2_length_9d52b 0 = .ok (.aload_n 0, 1) := by decide +kernel
theorem dJ2_length_9d52b_1 : decode cJ2_length_9d52b 1 = .ok (.arraylength, 1) := by decide +kernel
theorem dJ2_length_9d52b_2 : decode cJ2_length_9d52b 2 = .ok (.iconst 1, 1) := by decide +kernel
theorem dJ2_length_9d52b_3 : decode cJ2_length_9d52b 3 = .ok (.ishr, 1) := by decide +kernel
theorem dJ2_length_9d52b_4 : decode cJ2_length_9d52b 4 = .ok (.ireturn, 1) := by decide +kernel
theorem dJ2_charAt_3b067_0 : decode cJ2_charAt_3b067 0 = .ok (.iload_n 1, 1) := by decide +kernel
theorem dJ2_charAt_3b067_1 : decode cJ2_charAt_3b067 1 = .ok (.aload_n 0, 1) := by decide +kernel
theorem dJ2_charAt_3b067_2 : decode cJ2_charAt_3b067 2 = .ok (.invokestatic 67, 3) := by decide +kernel
theorem dJ2_charAt_3b067_5 : decode cJ2_charAt_3b067 5 = .ok (.aload_n 0, 1) := by decide +kernel
theorem dJ2_charAt_3b067_6 : decode cJ2_charAt_3b067 6 = .ok (.iload_n 1, 1) := by decide +kernel
theorem dJ2_charAt_3b067_7 : decode cJ2_charAt_3b067 7 = .ok (.invokestatic 71, 3) := by decide +kernel
theorem dJ2_charAt_3b067_10 : decode cJ2_charAt_3b067 10 = .ok (.ireturn, 1) := by decide +kernel
theorem dJ2_checkIndex_2214a_0 : decode cJ2_checkIndex_2214a 0 = .ok (.iload_n 0, 1) := by decide +kernel
theorem dJ2_checkIndex_2214a_1 : decode cJ2_checkIndex_2214a 1 = .ok (.aload_n 1, 1) := by decide +kernel
theorem dJ2_checkIndex_2214a_2 : decode cJ2_checkIndex_2214a 2 = .ok (.invokestatic 48, 3) := by decide +kernel
theorem dJ2_checkIndex_2214a_5 : decode cJ2_checkIndex_2214a 5 = .ok (.invokestatic 414, 3) := by decide +kernel
theorem dJ2_checkIndex_2214a_8 : decode cJ2_checkIndex_2214a 8 = .ok (.return_, 1) := by decide +kernel
theorem dJ7_fill_53178_0 : decode cJ7_fill_53178 0 = .ok (.iconst 0, 1) := by decide +kernel
theorem dJ7_fill_53178_1 : decode cJ7_fill_53178 1 = .ok (.istore_n 2, 1) := by decide +kernel
theorem dJ7_fill_53178_2 : decode cJ7_fill_53178 2 = .ok (.aload_n 0, 1) := by decide +kernel
theorem dJ7_fill_53178_3 : decode cJ7_fill_53178 3 = .ok (.arraylength, 1) := by decide +kernel
theorem dJ7_fill_53178_4 : decode cJ7_fill_53178 4 = .ok (.istore_n 3, 1) := by decide +kernel
theorem dJ7_fill_53178_5 : decode cJ7_fill_53178 5 = .ok (.iload_n 2, 1) := by decide +kernel
theorem dJ7_fill_53178_6 : decode cJ7_fill_53178 6 = .ok (.iload_n 3, 1) := by decide +kernel
theorem dJ7_fill_53178_7 : decode cJ7_fill_53178 7 = .ok (.if_icmp .ge 13, 3) := by decide +kernel
theorem dJ7_fill_53178_10 : decode cJ7_fill_53178 10 = .ok (.aload_n 0, 1) := by decide +kernel
theorem dJ7_fill_53178_11 : decode cJ7_fill_53178 11 = .ok (.iload_n 2, 1) := by decide +kernel
theorem dJ7_fill_53178_12 : decode cJ7_fill_53178 12 = .ok (.iload_n 1, 1) := by decide +kernel
theorem dJ7_fill_53178_13 : decode cJ7_fill_53178 13 = .ok (.iastore, 1) := by decide +kernel
theorem dJ7_fill_53178_14 : decode cJ7_fill_53178 14 = .ok (.iinc 2 1, 3) := by decide +kernel
theorem dJ7_fill_53178_17 : decode cJ7_fill_53178 17 = .ok (.goto (-12), 3) := by decide +kernel
theorem dJ7_fill_53178_20 : decode cJ7_fill_53178 20 = .ok (.return_, 1) := by decide +kernel
theorem dJ3_checkIndex_8e157_0 : decode cJ3_checkIndex_8e157 0 = .ok (.iload_n 0, 1) := by decide +kernel
theorem dJ3_checkIndex_8e157_1 : decode cJ3_checkIndex_8e157 1 = .ok (.ifCond .lt 8, 3) := by decide +kernel
theorem dJ3_checkIndex_8e157_4 : decode cJ3_checkIndex_8e157 4 = .ok (.iload_n 0, 1) := by decide +kernel
theorem dJ3_checkIndex_8e157_5 : decode cJ3_checkIndex_8e157 5 = .ok (.iload_n 1, 1) := by decide +kernel
theorem dJ3_checkIndex_8e157_6 : decode cJ3_checkIndex_8e157 6 = .ok (.if_icmp .lt 10, 3) := by decide +kernel
theorem dJ3_checkIndex_8e157_9 : decode cJ3_checkIndex_8e157 9 = .ok (.aload_n 2, 1) := by decide +kernel
theorem dJ3_checkIndex_8e157_10 : decode cJ3_checkIndex_8e157 10 = .ok (.iload_n 0, 1) := by decide +kernel
theorem dJ3_checkIndex_8e157_11 : decode cJ3_checkIndex_8e157 11 = .ok (.iload_n 1, 1) := by decide +kernel
theorem dJ3_checkIndex_8e157_12 : decode cJ3_checkIndex_8e157 12 = .ok (.invokestatic 95, 3) := by decide +kernel
theorem dJ3_checkIndex_8e157_15 : decode cJ3_checkIndex_8e157 15 = .ok (.athrow, 1) := by decide +kernel
theorem dJ3_checkIndex_8e157_16 : decode cJ3_checkIndex_8e157 16 = .ok (.iload_n 0, 1) := by decide +kernel
theorem dJ3_checkIndex_8e157_17 : decode cJ3_checkIndex_8e157 17 = .ok (.ireturn, 1) := by decide +kernel
theorem dL_law_0 : decode cL_law 0 = .ok (.new 7, 3) := by decide +kernel
theorem dL_law_3 : decode cL_law 3 = .ok (.dup, 1) := by decide +kernel
theorem dL_law_4 : decode cL_law 4 = .ok (.invokespecial 9, 3) := by decide +kernel
theorem dL_law_7 : decode cL_law 7 = .ok (.astore_n 1, 1) := by decide +kernel
theorem dL_law_8 : decode cL_law 8 = .ok (.new 10, 3) := by decide +kernel
theorem dL_law_11 : decode cL_law 11 = .ok (.dup, 1) := by decide +kernel
theorem dL_law_12 : decode cL_law 12 = .ok (.invokespecial 12, 3) := by decide +kernel
theorem dL_law_15 : decode cL_law 15 = .ok (.astore_n 2, 1) := by decide +kernel
theorem dL_law_16 : decode cL_law 16 = .ok (.iconst 0, 1) := by decide +kernel
theorem dL_law_17 : decode cL_law 17 = .ok (.istore_n 3, 1) := by decide +kernel
theorem dL_law_18 : decode cL_law 18 = .ok (.iload_n 3, 1) := by decide +kernel
theorem dL_law_19 : decode cL_law 19 = .ok (.aload_n 0, 1) := by decide +kernel
theorem dL_law_20 : decode cL_law 20 = .ok (.arraylength, 1) := by decide +kernel
theorem dL_law_21 : decode cL_law 21 = .ok (.iconst 5, 1) := by decide +kernel
theorem dL_law_22 : decode cL_law 22 = .ok (.isub, 1) := by decide +kernel
theorem dL_law_23 : decode cL_law 23 = .ok (.if_icmp .gt 1134, 3) := by decide +kernel
theorem dL_law_26 : decode cL_law 26 = .ok (.aload_n 0, 1) := by decide +kernel
theorem dL_law_27 : decode cL_law 27 = .ok (.iload_n 3, 1) := by decide +kernel
theorem dL_law_28 : decode cL_law 28 = .ok (.iaload, 1) := by decide +kernel
theorem dL_law_29 : decode cL_law 29 = .ok (.bipush 63, 2) := by decide +kernel
theorem dL_law_31 : decode cL_law 31 = .ok (.iand, 1) := by decide +kernel
theorem dL_law_32 : decode cL_law 32 = .ok (.tableswitch 1119 0 37 #[168, 231, 244, 257, 270, 283, 306, 339, 372, 405, 438, 461, 474, 497, 510, 533, 566, 615, 628, 652, 665, 688, 711, 744, 787, 810, 833, 866, 889, 912, 925, 948, 1001, 1024, 1037, 1050, 1073, 1096], 168) := by decide +kernel
theorem dL_law_200 : decode cL_law 200 = .ok (.aload_n 1, 1) := by decide +kernel
theorem dL_law_201 : decode cL_law 201 = .ok (.aload_n 0, 1) := by decide +kernel
theorem dL_law_202 : decode cL_law 202 = .ok (.iload_n 3, 1) := by decide +kernel
theorem dL_law_203 : decode cL_law 203 = .ok (.iconst 1, 1) := by decide +kernel
theorem dL_law_204 : decode cL_law 204 = .ok (.iadd, 1) := by decide +kernel
theorem dL_law_205 : decode cL_law 205 = .ok (.iaload, 1) := by decide +kernel
theorem dL_law_206 : decode cL_law 206 = .ok (.aload_n 0, 1) := by decide +kernel
theorem dL_law_207 : decode cL_law 207 = .ok (.iload_n 3, 1) := by decide +kernel
theorem dL_law_208 : decode cL_law 208 = .ok (.iconst 2, 1) := by decide +kernel
theorem dL_law_209 : decode cL_law 209 = .ok (.iadd, 1) := by decide +kernel
theorem dL_law_210 : decode cL_law 210 = .ok (.iaload, 1) := by decide +kernel
theorem dL_law_211 : decode cL_law 211 = .ok (.i2l, 1) := by decide +kernel
theorem dL_law_212 : decode cL_law 212 = .ok (.bipush 32, 2) := by decide +kernel
theorem dL_law_214 : decode cL_law 214 = .ok (.lshl, 1) := by decide +kernel
theorem dL_law_215 : decode cL_law 215 = .ok (.aload_n 0, 1) := by decide +kernel
theorem dL_law_216 : decode cL_law 216 = .ok (.iload_n 3, 1) := by decide +kernel
theorem dL_law_217 : decode cL_law 217 = .ok (.iconst 3, 1) := by decide +kernel
theorem dL_law_218 : decode cL_law 218 = .ok (.iadd, 1) := by decide +kernel
theorem dL_law_219 : decode cL_law 219 = .ok (.iaload, 1) := by decide +kernel
theorem dL_law_220 : decode cL_law 220 = .ok (.i2l, 1) := by decide +kernel
theorem dL_law_221 : decode cL_law 221 = .ok (.ldc2_w 13, 3) := by decide +kernel
theorem dL_law_224 : decode cL_law 224 = .ok (.land, 1) := by decide +kernel
theorem dL_law_225 : decode cL_law 225 = .ok (.lor, 1) := by decide +kernel
theorem dL_law_226 : decode cL_law 226 = .ok (.invokevirtual 15, 3) := by decide +kernel
theorem dL_law_229 : decode cL_law 229 = .ok (.aload_n 2, 1) := by decide +kernel
theorem dL_law_230 : decode cL_law 230 = .ok (.aload_n 0, 1) := by decide +kernel
theorem dL_law_231 : decode cL_law 231 = .ok (.iload_n 3, 1) := by decide +kernel
theorem dL_law_232 : decode cL_law 232 = .ok (.iconst 1, 1) := by decide +kernel
theorem dL_law_233 : decode cL_law 233 = .ok (.iadd, 1) := by decide +kernel
theorem dL_law_234 : decode cL_law 234 = .ok (.iaload, 1) := by decide +kernel
theorem dL_law_235 : decode cL_law 235 = .ok (.aload_n 0, 1) := by decide +kernel
theorem dL_law_236 : decode cL_law 236 = .ok (.iload_n 3, 1) := by decide +kernel
theorem dL_law_237 : decode cL_law 237 = .ok (.iconst 2, 1) := by decide +kernel
theorem dL_law_238 : decode cL_law 238 = .ok (.iadd, 1) := by decide +kernel
theorem dL_law_239 : decode cL_law 239 = .ok (.iaload, 1) := by decide +kernel
theorem dL_law_240 : decode cL_law 240 = .ok (.i2l, 1) := by decide +kernel
theorem dL_law_241 : decode cL_law 241 = .ok (.bipush 32, 2) := by decide +kernel
theorem dL_law_243 : decode cL_law 243 = .ok (.lshl, 1) := by decide +kernel
theorem dL_law_244 : decode cL_law 244 = .ok (.aload_n 0, 1) := by decide +kernel
theorem dL_law_245 : decode cL_law 245 = .ok (.iload_n 3, 1) := by decide +kernel
theorem dL_law_246 : decode cL_law 246 = .ok (.iconst 3, 1) := by decide +kernel
theorem dL_law_247 : decode cL_law 247 = .ok (.iadd, 1) := by decide +kernel
theorem dL_law_248 : decode cL_law 248 = .ok (.iaload, 1) := by decide +kernel
theorem dL_law_249 : decode cL_law 249 = .ok (.i2l, 1) := by decide +kernel
theorem dL_law_250 : decode cL_law 250 = .ok (.ldc2_w 13, 3) := by decide +kernel
theorem dL_law_253 : decode cL_law 253 = .ok (.land, 1) := by decide +kernel
theorem dL_law_254 : decode cL_law 254 = .ok (.lor, 1) := by decide +kernel
theorem dL_law_255 : decode cL_law 255 = .ok (.invokevirtual 19, 3) := by decide +kernel
theorem dL_law_258 : decode cL_law 258 = .ok (.if_icmp .eq 893, 3) := by decide +kernel
theorem dL_law_261 : decode cL_law 261 = .ok (.iconst 0, 1) := by decide +kernel
theorem dL_law_262 : decode cL_law 262 = .ok (.ireturn, 1) := by decide +kernel
theorem dL_law_263 : decode cL_law 263 = .ok (.aload_n 1, 1) := by decide +kernel
theorem dL_law_264 : decode cL_law 264 = .ok (.invokevirtual 20, 3) := by decide +kernel
theorem dL_law_267 : decode cL_law 267 = .ok (.aload_n 2, 1) := by decide +kernel
theorem dL_law_268 : decode cL_law 268 = .ok (.invokevirtual 24, 3) := by decide +kernel
theorem dL_law_271 : decode cL_law 271 = .ok (.if_icmp .eq 880, 3) := by decide +kernel
theorem dL_law_274 : decode cL_law 274 = .ok (.iconst 0, 1) := by decide +kernel
theorem dL_law_275 : decode cL_law 275 = .ok (.ireturn, 1) := by decide +kernel
theorem dL_law_276 : decode cL_law 276 = .ok (.aload_n 1, 1) := by decide +kernel
theorem dL_law_277 : decode cL_law 277 = .ok (.invokevirtual 25, 3) := by decide +kernel
theorem dL_law_280 : decode cL_law 280 = .ok (.aload_n 2, 1) := by decide +kernel
theorem dL_law_281 : decode cL_law 281 = .ok (.invokevirtual 28, 3) := by decide +kernel
theorem dL_law_284 : decode cL_law 284 = .ok (.if_icmp .eq 867, 3) := by decide +kernel
theorem dL_law_287 : decode cL_law 287 = .ok (.iconst 0, 1) := by decide +kernel
theorem dL_law_288 : decode cL_law 288 = .ok (.ireturn, 1) := by decide +kernel
theorem dL_law_289 : decode cL_law 289 = .ok (.aload_n 1, 1) := by decide +kernel
theorem dL_law_290 : decode cL_law 290 = .ok (.invokevirtual 29, 3) := by decide +kernel
theorem dL_law_293 : decode cL_law 293 = .ok (.aload_n 2, 1) := by decide +kernel
theorem dL_law_294 : decode cL_law 294 = .ok (.invokevirtual 32, 3) := by decide +kernel
theorem dL_law_297 : decode cL_law 297 = .ok (.if_icmp .eq 854, 3) := by decide +kernel
theorem dL_law_300 : decode cL_law 300 = .ok (.iconst 0, 1) := by decide +kernel
theorem dL_law_301 : decode cL_law 301 = .ok (.ireturn, 1) := by decide +kernel
theorem dL_law_302 : decode cL_law 302 = .ok (.aload_n 1, 1) := by decide +kernel
theorem dL_law_303 : decode cL_law 303 = .ok (.invokevirtual 33, 3) := by decide +kernel
theorem dL_law_306 : decode cL_law 306 = .ok (.aload_n 2, 1) := by decide +kernel
theorem dL_law_307 : decode cL_law 307 = .ok (.invokevirtual 36, 3) := by decide +kernel
theorem dL_law_310 : decode cL_law 310 = .ok (.if_icmp .eq 841, 3) := by decide +kernel
theorem dL_law_313 : decode cL_law 313 = .ok (.iconst 0, 1) := by decide +kernel
theorem dL_law_314 : decode cL_law 314 = .ok (.ireturn, 1) := by decide +kernel
theorem dL_law_315 : decode cL_law 315 = .ok (.aload_n 1, 1) := by decide +kernel
theorem dL_law_316 : decode cL_law 316 = .ok (.aload_n 0, 1) := by decide +kernel
theorem dL_law_317 : decode cL_law 317 = .ok (.iload_n 3, 1) := by decide +kernel
theorem dL_law_318 : decode cL_law 318 = .ok (.iconst 1, 1) := by decide +kernel
theorem dL_law_319 : decode cL_law 319 = .ok (.iadd, 1) := by decide +kernel
theorem dL_law_320 : decode cL_law 320 = .ok (.iaload, 1) := by decide +kernel
theorem dL_law_321 : decode cL_law 321 = .ok (.invokevirtual 37, 3) := by decide +kernel
theorem dL_law_324 : decode cL_law 324 = .ok (.aload_n 2, 1) := by decide +kernel
theorem dL_law_325 : decode cL_law 325 = .ok (.aload_n 0, 1) := by decide +kernel
theorem dL_law_326 : decode cL_law 326 = .ok (.iload_n 3, 1) := by decide +kernel
theorem dL_law_327 : decode cL_law 327 = .ok (.iconst 1, 1) := by decide +kernel
theorem dL_law_328 : decode cL_law 328 = .ok (.iadd, 1) := by decide +kernel
theorem dL_law_329 : decode cL_law 329 = .ok (.iaload, 1) := by decide +kernel
theorem dL_law_330 : decode cL_law 330 = .ok (.invokevirtual 41, 3) := by decide +kernel
theorem dL_law_333 : decode cL_law 333 = .ok (.if_icmp .eq 818, 3) := by decide +kernel
theorem dL_law_336 : decode cL_law 336 = .ok (.iconst 0, 1) := by decide +kernel
theorem dL_law_337 : decode cL_law 337 = .ok (.ireturn, 1) := by decide +kernel
theorem dL_law_338 : decode cL_law 338 = .ok (.aload_n 1, 1) := by decide +kernel
theorem dL_law_339 : decode cL_law 339 = .ok (.aload_n 0, 1) := by decide +kernel
theorem dL_law_340 : decode cL_law 340 = .ok (.iload_n 3, 1) := by decide +kernel
theorem dL_law_341 : decode cL_law 341 = .ok (.iconst 1, 1) := by decide +kernel
theorem dL_law_342 : decode cL_law 342 = .ok (.iadd, 1) := by decide +kernel
theorem dL_law_343 : decode cL_law 343 = .ok (.iaload, 1) := by decide +kernel
theorem dL_law_344 : decode cL_law 344 = .ok (.aload_n 0, 1) := by decide +kernel
theorem dL_law_345 : decode cL_law 345 = .ok (.iload_n 3, 1) := by decide +kernel
theorem dL_law_346 : decode cL_law 346 = .ok (.iconst 2, 1) := by decide +kernel
theorem dL_law_347 : decode cL_law 347 = .ok (.iadd, 1) := by decide +kernel
theorem dL_law_348 : decode cL_law 348 = .ok (.iaload, 1) := by decide +kernel
theorem dL_law_349 : decode cL_law 349 = .ok (.invokevirtual 42, 3) := by decide +kernel
theorem dL_law_352 : decode cL_law 352 = .ok (.aload_n 2, 1) := by decide +kernel
theorem dL_law_353 : decode cL_law 353 = .ok (.aload_n 0, 1) := by decide +kernel
theorem dL_law_354 : decode cL_law 354 = .ok (.iload_n 3, 1) := by decide +kernel
theorem dL_law_355 : decode cL_law 355 = .ok (.iconst 1, 1) := by decide +kernel
theorem dL_law_356 : decode cL_law 356 = .ok (.iadd, 1) := by decide +kernel
theorem dL_law_357 : decode cL_law 357 = .ok (.iaload, 1) := by decide +kernel
theorem dL_law_358 : decode cL_law 358 = .ok (.aload_n 0, 1) := by decide +kernel
theorem dL_law_359 : decode cL_law 359 = .ok (.iload_n 3, 1) := by decide +kernel
theorem dL_law_360 : decode cL_law 360 = .ok (.iconst 2, 1) := by decide +kernel
theorem dL_law_361 : decode cL_law 361 = .ok (.iadd, 1) := by decide +kernel
theorem dL_law_362 : decode cL_law 362 = .ok (.iaload, 1) := by decide +kernel
theorem dL_law_363 : decode cL_law 363 = .ok (.invokevirtual 46, 3) := by decide +kernel
theorem dL_law_366 : decode cL_law 366 = .ok (.if_icmp .eq 785, 3) := by decide +kernel
theorem dL_law_369 : decode cL_law 369 = .ok (.iconst 0, 1) := by decide +kernel
theorem dL_law_370 : decode cL_law 370 = .ok (.ireturn, 1) := by decide +kernel
theorem dL_law_371 : decode cL_law 371 = .ok (.aload_n 1, 1) := by decide +kernel
theorem dL_law_372 : decode cL_law 372 = .ok (.aload_n 0, 1) := by decide +kernel
theorem dL_law_373 : decode cL_law 373 = .ok (.iload_n 3, 1) := by decide +kernel
theorem dL_law_374 : decode cL_law 374 = .ok (.iconst 1, 1) := by decide +kernel
theorem dL_law_375 : decode cL_law 375 = .ok (.iadd, 1) := by decide +kernel
theorem dL_law_376 : decode cL_law 376 = .ok (.iaload, 1) := by decide +kernel
theorem dL_law_377 : decode cL_law 377 = .ok (.aload_n 0, 1) := by decide +kernel
theorem dL_law_378 : decode cL_law 378 = .ok (.iload_n 3, 1) := by decide +kernel
theorem dL_law_379 : decode cL_law 379 = .ok (.iconst 2, 1) := by decide +kernel
theorem dL_law_380 : decode cL_law 380 = .ok (.iadd, 1) := by decide +kernel
theorem dL_law_381 : decode cL_law 381 = .ok (.iaload, 1) := by decide +kernel
theorem dL_law_382 : decode cL_law 382 = .ok (.invokevirtual 47, 3) := by decide +kernel
theorem dL_law_385 : decode cL_law 385 = .ok (.aload_n 2, 1) := by decide +kernel
theorem dL_law_386 : decode cL_law 386 = .ok (.aload_n 0, 1) := by decide +kernel
theorem dL_law_387 : decode cL_law 387 = .ok (.iload_n 3, 1) := by decide +kernel
theorem dL_law_388 : decode cL_law 388 = .ok (.iconst 1, 1) := by decide +kernel
theorem dL_law_389 : decode cL_law 389 = .ok (.iadd, 1) := by decide +kernel
theorem dL_law_390 : decode cL_law 390 = .ok (.iaload, 1) := by decide +kernel
theorem dL_law_391 : decode cL_law 391 = .ok (.aload_n 0, 1) := by decide +kernel
theorem dL_law_392 : decode cL_law 392 = .ok (.iload_n 3, 1) := by decide +kernel
theorem dL_law_393 : decode cL_law 393 = .ok (.iconst 2, 1) := by decide +kernel
theorem dL_law_394 : decode cL_law 394 = .ok (.iadd, 1) := by decide +kernel
theorem dL_law_395 : decode cL_law 395 = .ok (.iaload, 1) := by decide +kernel
theorem dL_law_396 : decode cL_law 396 = .ok (.invokevirtual 50, 3) := by decide +kernel
theorem dL_law_399 : decode cL_law 399 = .ok (.if_icmp .eq 752, 3) := by decide +kernel
theorem dL_law_402 : decode cL_law 402 = .ok (.iconst 0, 1) := by decide +kernel
theorem dL_law_403 : decode cL_law 403 = .ok (.ireturn, 1) := by decide +kernel
theorem dL_law_404 : decode cL_law 404 = .ok (.aload_n 1, 1) := by decide +kernel
theorem dL_law_405 : decode cL_law 405 = .ok (.aload_n 0, 1) := by decide +kernel
theorem dL_law_406 : decode cL_law 406 = .ok (.iload_n 3, 1) := by decide +kernel
theorem dL_law_407 : decode cL_law 407 = .ok (.iconst 1, 1) := by decide +kernel
theorem dL_law_408 : decode cL_law 408 = .ok (.iadd, 1) := by decide +kernel
theorem dL_law_409 : decode cL_law 409 = .ok (.iaload, 1) := by decide +kernel
theorem dL_law_410 : decode cL_law 410 = .ok (.aload_n 0, 1) := by decide +kernel
theorem dL_law_411 : decode cL_law 411 = .ok (.iload_n 3, 1) := by decide +kernel
theorem dL_law_412 : decode cL_law 412 = .ok (.iconst 2, 1) := by decide +kernel
theorem dL_law_413 : decode cL_law 413 = .ok (.iadd, 1) := by decide +kernel
theorem dL_law_414 : decode cL_law 414 = .ok (.iaload, 1) := by decide +kernel
theorem dL_law_415 : decode cL_law 415 = .ok (.invokevirtual 51, 3) := by decide +kernel
theorem dL_law_418 : decode cL_law 418 = .ok (.aload_n 2, 1) := by decide +kernel
theorem dL_law_419 : decode cL_law 419 = .ok (.aload_n 0, 1) := by decide +kernel
theorem dL_law_420 : decode cL_law 420 = .ok (.iload_n 3, 1) := by decide +kernel
theorem dL_law_421 : decode cL_law 421 = .ok (.iconst 1, 1) := by decide +kernel
theorem dL_law_422 : decode cL_law 422 = .ok (.iadd, 1) := by decide +kernel
theorem dL_law_423 : decode cL_law 423 = .ok (.iaload, 1) := by decide +kernel
theorem dL_law_424 : decode cL_law 424 = .ok (.aload_n 0, 1) := by decide +kernel
theorem dL_law_425 : decode cL_law 425 = .ok (.iload_n 3, 1) := by decide +kernel
theorem dL_law_426 : decode cL_law 426 = .ok (.iconst 2, 1) := by decide +kernel
theorem dL_law_427 : decode cL_law 427 = .ok (.iadd, 1) := by decide +kernel
theorem dL_law_428 : decode cL_law 428 = .ok (.iaload, 1) := by decide +kernel
theorem dL_law_429 : decode cL_law 429 = .ok (.invokevirtual 54, 3) := by decide +kernel
theorem dL_law_432 : decode cL_law 432 = .ok (.if_icmp .eq 719, 3) := by decide +kernel
theorem dL_law_435 : decode cL_law 435 = .ok (.iconst 0, 1) := by decide +kernel
theorem dL_law_436 : decode cL_law 436 = .ok (.ireturn, 1) := by decide +kernel
theorem dL_law_437 : decode cL_law 437 = .ok (.aload_n 1, 1) := by decide +kernel
theorem dL_law_438 : decode cL_law 438 = .ok (.aload_n 0, 1) := by decide +kernel
theorem dL_law_439 : decode cL_law 439 = .ok (.iload_n 3, 1) := by decide +kernel
theorem dL_law_440 : decode cL_law 440 = .ok (.iconst 1, 1) := by decide +kernel
theorem dL_law_441 : decode cL_law 441 = .ok (.iadd, 1) := by decide +kernel
theorem dL_law_442 : decode cL_law 442 = .ok (.iaload, 1) := by decide +kernel
theorem dL_law_443 : decode cL_law 443 = .ok (.aload_n 0, 1) := by decide +kernel
theorem dL_law_444 : decode cL_law 444 = .ok (.iload_n 3, 1) := by decide +kernel
theorem dL_law_445 : decode cL_law 445 = .ok (.iconst 2, 1) := by decide +kernel
theorem dL_law_446 : decode cL_law 446 = .ok (.iadd, 1) := by decide +kernel
theorem dL_law_447 : decode cL_law 447 = .ok (.iaload, 1) := by decide +kernel
theorem dL_law_448 : decode cL_law 448 = .ok (.invokevirtual 55, 3) := by decide +kernel
theorem dL_law_451 : decode cL_law 451 = .ok (.aload_n 2, 1) := by decide +kernel
theorem dL_law_452 : decode cL_law 452 = .ok (.aload_n 0, 1) := by decide +kernel
theorem dL_law_453 : decode cL_law 453 = .ok (.iload_n 3, 1) := by decide +kernel
theorem dL_law_454 : decode cL_law 454 = .ok (.iconst 1, 1) := by decide +kernel
theorem dL_law_455 : decode cL_law 455 = .ok (.iadd, 1) := by decide +kernel
theorem dL_law_456 : decode cL_law 456 = .ok (.iaload, 1) := by decide +kernel
theorem dL_law_457 : decode cL_law 457 = .ok (.aload_n 0, 1) := by decide +kernel
theorem dL_law_458 : decode cL_law 458 = .ok (.iload_n 3, 1) := by decide +kernel
theorem dL_law_459 : decode cL_law 459 = .ok (.iconst 2, 1) := by decide +kernel
theorem dL_law_460 : decode cL_law 460 = .ok (.iadd, 1) := by decide +kernel
theorem dL_law_461 : decode cL_law 461 = .ok (.iaload, 1) := by decide +kernel
theorem dL_law_462 : decode cL_law 462 = .ok (.invokevirtual 58, 3) := by decide +kernel
theorem dL_law_465 : decode cL_law 465 = .ok (.if_icmp .eq 686, 3) := by decide +kernel
theorem dL_law_468 : decode cL_law 468 = .ok (.iconst 0, 1) := by decide +kernel
theorem dL_law_469 : decode cL_law 469 = .ok (.ireturn, 1) := by decide +kernel
theorem dL_law_470 : decode cL_law 470 = .ok (.aload_n 1, 1) := by decide +kernel
theorem dL_law_471 : decode cL_law 471 = .ok (.aload_n 0, 1) := by decide +kernel
theorem dL_law_472 : decode cL_law 472 = .ok (.iload_n 3, 1) := by decide +kernel
theorem dL_law_473 : decode cL_law 473 = .ok (.iconst 1, 1) := by decide +kernel
theorem dL_law_474 : decode cL_law 474 = .ok (.iadd, 1) := by decide +kernel
theorem dL_law_475 : decode cL_law 475 = .ok (.iaload, 1) := by decide +kernel
theorem dL_law_476 : decode cL_law 476 = .ok (.invokevirtual 59, 3) := by decide +kernel
theorem dL_law_479 : decode cL_law 479 = .ok (.aload_n 2, 1) := by decide +kernel
theorem dL_law_480 : decode cL_law 480 = .ok (.aload_n 0, 1) := by decide +kernel
theorem dL_law_481 : decode cL_law 481 = .ok (.iload_n 3, 1) := by decide +kernel
theorem dL_law_482 : decode cL_law 482 = .ok (.iconst 1, 1) := by decide +kernel
theorem dL_law_483 : decode cL_law 483 = .ok (.iadd, 1) := by decide +kernel
theorem dL_law_484 : decode cL_law 484 = .ok (.iaload, 1) := by decide +kernel
theorem dL_law_485 : decode cL_law 485 = .ok (.invokevirtual 62, 3) := by decide +kernel
theorem dL_law_488 : decode cL_law 488 = .ok (.if_icmp .eq 663, 3) := by decide +kernel
theorem dL_law_491 : decode cL_law 491 = .ok (.iconst 0, 1) := by decide +kernel
theorem dL_law_492 : decode cL_law 492 = .ok (.ireturn, 1) := by decide +kernel
theorem dL_law_493 : decode cL_law 493 = .ok (.aload_n 1, 1) := by decide +kernel
theorem dL_law_494 : decode cL_law 494 = .ok (.invokevirtual 63, 3) := by decide +kernel
theorem dL_law_497 : decode cL_law 497 = .ok (.aload_n 2, 1) := by decide +kernel
theorem dL_law_498 : decode cL_law 498 = .ok (.invokevirtual 66, 3) := by decide +kernel
theorem dL_law_501 : decode cL_law 501 = .ok (.if_icmp .eq 650, 3) := by decide +kernel
theorem dL_law_504 : decode cL_law 504 = .ok (.iconst 0, 1) := by decide +kernel
theorem dL_law_505 : decode cL_law 505 = .ok (.ireturn, 1) := by decide +kernel
theorem dL_law_506 : decode cL_law 506 = .ok (.aload_n 1, 1) := by decide +kernel
theorem dL_law_507 : decode cL_law 507 = .ok (.aload_n 0, 1) := by decide +kernel
theorem dL_law_508 : decode cL_law 508 = .ok (.iload_n 3, 1) := by decide +kernel
theorem dL_law_509 : decode cL_law 509 = .ok (.iconst 1, 1) := by decide +kernel
theorem dL_law_510 : decode cL_law 510 = .ok (.iadd, 1) := by decide +kernel
theorem dL_law_511 : decode cL_law 511 = .ok (.iaload, 1) := by decide +kernel
theorem dL_law_512 : decode cL_law 512 = .ok (.invokevirtual 67, 3) := by decide +kernel
theorem dL_law_515 : decode cL_law 515 = .ok (.aload_n 2, 1) := by decide +kernel
theorem dL_law_516 : decode cL_law 516 = .ok (.aload_n 0, 1) := by decide +kernel
theorem dL_law_517 : decode cL_law 517 = .ok (.iload_n 3, 1) := by decide +kernel
theorem dL_law_518 : decode cL_law 518 = .ok (.iconst 1, 1) := by decide +kernel
theorem dL_law_519 : decode cL_law 519 = .ok (.iadd, 1) := by decide +kernel
theorem dL_law_520 : decode cL_law 520 = .ok (.iaload, 1) := by decide +kernel
theorem dL_law_521 : decode cL_law 521 = .ok (.invokevirtual 70, 3) := by decide +kernel
theorem dL_law_524 : decode cL_law 524 = .ok (.if_icmp .eq 627, 3) := by decide +kernel
theorem dL_law_527 : decode cL_law 527 = .ok (.iconst 0, 1) := by decide +kernel
theorem dL_law_528 : decode cL_law 528 = .ok (.ireturn, 1) := by decide +kernel
theorem dL_law_529 : decode cL_law 529 = .ok (.aload_n 1, 1) := by decide +kernel
theorem dL_law_530 : decode cL_law 530 = .ok (.invokevirtual 71, 3) := by decide +kernel
theorem dL_law_533 : decode cL_law 533 = .ok (.aload_n 2, 1) := by decide +kernel
theorem dL_law_534 : decode cL_law 534 = .ok (.invokevirtual 74, 3) := by decide +kernel
theorem dL_law_537 : decode cL_law 537 = .ok (.if_icmp .eq 614, 3) := by decide +kernel
theorem dL_law_540 : decode cL_law 540 = .ok (.iconst 0, 1) := by decide +kernel
theorem dL_law_541 : decode cL_law 541 = .ok (.ireturn, 1) := by decide +kernel
theorem dL_law_542 : decode cL_law 542 = .ok (.aload_n 1, 1) := by decide +kernel
theorem dL_law_543 : decode cL_law 543 = .ok (.aload_n 0, 1) := by decide +kernel
theorem dL_law_544 : decode cL_law 544 = .ok (.iload_n 3, 1) := by decide +kernel
theorem dL_law_545 : decode cL_law 545 = .ok (.iconst 1, 1) := by decide +kernel
theorem dL_law_546 : decode cL_law 546 = .ok (.iadd, 1) := by decide +kernel
theorem dL_law_547 : decode cL_law 547 = .ok (.iaload, 1) := by decide +kernel
theorem dL_law_548 : decode cL_law 548 = .ok (.invokevirtual 75, 3) := by decide +kernel
theorem dL_law_551 : decode cL_law 551 = .ok (.aload_n 2, 1) := by decide +kernel
theorem dL_law_552 : decode cL_law 552 = .ok (.aload_n 0, 1) := by decide +kernel
theorem dL_law_553 : decode cL_law 553 = .ok (.iload_n 3, 1) := by decide +kernel
theorem dL_law_554 : decode cL_law 554 = .ok (.iconst 1, 1) := by decide +kernel
theorem dL_law_555 : decode cL_law 555 = .ok (.iadd, 1) := by decide +kernel
theorem dL_law_556 : decode cL_law 556 = .ok (.iaload, 1) := by decide +kernel
theorem dL_law_557 : decode cL_law 557 = .ok (.invokevirtual 78, 3) := by decide +kernel
theorem dL_law_560 : decode cL_law 560 = .ok (.if_icmp .eq 591, 3) := by decide +kernel
theorem dL_law_563 : decode cL_law 563 = .ok (.iconst 0, 1) := by decide +kernel
theorem dL_law_564 : decode cL_law 564 = .ok (.ireturn, 1) := by decide +kernel
theorem dL_law_565 : decode cL_law 565 = .ok (.aload_n 1, 1) := by decide +kernel
theorem dL_law_566 : decode cL_law 566 = .ok (.aload_n 0, 1) := by decide +kernel
theorem dL_law_567 : decode cL_law 567 = .ok (.iload_n 3, 1) := by decide +kernel
theorem dL_law_568 : decode cL_law 568 = .ok (.iconst 1, 1) := by decide +kernel
theorem dL_law_569 : decode cL_law 569 = .ok (.iadd, 1) := by decide +kernel
theorem dL_law_570 : decode cL_law 570 = .ok (.iaload, 1) := by decide +kernel
theorem dL_law_571 : decode cL_law 571 = .ok (.aload_n 0, 1) := by decide +kernel
theorem dL_law_572 : decode cL_law 572 = .ok (.iload_n 3, 1) := by decide +kernel
theorem dL_law_573 : decode cL_law 573 = .ok (.iconst 2, 1) := by decide +kernel
theorem dL_law_574 : decode cL_law 574 = .ok (.iadd, 1) := by decide +kernel
theorem dL_law_575 : decode cL_law 575 = .ok (.iaload, 1) := by decide +kernel
theorem dL_law_576 : decode cL_law 576 = .ok (.invokevirtual 79, 3) := by decide +kernel
theorem dL_law_579 : decode cL_law 579 = .ok (.aload_n 2, 1) := by decide +kernel
theorem dL_law_580 : decode cL_law 580 = .ok (.aload_n 0, 1) := by decide +kernel
theorem dL_law_581 : decode cL_law 581 = .ok (.iload_n 3, 1) := by decide +kernel
theorem dL_law_582 : decode cL_law 582 = .ok (.iconst 1, 1) := by decide +kernel
theorem dL_law_583 : decode cL_law 583 = .ok (.iadd, 1) := by decide +kernel
theorem dL_law_584 : decode cL_law 584 = .ok (.iaload, 1) := by decide +kernel
theorem dL_law_585 : decode cL_law 585 = .ok (.aload_n 0, 1) := by decide +kernel
theorem dL_law_586 : decode cL_law 586 = .ok (.iload_n 3, 1) := by decide +kernel
theorem dL_law_587 : decode cL_law 587 = .ok (.iconst 2, 1) := by decide +kernel
theorem dL_law_588 : decode cL_law 588 = .ok (.iadd, 1) := by decide +kernel
theorem dL_law_589 : decode cL_law 589 = .ok (.iaload, 1) := by decide +kernel
theorem dL_law_590 : decode cL_law 590 = .ok (.invokevirtual 82, 3) := by decide +kernel
theorem dL_law_593 : decode cL_law 593 = .ok (.if_icmp .eq 558, 3) := by decide +kernel
theorem dL_law_596 : decode cL_law 596 = .ok (.iconst 0, 1) := by decide +kernel
theorem dL_law_597 : decode cL_law 597 = .ok (.ireturn, 1) := by decide +kernel
theorem dL_law_598 : decode cL_law 598 = .ok (.aload_n 1, 1) := by decide +kernel
theorem dL_law_599 : decode cL_law 599 = .ok (.aload_n 0, 1) := by decide +kernel
theorem dL_law_600 : decode cL_law 600 = .ok (.iload_n 3, 1) := by decide +kernel
theorem dL_law_601 : decode cL_law 601 = .ok (.iconst 1, 1) := by decide +kernel
theorem dL_law_602 : decode cL_law 602 = .ok (.iadd, 1) := by decide +kernel
theorem dL_law_603 : decode cL_law 603 = .ok (.iaload, 1) := by decide +kernel
theorem dL_law_604 : decode cL_law 604 = .ok (.aload_n 0, 1) := by decide +kernel
theorem dL_law_605 : decode cL_law 605 = .ok (.iload_n 3, 1) := by decide +kernel
theorem dL_law_606 : decode cL_law 606 = .ok (.iconst 2, 1) := by decide +kernel
theorem dL_law_607 : decode cL_law 607 = .ok (.iadd, 1) := by decide +kernel
theorem dL_law_608 : decode cL_law 608 = .ok (.iaload, 1) := by decide +kernel
theorem dL_law_609 : decode cL_law 609 = .ok (.ifCond .eq 7, 3) := by decide +kernel
theorem dL_law_612 : decode cL_law 612 = .ok (.iconst 1, 1) := by decide +kernel
theorem dL_law_613 : decode cL_law 613 = .ok (.goto 4, 3) := by decide +kernel
theorem dL_law_616 : decode cL_law 616 = .ok (.iconst 0, 1) := by decide +kernel
theorem dL_law_617 : decode cL_law 617 = .ok (.invokevirtual 83, 3) := by decide +kernel
theorem dL_law_620 : decode cL_law 620 = .ok (.aload_n 2, 1) := by decide +kernel
theorem dL_law_621 : decode cL_law 621 = .ok (.aload_n 0, 1) := by decide +kernel
theorem dL_law_622 : decode cL_law 622 = .ok (.iload_n 3, 1) := by decide +kernel
theorem dL_law_623 : decode cL_law 623 = .ok (.iconst 1, 1) := by decide +kernel
theorem dL_law_624 : decode cL_law 624 = .ok (.iadd, 1) := by decide +kernel
theorem dL_law_625 : decode cL_law 625 = .ok (.iaload, 1) := by decide +kernel
theorem dL_law_626 : decode cL_law 626 = .ok (.aload_n 0, 1) := by decide +kernel
theorem dL_law_627 : decode cL_law 627 = .ok (.iload_n 3, 1) := by decide +kernel
theorem dL_law_628 : decode cL_law 628 = .ok (.iconst 2, 1) := by decide +kernel
theorem dL_law_629 : decode cL_law 629 = .ok (.iadd, 1) := by decide +kernel
theorem dL_law_630 : decode cL_law 630 = .ok (.iaload, 1) := by decide +kernel
theorem dL_law_631 : decode cL_law 631 = .ok (.ifCond .eq 7, 3) := by decide +kernel
theorem dL_law_634 : decode cL_law 634 = .ok (.iconst 1, 1) := by decide +kernel
theorem dL_law_635 : decode cL_law 635 = .ok (.goto 4, 3) := by decide +kernel
theorem dL_law_638 : decode cL_law 638 = .ok (.iconst 0, 1) := by decide +kernel
theorem dL_law_639 : decode cL_law 639 = .ok (.invokevirtual 87, 3) := by decide +kernel
theorem dL_law_642 : decode cL_law 642 = .ok (.if_icmp .eq 509, 3) := by decide +kernel
theorem dL_law_645 : decode cL_law 645 = .ok (.iconst 0, 1) := by decide +kernel
theorem dL_law_646 : decode cL_law 646 = .ok (.ireturn, 1) := by decide +kernel
theorem dL_law_647 : decode cL_law 647 = .ok (.aload_n 1, 1) := by decide +kernel
theorem dL_law_648 : decode cL_law 648 = .ok (.invokevirtual 88, 3) := by decide +kernel
theorem dL_law_651 : decode cL_law 651 = .ok (.aload_n 2, 1) := by decide +kernel
theorem dL_law_652 : decode cL_law 652 = .ok (.invokevirtual 91, 3) := by decide +kernel
theorem dL_law_655 : decode cL_law 655 = .ok (.if_icmp .eq 496, 3) := by decide +kernel
theorem dL_law_658 : decode cL_law 658 = .ok (.iconst 0, 1) := by decide +kernel
theorem dL_law_659 : decode cL_law 659 = .ok (.ireturn, 1) := by decide +kernel
theorem dL_law_660 : decode cL_law 660 = .ok (.aload_n 1, 1) := by decide +kernel
theorem dL_law_661 : decode cL_law 661 = .ok (.aload_n 0, 1) := by decide +kernel
theorem dL_law_662 : decode cL_law 662 = .ok (.iload_n 3, 1) := by decide +kernel
theorem dL_law_663 : decode cL_law 663 = .ok (.iconst 1, 1) := by decide +kernel
theorem dL_law_664 : decode cL_law 664 = .ok (.iadd, 1) := by decide +kernel
theorem dL_law_665 : decode cL_law 665 = .ok (.iaload, 1) := by decide +kernel
theorem dL_law_666 : decode cL_law 666 = .ok (.invokevirtual 92, 3) := by decide +kernel
theorem dL_law_669 : decode cL_law 669 = .ok (.aload_n 2, 1) := by decide +kernel
theorem dL_law_670 : decode cL_law 670 = .ok (.aload_n 0, 1) := by decide +kernel
theorem dL_law_671 : decode cL_law 671 = .ok (.iload_n 3, 1) := by decide +kernel
theorem dL_law_672 : decode cL_law 672 = .ok (.iconst 1, 1) := by decide +kernel
theorem dL_law_673 : decode cL_law 673 = .ok (.iadd, 1) := by decide +kernel
theorem dL_law_674 : decode cL_law 674 = .ok (.iaload, 1) := by decide +kernel
theorem dL_law_675 : decode cL_law 675 = .ok (.invokevirtual 96, 3) := by decide +kernel
theorem dL_law_678 : decode cL_law 678 = .ok (.lcmp, 1) := by decide +kernel
theorem dL_law_679 : decode cL_law 679 = .ok (.ifCond .eq 472, 3) := by decide +kernel
theorem dL_law_682 : decode cL_law 682 = .ok (.iconst 0, 1) := by decide +kernel
theorem dL_law_683 : decode cL_law 683 = .ok (.ireturn, 1) := by decide +kernel
theorem dL_law_684 : decode cL_law 684 = .ok (.aload_n 1, 1) := by decide +kernel
theorem dL_law_685 : decode cL_law 685 = .ok (.invokevirtual 97, 3) := by decide +kernel
theorem dL_law_688 : decode cL_law 688 = .ok (.aload_n 2, 1) := by decide +kernel
theorem dL_law_689 : decode cL_law 689 = .ok (.invokevirtual 100, 3) := by decide +kernel
theorem dL_law_692 : decode cL_law 692 = .ok (.if_icmp .eq 459, 3) := by decide +kernel
theorem dL_law_695 : decode cL_law 695 = .ok (.iconst 0, 1) := by decide +kernel
theorem dL_law_696 : decode cL_law 696 = .ok (.ireturn, 1) := by decide +kernel
theorem dL_law_697 : decode cL_law 697 = .ok (.aload_n 1, 1) := by decide +kernel
theorem dL_law_698 : decode cL_law 698 = .ok (.aload_n 0, 1) := by decide +kernel
theorem dL_law_699 : decode cL_law 699 = .ok (.iload_n 3, 1) := by decide +kernel
theorem dL_law_700 : decode cL_law 700 = .ok (.iconst 1, 1) := by decide +kernel
theorem dL_law_701 : decode cL_law 701 = .ok (.iadd, 1) := by decide +kernel
theorem dL_law_702 : decode cL_law 702 = .ok (.iaload, 1) := by decide +kernel
theorem dL_law_703 : decode cL_law 703 = .ok (.invokevirtual 101, 3) := by decide +kernel
theorem dL_law_706 : decode cL_law 706 = .ok (.aload_n 2, 1) := by decide +kernel
theorem dL_law_707 : decode cL_law 707 = .ok (.aload_n 0, 1) := by decide +kernel
theorem dL_law_708 : decode cL_law 708 = .ok (.iload_n 3, 1) := by decide +kernel
theorem dL_law_709 : decode cL_law 709 = .ok (.iconst 1, 1) := by decide +kernel
theorem dL_law_710 : decode cL_law 710 = .ok (.iadd, 1) := by decide +kernel
theorem dL_law_711 : decode cL_law 711 = .ok (.iaload, 1) := by decide +kernel
theorem dL_law_712 : decode cL_law 712 = .ok (.invokevirtual 104, 3) := by decide +kernel
theorem dL_law_715 : decode cL_law 715 = .ok (.if_icmp .eq 436, 3) := by decide +kernel
theorem dL_law_718 : decode cL_law 718 = .ok (.iconst 0, 1) := by decide +kernel
theorem dL_law_719 : decode cL_law 719 = .ok (.ireturn, 1) := by decide +kernel
theorem dL_law_720 : decode cL_law 720 = .ok (.aload_n 1, 1) := by decide +kernel
theorem dL_law_721 : decode cL_law 721 = .ok (.aload_n 0, 1) := by decide +kernel
theorem dL_law_722 : decode cL_law 722 = .ok (.iload_n 3, 1) := by decide +kernel
theorem dL_law_723 : decode cL_law 723 = .ok (.iconst 1, 1) := by decide +kernel
theorem dL_law_724 : decode cL_law 724 = .ok (.iadd, 1) := by decide +kernel
theorem dL_law_725 : decode cL_law 725 = .ok (.iaload, 1) := by decide +kernel
theorem dL_law_726 : decode cL_law 726 = .ok (.invokevirtual 105, 3) := by decide +kernel
theorem dL_law_729 : decode cL_law 729 = .ok (.aload_n 2, 1) := by decide +kernel
theorem dL_law_730 : decode cL_law 730 = .ok (.aload_n 0, 1) := by decide +kernel
theorem dL_law_731 : decode cL_law 731 = .ok (.iload_n 3, 1) := by decide +kernel
theorem dL_law_732 : decode cL_law 732 = .ok (.iconst 1, 1) := by decide +kernel
theorem dL_law_733 : decode cL_law 733 = .ok (.iadd, 1) := by decide +kernel
theorem dL_law_734 : decode cL_law 734 = .ok (.iaload, 1) := by decide +kernel
theorem dL_law_735 : decode cL_law 735 = .ok (.invokevirtual 108, 3) := by decide +kernel
theorem dL_law_738 : decode cL_law 738 = .ok (.if_icmp .eq 413, 3) := by decide +kernel
theorem dL_law_741 : decode cL_law 741 = .ok (.iconst 0, 1) := by decide +kernel
theorem dL_law_742 : decode cL_law 742 = .ok (.ireturn, 1) := by decide +kernel
theorem dL_law_743 : decode cL_law 743 = .ok (.aload_n 1, 1) := by decide +kernel
theorem dL_law_744 : decode cL_law 744 = .ok (.aload_n 0, 1) := by decide +kernel
theorem dL_law_745 : decode cL_law 745 = .ok (.iload_n 3, 1) := by decide +kernel
theorem dL_law_746 : decode cL_law 746 = .ok (.iconst 1, 1) := by decide +kernel
theorem dL_law_747 : decode cL_law 747 = .ok (.iadd, 1) := by decide +kernel
theorem dL_law_748 : decode cL_law 748 = .ok (.iaload, 1) := by decide +kernel
theorem dL_law_749 : decode cL_law 749 = .ok (.aload_n 0, 1) := by decide +kernel
theorem dL_law_750 : decode cL_law 750 = .ok (.iload_n 3, 1) := by decide +kernel
theorem dL_law_751 : decode cL_law 751 = .ok (.iconst 2, 1) := by decide +kernel
theorem dL_law_752 : decode cL_law 752 = .ok (.iadd, 1) := by decide +kernel
theorem dL_law_753 : decode cL_law 753 = .ok (.iaload, 1) := by decide +kernel
theorem dL_law_754 : decode cL_law 754 = .ok (.invokevirtual 109, 3) := by decide +kernel
theorem dL_law_757 : decode cL_law 757 = .ok (.aload_n 2, 1) := by decide +kernel
theorem dL_law_758 : decode cL_law 758 = .ok (.aload_n 0, 1) := by decide +kernel
theorem dL_law_759 : decode cL_law 759 = .ok (.iload_n 3, 1) := by decide +kernel
theorem dL_law_760 : decode cL_law 760 = .ok (.iconst 1, 1) := by decide +kernel
theorem dL_law_761 : decode cL_law 761 = .ok (.iadd, 1) := by decide +kernel
theorem dL_law_762 : decode cL_law 762 = .ok (.iaload, 1) := by decide +kernel
theorem dL_law_763 : decode cL_law 763 = .ok (.aload_n 0, 1) := by decide +kernel
theorem dL_law_764 : decode cL_law 764 = .ok (.iload_n 3, 1) := by decide +kernel
theorem dL_law_765 : decode cL_law 765 = .ok (.iconst 2, 1) := by decide +kernel
theorem dL_law_766 : decode cL_law 766 = .ok (.iadd, 1) := by decide +kernel
theorem dL_law_767 : decode cL_law 767 = .ok (.iaload, 1) := by decide +kernel
theorem dL_law_768 : decode cL_law 768 = .ok (.invokevirtual 112, 3) := by decide +kernel
theorem dL_law_771 : decode cL_law 771 = .ok (.if_icmp .eq 380, 3) := by decide +kernel
theorem dL_law_774 : decode cL_law 774 = .ok (.iconst 0, 1) := by decide +kernel
theorem dL_law_775 : decode cL_law 775 = .ok (.ireturn, 1) := by decide +kernel
theorem dL_law_776 : decode cL_law 776 = .ok (.aload_n 1, 1) := by decide +kernel
theorem dL_law_777 : decode cL_law 777 = .ok (.aload_n 0, 1) := by decide +kernel
theorem dL_law_778 : decode cL_law 778 = .ok (.iload_n 3, 1) := by decide +kernel
theorem dL_law_779 : decode cL_law 779 = .ok (.iconst 1, 1) := by decide +kernel
theorem dL_law_780 : decode cL_law 780 = .ok (.iadd, 1) := by decide +kernel
theorem dL_law_781 : decode cL_law 781 = .ok (.iaload, 1) := by decide +kernel
theorem dL_law_782 : decode cL_law 782 = .ok (.aload_n 0, 1) := by decide +kernel
theorem dL_law_783 : decode cL_law 783 = .ok (.iload_n 3, 1) := by decide +kernel
theorem dL_law_784 : decode cL_law 784 = .ok (.iconst 2, 1) := by decide +kernel
theorem dL_law_785 : decode cL_law 785 = .ok (.iadd, 1) := by decide +kernel
theorem dL_law_786 : decode cL_law 786 = .ok (.iaload, 1) := by decide +kernel
theorem dL_law_787 : decode cL_law 787 = .ok (.aload_n 0, 1) := by decide +kernel
theorem dL_law_788 : decode cL_law 788 = .ok (.iload_n 3, 1) := by decide +kernel
theorem dL_law_789 : decode cL_law 789 = .ok (.iconst 3, 1) := by decide +kernel
theorem dL_law_790 : decode cL_law 790 = .ok (.iadd, 1) := by decide +kernel
theorem dL_law_791 : decode cL_law 791 = .ok (.iaload, 1) := by decide +kernel
theorem dL_law_792 : decode cL_law 792 = .ok (.invokevirtual 113, 3) := by decide +kernel
theorem dL_law_795 : decode cL_law 795 = .ok (.aload_n 2, 1) := by decide +kernel
theorem dL_law_796 : decode cL_law 796 = .ok (.aload_n 0, 1) := by decide +kernel
theorem dL_law_797 : decode cL_law 797 = .ok (.iload_n 3, 1) := by decide +kernel
theorem dL_law_798 : decode cL_law 798 = .ok (.iconst 1, 1) := by decide +kernel
theorem dL_law_799 : decode cL_law 799 = .ok (.iadd, 1) := by decide +kernel
theorem dL_law_800 : decode cL_law 800 = .ok (.iaload, 1) := by decide +kernel
theorem dL_law_801 : decode cL_law 801 = .ok (.aload_n 0, 1) := by decide +kernel
theorem dL_law_802 : decode cL_law 802 = .ok (.iload_n 3, 1) := by decide +kernel
theorem dL_law_803 : decode cL_law 803 = .ok (.iconst 2, 1) := by decide +kernel
theorem dL_law_804 : decode cL_law 804 = .ok (.iadd, 1) := by decide +kernel
theorem dL_law_805 : decode cL_law 805 = .ok (.iaload, 1) := by decide +kernel
theorem dL_law_806 : decode cL_law 806 = .ok (.aload_n 0, 1) := by decide +kernel
theorem dL_law_807 : decode cL_law 807 = .ok (.iload_n 3, 1) := by decide +kernel
theorem dL_law_808 : decode cL_law 808 = .ok (.iconst 3, 1) := by decide +kernel
theorem dL_law_809 : decode cL_law 809 = .ok (.iadd, 1) := by decide +kernel
theorem dL_law_810 : decode cL_law 810 = .ok (.iaload, 1) := by decide +kernel
theorem dL_law_811 : decode cL_law 811 = .ok (.invokevirtual 117, 3) := by decide +kernel
theorem dL_law_814 : decode cL_law 814 = .ok (.if_icmp .eq 337, 3) := by decide +kernel
theorem dL_law_817 : decode cL_law 817 = .ok (.iconst 0, 1) := by decide +kernel
theorem dL_law_818 : decode cL_law 818 = .ok (.ireturn, 1) := by decide +kernel
theorem dL_law_819 : decode cL_law 819 = .ok (.aload_n 1, 1) := by decide +kernel
theorem dL_law_820 : decode cL_law 820 = .ok (.aload_n 0, 1) := by decide +kernel
theorem dL_law_821 : decode cL_law 821 = .ok (.iload_n 3, 1) := by decide +kernel
theorem dL_law_822 : decode cL_law 822 = .ok (.iconst 1, 1) := by decide +kernel
theorem dL_law_823 : decode cL_law 823 = .ok (.iadd, 1) := by decide +kernel
theorem dL_law_824 : decode cL_law 824 = .ok (.iaload, 1) := by decide +kernel
theorem dL_law_825 : decode cL_law 825 = .ok (.invokevirtual 118, 3) := by decide +kernel
theorem dL_law_828 : decode cL_law 828 = .ok (.aload_n 2, 1) := by decide +kernel
theorem dL_law_829 : decode cL_law 829 = .ok (.aload_n 0, 1) := by decide +kernel
theorem dL_law_830 : decode cL_law 830 = .ok (.iload_n 3, 1) := by decide +kernel
theorem dL_law_831 : decode cL_law 831 = .ok (.iconst 1, 1) := by decide +kernel
theorem dL_law_832 : decode cL_law 832 = .ok (.iadd, 1) := by decide +kernel
theorem dL_law_833 : decode cL_law 833 = .ok (.iaload, 1) := by decide +kernel
theorem dL_law_834 : decode cL_law 834 = .ok (.invokevirtual 121, 3) := by decide +kernel
theorem dL_law_837 : decode cL_law 837 = .ok (.if_icmp .eq 314, 3) := by decide +kernel
theorem dL_law_840 : decode cL_law 840 = .ok (.iconst 0, 1) := by decide +kernel
theorem dL_law_841 : decode cL_law 841 = .ok (.ireturn, 1) := by decide +kernel
theorem dL_law_842 : decode cL_law 842 = .ok (.aload_n 1, 1) := by decide +kernel
theorem dL_law_843 : decode cL_law 843 = .ok (.aload_n 0, 1) := by decide +kernel
theorem dL_law_844 : decode cL_law 844 = .ok (.iload_n 3, 1) := by decide +kernel
theorem dL_law_845 : decode cL_law 845 = .ok (.iconst 1, 1) := by decide +kernel
theorem dL_law_846 : decode cL_law 846 = .ok (.iadd, 1) := by decide +kernel
theorem dL_law_847 : decode cL_law 847 = .ok (.iaload, 1) := by decide +kernel
theorem dL_law_848 : decode cL_law 848 = .ok (.invokevirtual 122, 3) := by decide +kernel
theorem dL_law_851 : decode cL_law 851 = .ok (.aload_n 2, 1) := by decide +kernel
theorem dL_law_852 : decode cL_law 852 = .ok (.aload_n 0, 1) := by decide +kernel
theorem dL_law_853 : decode cL_law 853 = .ok (.iload_n 3, 1) := by decide +kernel
theorem dL_law_854 : decode cL_law 854 = .ok (.iconst 1, 1) := by decide +kernel
theorem dL_law_855 : decode cL_law 855 = .ok (.iadd, 1) := by decide +kernel
theorem dL_law_856 : decode cL_law 856 = .ok (.iaload, 1) := by decide +kernel
theorem dL_law_857 : decode cL_law 857 = .ok (.invokevirtual 125, 3) := by decide +kernel
theorem dL_law_860 : decode cL_law 860 = .ok (.if_icmp .eq 291, 3) := by decide +kernel
theorem dL_law_863 : decode cL_law 863 = .ok (.iconst 0, 1) := by decide +kernel
theorem dL_law_864 : decode cL_law 864 = .ok (.ireturn, 1) := by decide +kernel
theorem dL_law_865 : decode cL_law 865 = .ok (.aload_n 1, 1) := by decide +kernel
theorem dL_law_866 : decode cL_law 866 = .ok (.aload_n 0, 1) := by decide +kernel
theorem dL_law_867 : decode cL_law 867 = .ok (.iload_n 3, 1) := by decide +kernel
theorem dL_law_868 : decode cL_law 868 = .ok (.iconst 1, 1) := by decide +kernel
theorem dL_law_869 : decode cL_law 869 = .ok (.iadd, 1) := by decide +kernel
theorem dL_law_870 : decode cL_law 870 = .ok (.iaload, 1) := by decide +kernel
theorem dL_law_871 : decode cL_law 871 = .ok (.aload_n 0, 1) := by decide +kernel
theorem dL_law_872 : decode cL_law 872 = .ok (.iload_n 3, 1) := by decide +kernel
theorem dL_law_873 : decode cL_law 873 = .ok (.iconst 2, 1) := by decide +kernel
theorem dL_law_874 : decode cL_law 874 = .ok (.iadd, 1) := by decide +kernel
theorem dL_law_875 : decode cL_law 875 = .ok (.iaload, 1) := by decide +kernel
theorem dL_law_876 : decode cL_law 876 = .ok (.invokevirtual 126, 3) := by decide +kernel
theorem dL_law_879 : decode cL_law 879 = .ok (.aload_n 2, 1) := by decide +kernel
theorem dL_law_880 : decode cL_law 880 = .ok (.aload_n 0, 1) := by decide +kernel
theorem dL_law_881 : decode cL_law 881 = .ok (.iload_n 3, 1) := by decide +kernel
theorem dL_law_882 : decode cL_law 882 = .ok (.iconst 1, 1) := by decide +kernel
theorem dL_law_883 : decode cL_law 883 = .ok (.iadd, 1) := by decide +kernel
theorem dL_law_884 : decode cL_law 884 = .ok (.iaload, 1) := by decide +kernel
theorem dL_law_885 : decode cL_law 885 = .ok (.aload_n 0, 1) := by decide +kernel
theorem dL_law_886 : decode cL_law 886 = .ok (.iload_n 3, 1) := by decide +kernel
theorem dL_law_887 : decode cL_law 887 = .ok (.iconst 2, 1) := by decide +kernel
theorem dL_law_888 : decode cL_law 888 = .ok (.iadd, 1) := by decide +kernel
theorem dL_law_889 : decode cL_law 889 = .ok (.iaload, 1) := by decide +kernel
theorem dL_law_890 : decode cL_law 890 = .ok (.invokevirtual 129, 3) := by decide +kernel
theorem dL_law_893 : decode cL_law 893 = .ok (.if_icmp .eq 258, 3) := by decide +kernel
theorem dL_law_896 : decode cL_law 896 = .ok (.iconst 0, 1) := by decide +kernel
theorem dL_law_897 : decode cL_law 897 = .ok (.ireturn, 1) := by decide +kernel
theorem dL_law_898 : decode cL_law 898 = .ok (.aload_n 1, 1) := by decide +kernel
theorem dL_law_899 : decode cL_law 899 = .ok (.aload_n 0, 1) := by decide +kernel
theorem dL_law_900 : decode cL_law 900 = .ok (.iload_n 3, 1) := by decide +kernel
theorem dL_law_901 : decode cL_law 901 = .ok (.iconst 1, 1) := by decide +kernel
theorem dL_law_902 : decode cL_law 902 = .ok (.iadd, 1) := by decide +kernel
theorem dL_law_903 : decode cL_law 903 = .ok (.iaload, 1) := by decide +kernel
theorem dL_law_904 : decode cL_law 904 = .ok (.invokevirtual 130, 3) := by decide +kernel
theorem dL_law_907 : decode cL_law 907 = .ok (.aload_n 2, 1) := by decide +kernel
theorem dL_law_908 : decode cL_law 908 = .ok (.aload_n 0, 1) := by decide +kernel
theorem dL_law_909 : decode cL_law 909 = .ok (.iload_n 3, 1) := by decide +kernel
theorem dL_law_910 : decode cL_law 910 = .ok (.iconst 1, 1) := by decide +kernel
theorem dL_law_911 : decode cL_law 911 = .ok (.iadd, 1) := by decide +kernel
theorem dL_law_912 : decode cL_law 912 = .ok (.iaload, 1) := by decide +kernel
theorem dL_law_913 : decode cL_law 913 = .ok (.invokevirtual 133, 3) := by decide +kernel
theorem dL_law_916 : decode cL_law 916 = .ok (.if_icmp .eq 235, 3) := by decide +kernel
theorem dL_law_919 : decode cL_law 919 = .ok (.iconst 0, 1) := by decide +kernel
theorem dL_law_920 : decode cL_law 920 = .ok (.ireturn, 1) := by decide +kernel
theorem dL_law_921 : decode cL_law 921 = .ok (.aload_n 1, 1) := by decide +kernel
theorem dL_law_922 : decode cL_law 922 = .ok (.aload_n 0, 1) := by decide +kernel
theorem dL_law_923 : decode cL_law 923 = .ok (.iload_n 3, 1) := by decide +kernel
theorem dL_law_924 : decode cL_law 924 = .ok (.iconst 1, 1) := by decide +kernel
theorem dL_law_925 : decode cL_law 925 = .ok (.iadd, 1) := by decide +kernel
theorem dL_law_926 : decode cL_law 926 = .ok (.iaload, 1) := by decide +kernel
theorem dL_law_927 : decode cL_law 927 = .ok (.invokevirtual 134, 3) := by decide +kernel
theorem dL_law_930 : decode cL_law 930 = .ok (.aload_n 2, 1) := by decide +kernel
theorem dL_law_931 : decode cL_law 931 = .ok (.aload_n 0, 1) := by decide +kernel
theorem dL_law_932 : decode cL_law 932 = .ok (.iload_n 3, 1) := by decide +kernel
theorem dL_law_933 : decode cL_law 933 = .ok (.iconst 1, 1) := by decide +kernel
theorem dL_law_934 : decode cL_law 934 = .ok (.iadd, 1) := by decide +kernel
theorem dL_law_935 : decode cL_law 935 = .ok (.iaload, 1) := by decide +kernel
theorem dL_law_936 : decode cL_law 936 = .ok (.invokevirtual 137, 3) := by decide +kernel
theorem dL_law_939 : decode cL_law 939 = .ok (.if_icmp .eq 212, 3) := by decide +kernel
theorem dL_law_942 : decode cL_law 942 = .ok (.iconst 0, 1) := by decide +kernel
theorem dL_law_943 : decode cL_law 943 = .ok (.ireturn, 1) := by decide +kernel
theorem dL_law_944 : decode cL_law 944 = .ok (.aload_n 1, 1) := by decide +kernel
theorem dL_law_945 : decode cL_law 945 = .ok (.invokevirtual 138, 3) := by decide +kernel
theorem dL_law_948 : decode cL_law 948 = .ok (.aload_n 2, 1) := by decide +kernel
theorem dL_law_949 : decode cL_law 949 = .ok (.invokevirtual 141, 3) := by decide +kernel
theorem dL_law_952 : decode cL_law 952 = .ok (.if_icmp .eq 199, 3) := by decide +kernel
theorem dL_law_955 : decode cL_law 955 = .ok (.iconst 0, 1) := by decide +kernel
theorem dL_law_956 : decode cL_law 956 = .ok (.ireturn, 1) := by decide +kernel
theorem dL_law_957 : decode cL_law 957 = .ok (.aload_n 1, 1) := by decide +kernel
theorem dL_law_958 : decode cL_law 958 = .ok (.aload_n 0, 1) := by decide +kernel
theorem dL_law_959 : decode cL_law 959 = .ok (.iload_n 3, 1) := by decide +kernel
theorem dL_law_960 : decode cL_law 960 = .ok (.iconst 1, 1) := by decide +kernel
theorem dL_law_961 : decode cL_law 961 = .ok (.iadd, 1) := by decide +kernel
theorem dL_law_962 : decode cL_law 962 = .ok (.iaload, 1) := by decide +kernel
theorem dL_law_963 : decode cL_law 963 = .ok (.invokevirtual 142, 3) := by decide +kernel
theorem dL_law_966 : decode cL_law 966 = .ok (.aload_n 2, 1) := by decide +kernel
theorem dL_law_967 : decode cL_law 967 = .ok (.aload_n 0, 1) := by decide +kernel
theorem dL_law_968 : decode cL_law 968 = .ok (.iload_n 3, 1) := by decide +kernel
theorem dL_law_969 : decode cL_law 969 = .ok (.iconst 1, 1) := by decide +kernel
theorem dL_law_970 : decode cL_law 970 = .ok (.iadd, 1) := by decide +kernel
theorem dL_law_971 : decode cL_law 971 = .ok (.iaload, 1) := by decide +kernel
theorem dL_law_972 : decode cL_law 972 = .ok (.invokevirtual 145, 3) := by decide +kernel
theorem dL_law_975 : decode cL_law 975 = .ok (.if_icmp .eq 176, 3) := by decide +kernel
theorem dL_law_978 : decode cL_law 978 = .ok (.iconst 0, 1) := by decide +kernel
theorem dL_law_979 : decode cL_law 979 = .ok (.ireturn, 1) := by decide +kernel
theorem dL_law_980 : decode cL_law 980 = .ok (.aload_n 1, 1) := by decide +kernel
theorem dL_law_981 : decode cL_law 981 = .ok (.aload_n 0, 1) := by decide +kernel
theorem dL_law_982 : decode cL_law 982 = .ok (.iload_n 3, 1) := by decide +kernel
theorem dL_law_983 : decode cL_law 983 = .ok (.iconst 1, 1) := by decide +kernel
theorem dL_law_984 : decode cL_law 984 = .ok (.iadd, 1) := by decide +kernel
theorem dL_law_985 : decode cL_law 985 = .ok (.iaload, 1) := by decide +kernel
theorem dL_law_986 : decode cL_law 986 = .ok (.aload_n 0, 1) := by decide +kernel
theorem dL_law_987 : decode cL_law 987 = .ok (.iload_n 3, 1) := by decide +kernel
theorem dL_law_988 : decode cL_law 988 = .ok (.iconst 2, 1) := by decide +kernel
theorem dL_law_989 : decode cL_law 989 = .ok (.iadd, 1) := by decide +kernel
theorem dL_law_990 : decode cL_law 990 = .ok (.iaload, 1) := by decide +kernel
theorem dL_law_991 : decode cL_law 991 = .ok (.aload_n 0, 1) := by decide +kernel
theorem dL_law_992 : decode cL_law 992 = .ok (.iload_n 3, 1) := by decide +kernel
theorem dL_law_993 : decode cL_law 993 = .ok (.iconst 3, 1) := by decide +kernel
theorem dL_law_994 : decode cL_law 994 = .ok (.iadd, 1) := by decide +kernel
theorem dL_law_995 : decode cL_law 995 = .ok (.iaload, 1) := by decide +kernel
theorem dL_law_996 : decode cL_law 996 = .ok (.aload_n 0, 1) := by decide +kernel
theorem dL_law_997 : decode cL_law 997 = .ok (.iload_n 3, 1) := by decide +kernel
theorem dL_law_998 : decode cL_law 998 = .ok (.iconst 4, 1) := by decide +kernel
theorem dL_law_999 : decode cL_law 999 = .ok (.iadd, 1) := by decide +kernel
theorem dL_law_1000 : decode cL_law 1000 = .ok (.iaload, 1) := by decide +kernel
theorem dL_law_1001 : decode cL_law 1001 = .ok (.invokevirtual 146, 3) := by decide +kernel
theorem dL_law_1004 : decode cL_law 1004 = .ok (.aload_n 2, 1) := by decide +kernel
theorem dL_law_1005 : decode cL_law 1005 = .ok (.aload_n 0, 1) := by decide +kernel
theorem dL_law_1006 : decode cL_law 1006 = .ok (.iload_n 3, 1) := by decide +kernel
theorem dL_law_1007 : decode cL_law 1007 = .ok (.iconst 1, 1) := by decide +kernel
theorem dL_law_1008 : decode cL_law 1008 = .ok (.iadd, 1) := by decide +kernel
theorem dL_law_1009 : decode cL_law 1009 = .ok (.iaload, 1) := by decide +kernel
theorem dL_law_1010 : decode cL_law 1010 = .ok (.aload_n 0, 1) := by decide +kernel
theorem dL_law_1011 : decode cL_law 1011 = .ok (.iload_n 3, 1) := by decide +kernel
theorem dL_law_1012 : decode cL_law 1012 = .ok (.iconst 2, 1) := by decide +kernel
theorem dL_law_1013 : decode cL_law 1013 = .ok (.iadd, 1) := by decide +kernel
theorem dL_law_1014 : decode cL_law 1014 = .ok (.iaload, 1) := by decide +kernel
theorem dL_law_1015 : decode cL_law 1015 = .ok (.aload_n 0, 1) := by decide +kernel
theorem dL_law_1016 : decode cL_law 1016 = .ok (.iload_n 3, 1) := by decide +kernel
theorem dL_law_1017 : decode cL_law 1017 = .ok (.iconst 3, 1) := by decide +kernel
theorem dL_law_1018 : decode cL_law 1018 = .ok (.iadd, 1) := by decide +kernel
theorem dL_law_1019 : decode cL_law 1019 = .ok (.iaload, 1) := by decide +kernel
theorem dL_law_1020 : decode cL_law 1020 = .ok (.aload_n 0, 1) := by decide +kernel
theorem dL_law_1021 : decode cL_law 1021 = .ok (.iload_n 3, 1) := by decide +kernel
theorem dL_law_1022 : decode cL_law 1022 = .ok (.iconst 4, 1) := by decide +kernel
theorem dL_law_1023 : decode cL_law 1023 = .ok (.iadd, 1) := by decide +kernel
theorem dL_law_1024 : decode cL_law 1024 = .ok (.iaload, 1) := by decide +kernel
theorem dL_law_1025 : decode cL_law 1025 = .ok (.invokevirtual 150, 3) := by decide +kernel
theorem dL_law_1028 : decode cL_law 1028 = .ok (.if_icmp .eq 123, 3) := by decide +kernel
theorem dL_law_1031 : decode cL_law 1031 = .ok (.iconst 0, 1) := by decide +kernel
theorem dL_law_1032 : decode cL_law 1032 = .ok (.ireturn, 1) := by decide +kernel
theorem dL_law_1033 : decode cL_law 1033 = .ok (.aload_n 1, 1) := by decide +kernel
theorem dL_law_1034 : decode cL_law 1034 = .ok (.aload_n 0, 1) := by decide +kernel
theorem dL_law_1035 : decode cL_law 1035 = .ok (.iload_n 3, 1) := by decide +kernel
theorem dL_law_1036 : decode cL_law 1036 = .ok (.iconst 1, 1) := by decide +kernel
theorem dL_law_1037 : decode cL_law 1037 = .ok (.iadd, 1) := by decide +kernel
theorem dL_law_1038 : decode cL_law 1038 = .ok (.iaload, 1) := by decide +kernel
theorem dL_law_1039 : decode cL_law 1039 = .ok (.invokevirtual 151, 3) := by decide +kernel
theorem dL_law_1042 : decode cL_law 1042 = .ok (.aload_n 2, 1) := by decide +kernel
theorem dL_law_1043 : decode cL_law 1043 = .ok (.aload_n 0, 1) := by decide +kernel
theorem dL_law_1044 : decode cL_law 1044 = .ok (.iload_n 3, 1) := by decide +kernel
theorem dL_law_1045 : decode cL_law 1045 = .ok (.iconst 1, 1) := by decide +kernel
theorem dL_law_1046 : decode cL_law 1046 = .ok (.iadd, 1) := by decide +kernel
theorem dL_law_1047 : decode cL_law 1047 = .ok (.iaload, 1) := by decide +kernel
theorem dL_law_1048 : decode cL_law 1048 = .ok (.invokevirtual 154, 3) := by decide +kernel
theorem dL_law_1051 : decode cL_law 1051 = .ok (.if_icmp .eq 100, 3) := by decide +kernel
theorem dL_law_1054 : decode cL_law 1054 = .ok (.iconst 0, 1) := by decide +kernel
theorem dL_law_1055 : decode cL_law 1055 = .ok (.ireturn, 1) := by decide +kernel
theorem dL_law_1056 : decode cL_law 1056 = .ok (.aload_n 1, 1) := by decide +kernel
theorem dL_law_1057 : decode cL_law 1057 = .ok (.invokevirtual 155, 3) := by decide +kernel
theorem dL_law_1060 : decode cL_law 1060 = .ok (.aload_n 2, 1) := by decide +kernel
theorem dL_law_1061 : decode cL_law 1061 = .ok (.invokevirtual 158, 3) := by decide +kernel
theorem dL_law_1064 : decode cL_law 1064 = .ok (.if_icmp .eq 87, 3) := by decide +kernel
theorem dL_law_1067 : decode cL_law 1067 = .ok (.iconst 0, 1) := by decide +kernel
theorem dL_law_1068 : decode cL_law 1068 = .ok (.ireturn, 1) := by decide +kernel
theorem dL_law_1069 : decode cL_law 1069 = .ok (.aload_n 1, 1) := by decide +kernel
theorem dL_law_1070 : decode cL_law 1070 = .ok (.invokevirtual 159, 3) := by decide +kernel
theorem dL_law_1073 : decode cL_law 1073 = .ok (.aload_n 2, 1) := by decide +kernel
theorem dL_law_1074 : decode cL_law 1074 = .ok (.invokevirtual 162, 3) := by decide +kernel
theorem dL_law_1077 : decode cL_law 1077 = .ok (.if_icmp .eq 74, 3) := by decide +kernel
theorem dL_law_1080 : decode cL_law 1080 = .ok (.iconst 0, 1) := by decide +kernel
theorem dL_law_1081 : decode cL_law 1081 = .ok (.ireturn, 1) := by decide +kernel
theorem dL_law_1082 : decode cL_law 1082 = .ok (.aload_n 1, 1) := by decide +kernel
theorem dL_law_1083 : decode cL_law 1083 = .ok (.aload_n 0, 1) := by decide +kernel
theorem dL_law_1084 : decode cL_law 1084 = .ok (.iload_n 3, 1) := by decide +kernel
theorem dL_law_1085 : decode cL_law 1085 = .ok (.iconst 1, 1) := by decide +kernel
theorem dL_law_1086 : decode cL_law 1086 = .ok (.iadd, 1) := by decide +kernel
theorem dL_law_1087 : decode cL_law 1087 = .ok (.iaload, 1) := by decide +kernel
theorem dL_law_1088 : decode cL_law 1088 = .ok (.invokevirtual 163, 3) := by decide +kernel
theorem dL_law_1091 : decode cL_law 1091 = .ok (.aload_n 2, 1) := by decide +kernel
theorem dL_law_1092 : decode cL_law 1092 = .ok (.aload_n 0, 1) := by decide +kernel
theorem dL_law_1093 : decode cL_law 1093 = .ok (.iload_n 3, 1) := by decide +kernel
theorem dL_law_1094 : decode cL_law 1094 = .ok (.iconst 1, 1) := by decide +kernel
theorem dL_law_1095 : decode cL_law 1095 = .ok (.iadd, 1) := by decide +kernel
theorem dL_law_1096 : decode cL_law 1096 = .ok (.iaload, 1) := by decide +kernel
theorem dL_law_1097 : decode cL_law 1097 = .ok (.invokevirtual 166, 3) := by decide +kernel
theorem dL_law_1100 : decode cL_law 1100 = .ok (.if_icmp .eq 51, 3) := by decide +kernel
theorem dL_law_1103 : decode cL_law 1103 = .ok (.iconst 0, 1) := by decide +kernel
theorem dL_law_1104 : decode cL_law 1104 = .ok (.ireturn, 1) := by decide +kernel
theorem dL_law_1105 : decode cL_law 1105 = .ok (.aload_n 1, 1) := by decide +kernel
theorem dL_law_1106 : decode cL_law 1106 = .ok (.aload_n 0, 1) := by decide +kernel
theorem dL_law_1107 : decode cL_law 1107 = .ok (.iload_n 3, 1) := by decide +kernel
theorem dL_law_1108 : decode cL_law 1108 = .ok (.iconst 1, 1) := by decide +kernel
theorem dL_law_1109 : decode cL_law 1109 = .ok (.iadd, 1) := by decide +kernel
theorem dL_law_1110 : decode cL_law 1110 = .ok (.iaload, 1) := by decide +kernel
theorem dL_law_1111 : decode cL_law 1111 = .ok (.invokevirtual 167, 3) := by decide +kernel
theorem dL_law_1114 : decode cL_law 1114 = .ok (.aload_n 2, 1) := by decide +kernel
theorem dL_law_1115 : decode cL_law 1115 = .ok (.aload_n 0, 1) := by decide +kernel
theorem dL_law_1116 : decode cL_law 1116 = .ok (.iload_n 3, 1) := by decide +kernel
theorem dL_law_1117 : decode cL_law 1117 = .ok (.iconst 1, 1) := by decide +kernel
theorem dL_law_1118 : decode cL_law 1118 = .ok (.iadd, 1) := by decide +kernel
theorem dL_law_1119 : decode cL_law 1119 = .ok (.iaload, 1) := by decide +kernel
theorem dL_law_1120 : decode cL_law 1120 = .ok (.invokevirtual 170, 3) := by decide +kernel
theorem dL_law_1123 : decode cL_law 1123 = .ok (.if_icmp .eq 28, 3) := by decide +kernel
theorem dL_law_1126 : decode cL_law 1126 = .ok (.iconst 0, 1) := by decide +kernel
theorem dL_law_1127 : decode cL_law 1127 = .ok (.ireturn, 1) := by decide +kernel
theorem dL_law_1128 : decode cL_law 1128 = .ok (.aload_n 1, 1) := by decide +kernel
theorem dL_law_1129 : decode cL_law 1129 = .ok (.aload_n 0, 1) := by decide +kernel
theorem dL_law_1130 : decode cL_law 1130 = .ok (.iload_n 3, 1) := by decide +kernel
theorem dL_law_1131 : decode cL_law 1131 = .ok (.iconst 1, 1) := by decide +kernel
theorem dL_law_1132 : decode cL_law 1132 = .ok (.iadd, 1) := by decide +kernel
theorem dL_law_1133 : decode cL_law 1133 = .ok (.iaload, 1) := by decide +kernel
theorem dL_law_1134 : decode cL_law 1134 = .ok (.invokevirtual 171, 3) := by decide +kernel
theorem dL_law_1137 : decode cL_law 1137 = .ok (.aload_n 2, 1) := by decide +kernel
theorem dL_law_1138 : decode cL_law 1138 = .ok (.aload_n 0, 1) := by decide +kernel
theorem dL_law_1139 : decode cL_law 1139 = .ok (.iload_n 3, 1) := by decide +kernel
theorem dL_law_1140 : decode cL_law 1140 = .ok (.iconst 1, 1) := by decide +kernel
theorem dL_law_1141 : decode cL_law 1141 = .ok (.iadd, 1) := by decide +kernel
theorem dL_law_1142 : decode cL_law 1142 = .ok (.iaload, 1) := by decide +kernel
theorem dL_law_1143 : decode cL_law 1143 = .ok (.invokevirtual 174, 3) := by decide +kernel
theorem dL_law_1146 : decode cL_law 1146 = .ok (.if_icmp .eq 5, 3) := by decide +kernel
theorem dL_law_1149 : decode cL_law 1149 = .ok (.iconst 0, 1) := by decide +kernel
theorem dL_law_1150 : decode cL_law 1150 = .ok (.ireturn, 1) := by decide +kernel
theorem dL_law_1151 : decode cL_law 1151 = .ok (.iinc 3 5, 3) := by decide +kernel
theorem dL_law_1154 : decode cL_law 1154 = .ok (.goto (-1136), 3) := by decide +kernel
theorem dL_law_1157 : decode cL_law 1157 = .ok (.iconst 1, 1) := by decide +kernel
theorem dL_law_1158 : decode cL_law 1158 = .ok (.ireturn, 1) := by decide +kernel
end
section
/-! MEMORY BY ADDRESS AND PLACE. A world is a block of cells from the address B on: kinds and lengths (hT), what they hold (hM: ints, longs, references, by address and place; references count from B). -/
abbrev hM : Type := (Nat → Nat → Int32) × (Nat → Nat → Int64) × (Nat → Nat → Option Nat)
abbrev hT : Type := (Nat → Nat) × (Nat → Nat)
/-- class numbers and slots, array classes, String constants (objects, byte rows), the row THREES -/
abbrev hE : Type := va_G × (Nat → ClassId) × (Nat → Nat) × (Nat → Nat) × Nat
def h_w2 {α : Type} (f : Nat → Nat → α) (a k : Nat) (v : α) : Nat → Nat → α := fun b j => if b = a ∧ j = k then v else f b j
def wI (σ : hM) (a k : Nat) (v : Int32) : hM := (h_w2 σ.1 a k v, σ.2.1, σ.2.2)
def wL (σ : hM) (a k : Nat) (v : Int64) : hM := (σ.1, h_w2 σ.2.1 a k v, σ.2.2)
def wR (σ : hM) (a k : Nat) (v : Option Nat) : hM := (σ.1, σ.2.1, h_w2 σ.2.2 a k v)
def h_lf (B : Nat) (o : Option Nat) : Option Nat := o.map (fun x => B + x)
def h_C (ci : Nat) : String := match ci with
  | 0 => RX0 | 1 => RX1 | 2 => RX2 | 3 => RX3 | 4 => RX4 | 5 => RX5 | 6 => RX6 | 7 => RX7 | 8 => RX8 | _ => RX9
def h_T (ci : Nat) : u_T := match ci with
  | 0 => TX0 | 1 => TX1 | 2 => TX2 | 3 => TX3 | 4 => TX4 | 5 => TX5 | 6 => TX6 | 7 => TX7 | 8 => TX8 | _ => TX9
def h_N (ci : Nat) : Nat := match ci with
  | 0 => 5 | 1 => 3 | 2 => 4 | 3 => 8 | 4 => 3 | 5 => 8 | 6 => 6 | 7 => 5 | 8 => 14 | _ => 39
def h_fty (ci : Nat) : Nat → FieldType := match ci with
  | 0 => tyX0 | 1 => tyX1 | 2 => tyX2 | 3 => tyX3 | 4 => tyX4 | 5 => tyX5 | 6 => tyX6 | 7 => tyX7 | 8 => tyX8 | _ => tyX9
theorem h_dig {P : Nat → Prop} (h : P 0 ∧ P 1 ∧ P 2 ∧ P 3 ∧ P 4 ∧ P 5 ∧ P 6 ∧ P 7 ∧ P 8 ∧ P 9) : ∀ ci, ci < 10 → P ci := by
  intro ci hci
  obtain ⟨a0, a1, a2, a3, a4, a5, a6, a7, a8, a9⟩ := h
  match ci, hci with
  | 0, _ => exact a0
  | 1, _ => exact a1
  | 2, _ => exact a2
  | 3, _ => exact a3
  | 4, _ => exact a4
  | 5, _ => exact a5
  | 6, _ => exact a6
  | 7, _ => exact a7
  | 8, _ => exact a8
  | 9, _ => exact a9
theorem h_cl_ok : ∀ ci, ci < 10 → vwCl[ci]? = some (h_C ci, h_T ci, h_N ci) := h_dig ⟨rfl, rfl, rfl, rfl, rfl, rfl, rfl, rfl, rfl, rfl⟩
theorem h_ty_ok : ∀ ci, ci < 10 → ∀ k, k < h_N ci → parseFieldDescriptor (h_T ci k).2.2.1 = some (h_fty ci k) := h_dig ⟨tyX0_ok, tyX1_ok, tyX2_ok, tyX3_ok, tyX4_ok, tyX5_ok, tyX6_ok, tyX7_ok, tyX8_ok, tyX9_ok⟩
theorem h_nm_ok : ∀ ci, ci < 10 → ∀ a, a < h_N ci → ∀ b, b < h_N ci → a ≠ b → (h_T ci a).2.1 ≠ (h_T ci b).2.1 := h_dig ⟨nmX0, nmX1, nmX2, nmX3, nmX4, nmX5, nmX6, nmX7, nmX8, nmX9⟩
/-- the words that every method is given -/
def h_tbl : List Cond := lw_tbl.filter goodWord
theorem h_tb {w : Cond} (i : Nat) (h : (lw_tbl[i]? = some w ∧ goodWord w = true)) : w ∈ h_tbl := List.mem_filter.mpr ⟨List.mem_of_getElem? h.1, h.2⟩
theorem h_in : ∀ ci, ci < 10 → ∀ w ∈ u_ws (h_C ci) (h_T ci) (h_N ci), w ∈ h_tbl := h_dig ⟨by decide +kernel, by decide +kernel, by decide +kernel, by decide +kernel, by decide +kernel, by decide +kernel, by decide +kernel, by decide +kernel, by decide +kernel, by decide +kernel⟩
def h_tag (ty : FieldType) : Nat := match ty with
  | .long => 1
  | .object _ => 2
  | .array _ => 2
  | _ => 0
def h_val (B : Nat) (ty : FieldType) (i : Int32) (l : Int64) (r : Option Nat) : Value := match ty with
  | .long => .long l
  | .object _ => va_rf (h_lf B r)
  | .array _ => va_rf (h_lf B r)
  | _ => .int i
theorem h_val0 {B : Nat} {ty : FieldType} {i : Int32} {l : Int64} {r : Option Nat} (h : h_tag ty = 0) : h_val B ty i l r = .int i := by cases ty <;> first | rfl | cases h
theorem h_val1 {B : Nat} {ty : FieldType} {i : Int32} {l : Int64} {r : Option Nat} (h : h_tag ty = 1) : h_val B ty i l r = .long l := by cases ty <;> first | rfl | cases h
theorem h_val2 {B : Nat} {ty : FieldType} {i : Int32} {l : Int64} {r : Option Nat} (h : h_tag ty = 2) : h_val B ty i l r = va_rf (h_lf B r) := by cases ty <;> first | rfl | cases h
def h_V (B ci : Nat) (σ : hM) (a k : Nat) : Value := h_val B (h_fty ci k) (σ.1 a k) (σ.2.1 a k) (σ.2.2 a k)
def h_arr (B t n : Nat) (σ : hM) (a : Nat) : vp_A := (n, if t ≤ 13 then .inl (σ.1 a) else if t = 14 then .inr (.inl (σ.2.1 a)) else .inr (.inr (.inr (.inr (fun j => h_lf B (σ.2.2 a j))))))
/-- a cell: kind ci + 1 is an object of class ci, kinds 11 to 17 are arrays -/
def h_at (E : hE) (B : Nat) (T : hT) (σ : hM) (H : Heap) (a : Nat) : Prop :=
  (∀ ci, T.1 a = ci + 1 → ci < 10 → t_OB (B + a) (E.1.1 ci) (h_N ci) (E.1.2 ci) H (h_V B ci σ a)) ∧
  (∀ t, T.1 a = t → 11 ≤ t → t ≤ 17 → H[B + a]? = some (vp_cell (E.2.1 t) (h_arr B t (T.2 a) σ a)))
def h_P (E : hE) (B : Nat) (T : hT) (σ : hM) (H : Heap) : Prop := (∀ a, h_at E B T σ H a) ∧ ∀ a, T.1 a ≠ 0 → B + a < H.size
/-- which cells a method may change -/
def h_A (B : Nat) (T : hT) (sz : Nat) : Nat → Prop := fun q => (∃ a, T.1 a ≠ 0 ∧ q = B + a) ∨ sz ≤ q
def h_tys (E : hE) : List (ClassId × FieldType) := [(E.2.1 11, .int), (E.2.1 12, .byte), (E.2.1 13, .boolean), (E.2.1 14, .long), (E.2.1 15, .object RX3), (E.2.1 16, .object RX5), (E.2.1 17, .array .long)]
theorem h_at.kept {E : hE} {B : Nat} {T : hT} {σ : hM} {H H1 : Heap} {a : Nat} (h : h_at E B T σ H a) (hq : H1[B + a]? = H[B + a]?) : h_at E B T σ H1 a :=
  ⟨fun ci h1 h2 => (h.1 ci h1 h2).kept hq, fun t h1 h2 h3 => hq.trans (h.2 t h1 h2 h3)⟩
theorem h_at.same {E : hE} {B : Nat} {T : hT} {σ σ1 : hM} {H : Heap} {a : Nat} (h : h_at E B T σ H a) (hq : σ1.1 a = σ.1 a ∧ σ1.2.1 a = σ.2.1 a ∧ σ1.2.2 a = σ.2.2 a) : h_at E B T σ1 H a := by
  obtain ⟨q1, q2, q3⟩ := hq
  have e1 : ∀ ci, h_V B ci σ1 a = h_V B ci σ a := fun ci => by funext k; unfold h_V; rw [q1, q2, q3]
  have e2 : ∀ t n, h_arr B t n σ1 a = h_arr B t n σ a := fun t n => by unfold h_arr; rw [q1, q2, q3]
  exact ⟨fun ci h1 h2 => by rw [e1]; exact h.1 ci h1 h2, fun t h1 h2 h3 => by rw [e2]; exact h.2 t h1 h2 h3⟩
theorem h_P.put {E : hE} {B : Nat} {T : hT} {σ σ1 : hM} {H H1 : Heap} {a : Nat} (hP : h_P E B T σ H) (hs : ∀ b, b ≠ a → σ1.1 b = σ.1 b ∧ σ1.2.1 b = σ.2.1 b ∧ σ1.2.2 b = σ.2.2 b) (hat : h_at E B T σ1 H1 a) (oq : ∀ q, q ≠ B + a → H1[q]? = H[q]?) (z : H1.size = H.size) : h_P E B T σ1 H1 := by
  refine ⟨fun b => ?_, fun b hb => by rw [z]; exact hP.2 b hb⟩
  by_cases e : b = a
  · subst e; exact hat
  · exact ((hP.1 b).same (hs b e)).kept (oq (B + b) (by omega))
theorem h_P.kept {E : hE} {B : Nat} {T : hT} {σ : hM} {H H1 : Heap} (hP : h_P E B T σ H) (hk : ∀ a, T.1 a ≠ 0 → H1[B + a]? = H[B + a]?) (z : H.size ≤ H1.size) : h_P E B T σ H1 := by
  refine ⟨fun a => ?_, fun a ha => Nat.lt_of_lt_of_le (hP.2 a ha) z⟩
  by_cases h : T.1 a = 0
  · exact ⟨fun ci h1 _ => (by omega), fun t h1 h2 _ => (by omega)⟩
  · exact (hP.1 a).kept (hk a h)
theorem h_w2I {σ : hM} {a k : Nat} {v : Int32} : ∀ b, b ≠ a → (wI σ a k v).1 b = σ.1 b ∧ (wI σ a k v).2.1 b = σ.2.1 b ∧ (wI σ a k v).2.2 b = σ.2.2 b := fun b hb => ⟨by funext j; simp [wI, h_w2, hb], rfl, rfl⟩
theorem h_w2L {σ : hM} {a k : Nat} {v : Int64} : ∀ b, b ≠ a → (wL σ a k v).1 b = σ.1 b ∧ (wL σ a k v).2.1 b = σ.2.1 b ∧ (wL σ a k v).2.2 b = σ.2.2 b := fun b hb => ⟨rfl, by funext j; simp [wL, h_w2, hb], rfl⟩
theorem h_w2R {σ : hM} {a k : Nat} {v : Option Nat} : ∀ b, b ≠ a → (wR σ a k v).1 b = σ.1 b ∧ (wR σ a k v).2.1 b = σ.2.1 b ∧ (wR σ a k v).2.2 b = σ.2.2 b := fun b hb => ⟨rfl, rfl, by funext j; simp [wR, h_w2, hb]⟩
/-- a value in its place; the other places of the cell stay -/
theorem h_Vw {B ci : Nat} {σ σ1 : hM} {a k : Nat} {v : Value} (h0 : h_V B ci σ1 a k = v) (h1 : ∀ j, j ≠ k → h_V B ci σ1 a j = h_V B ci σ a j) : ∀ j, updV (h_V B ci σ a) k v j = h_V B ci σ1 a j := by
  intro j
  by_cases e : j = k
  · subst e; simp [updV, h0]
  · simp [updV, e, h1 j e]
end
section
/-! WHAT THE MACHINE HOLDS BESIDE THE WORLD: class tables, nest links, String constants, statics -/
def h_isNest (w : Cond) : Bool := match w with
  | .methodLinkNest _ _ _ _ => true
  | _ => false
def h_nest : List Cond := lw_tbl.filter h_isNest
def h_sown (i : Nat) : String × Nat × String := match i with
  | 0 => (RX1, 31, "note breath ")
  | 1 => (RX8, 329, "singer ")
  | 2 => (RX3, 36, "plain true drifting narrow growling short deaf hushed ")
  | 3 => (RX7, 37, "task ")
  | _ => (RX7, 66, "ear voice memory range ")
/-- the signs of the constants -/
def h_sb : List (List Int32) := [[110, 111, 116, 101, 32, 98, 114, 101, 97, 116, 104, 32], [115, 105, 110, 103, 101, 114, 32], [112, 108, 97, 105, 110, 32, 116, 114, 117, 101, 32, 100, 114, 105, 102, 116, 105, 110, 103, 32, 110, 97, 114, 114, 111, 119, 32, 103, 114, 111, 119, 108, 105, 110, 103, 32, 115, 104, 111, 114, 116, 32, 100, 101, 97, 102, 32, 104, 117, 115, 104, 101, 100, 32], [116, 97, 115, 107, 32], [101, 97, 114, 32, 118, 111, 105, 99, 101, 32, 109, 101, 109, 111, 114, 121, 32, 114, 97, 110, 103, 101, 32]]
def h_sl : List Nat := [12, 7, 54, 5, 23]
def h_three : List Int32 := [1, 3, 9, 27, 81, 243]
def h_X (E : hE) (A : Nat → Prop) (U : State) (H : Heap) : Prop :=
  va_K E.1 vwCl (h_tys E) U ∧ (∀ w ∈ h_nest, va_Nw w U) ∧ (∀ i, i < 5 → vk_R (h_sown i).1 (h_sown i).2.1 (h_sown i).2.2 (E.2.2.1 i) U) ∧ vk_S 5 h_sl h_sb E.2.2.1 E.2.2.2.1 A U H ∧ (va_Z RX2 "THREES" "[I" (.ref E.2.2.2.2) A U H ∧ va_T .int E.2.2.2.2 6 (fun j => .int (h_three.getD j 0)) A U H) ∧ va_Z RJ0 "COMPACT_STRINGS" "Z" (.int 1) A U H ∧ va_Zq RJ3 "SIOOBE_FORMATTER" "Ljava/util/function/BiFunction;" A U H
theorem h_alike {u U : State} (hv : U.vm = u.vm) : u.vm.Alike U.vm := by rw [hv]; exact Vm.Alike.refl u.vm
theorem h_nestform {w : Cond} (h : w ∈ h_nest) : ∃ a i x b, w = .methodLinkNest a i x b := by
  have h2 := (List.mem_filter.mp h).2
  cases w <;> first | exact ⟨_, _, _, _, rfl⟩ | cases h2
theorem h_X.same {E : hE} {A : Nat → Prop} {u U : State} {H : Heap} (hv : U.vm = u.vm) (h : h_X E A u H) : h_X E A U H := by
  obtain ⟨h1, h2, h3, h4, ⟨h5, h6⟩, h7, h8⟩ := h
  refine ⟨va_K.moved (h_alike hv) h1, fun w hw => ?_, fun i hi => (h3 i hi).same hv, h4.moved (h_alike hv), ⟨h5.moved (h_alike hv), h6.moved (h_alike hv)⟩, h7.moved (h_alike hv), h8.moved (h_alike hv)⟩
  obtain ⟨a, i, x, b, rfl⟩ := h_nestform hw
  exact va_Nw.same rfl hv.symm (h2 _ hw)
theorem h_X.warm {E : hE} {A : Nat → Prop} {s U : State} {H : Heap} (hW : s.WarmedH U.vm) (h : h_X E A s H) : h_X E A U H := by
  obtain ⟨h1, h2, h3, h4, ⟨h5, h6⟩, h7, h8⟩ := h
  refine ⟨va_K.moved hW.alike h1, fun w hw => ?_, fun i hi => (h3 i hi).warm hW, h4.moved hW.alike, ⟨h5.moved hW.alike, h6.moved hW.alike⟩, h7.moved hW.alike, h8.moved hW.alike⟩
  obtain ⟨a, i, x, b, rfl⟩ := h_nestform hw
  exact va_Nw.warmM hW (h2 _ hw)
theorem h_X.kept {E : hE} {A : Nat → Prop} {U : State} {H H1 : Heap} (h : h_X E A U H) (hq : ∀ a : Nat, a < H.size → ¬ A a → H1[a]? = H[a]?) : h_X E A U H1 := by
  obtain ⟨h1, h2, h3, h4, ⟨h5, h6⟩, h7, h8⟩ := h
  exact ⟨h1, h2, h3, h4.kept hq, ⟨h5.kept hq, h6.kept hq⟩, h7.kept hq, h8.kept hq⟩
theorem h_X.narrow {E : hE} {A A1 : Nat → Prop} {U : State} {H : Heap} (h : h_X E A U H) (hAB : ∀ q, A1 q → A q) : h_X E A1 U H := by
  obtain ⟨h1, h2, h3, h4, ⟨h5, h6⟩, h7, h8⟩ := h
  exact ⟨h1, h2, h3, h4.narrow hAB, ⟨h5.narrow hAB, h6.narrow hAB⟩, h7.narrow hAB, h8.narrow hAB⟩
/-- the room of a method that makes nothing, d calls deep -/
def h_rm (d : Nat) : Room := { frames := d, cells := 0, slots := 0, locals := 40 * d }
def h_Pc (E : hE) (B : Nat) (T : hT) (As : List Value) (σ : hM) (sz : Nat) : Array Value → State → Prop := va_Pc As (fun U => U.heap.size = sz ∧ h_P E B T σ U.heap ∧ h_X E (h_A B T sz) U U.heap)
def h_Q (E : hE) (B : Nat) (T : hT) (sz : Nat) (v : Option Value) (σ' : hM) : Array Value → State → Outcome → State → Prop := fun _ st oc t => (oc = .returned v ∧ h_P E B T σ' t.heap ∧ t.heap.size = sz) ∧ va_F (h_A B T sz) st t
/-- a method's contract: from σ it comes to σ', and answers v -/
def h_Ct (l : Launch) (E : hE) (B : Nat) (T : hT) (y : MethodName) (cc : ByteArray) (nL : Nat) (ret : Option FieldType) (d : Nat) (As : List Value) (σ σ' : hM) (v : Option Value) : Prop :=
  ∀ sz, Met l y (.code y cc nL ret :: h_tbl) (h_rm d) (h_Pc E B T As σ sz) (h_Q E B T sz v σ') 0 0 (h_A B T sz)
/-- the world as it stands within a method -/
def h_W (E : hE) (B : Nat) (T : hT) (H0 : Heap) (σ : hM) (H : Heap) (locs : List Loc) : Prop := h_P E B T σ H ∧ va_S (h_A B T H0.size) H0 H locs ∧ H.size = H0.size
def h_Γ (E : hE) (B : Nat) (T : hT) (p : Program) (s : State) (m : MethodId) (args : Array Value) (meth : Method) (c : Code) (cc : ByteArray) (nL : Nat) (ret : Option FieldType) (own : String) : Prop :=
  p.tables.exec = Jvm.exec ∧ c.code = cc ∧ meth.sig.returnType = ret ∧ c.maxLocals = nL ∧ (∀ w ∈ h_tbl, w.before args s = true) ∧ s.vm.findClass own = some m.cls ∧ meth.locks = false ∧ h_X E (h_A B T s.heap.size) s s.heap
theorem h_ofW {l : Launch} {E : hE} {B : Nat} {T : hT} {y : MethodName} {cc : ByteArray} {nL : Nat} {ret : Option FieldType} {d : Nat} {As : List Value} {σ σ' : hM} {v : Option Value} (hy : plainName y.cls = true) (hn : (lg_sl As).length ≤ nL)
    (body : ∀ (p : Program) (e : Env) (s : State) (m : MethodId) (below : List Frame) (meth : Method) (c : Code) (ls : Array Slot), h_Γ E B T p s m As.toArray meth c cc nL ret y.cls → lv_has ls nL (lv_args 0 As) → h_W E B T s.heap σ s.heap [] →
      W p l e (h_rm d) s m As.toArray below meth c s.heap [] 0 0 (MQ below (h_Q E B T s.heap.size v σ') As.toArray s 0 0 (h_A B T s.heap.size)) (F0 m 0 ls [])) : h_Ct l E B T y cc nL ret d As σ σ' v := by
  intro sz
  refine Met.ofW (cc := cc) (maxL := nL) (ret := ret) hy rfl ?_
  intro p e s m args below meth c s₁ BB hml hv
  obtain ⟨rfl, hsz, hP, hX⟩ := hv
  subst hsz
  have hts := atoms_spec (ws := .code y cc nL ret :: h_tbl) BB.pre
  have hl := lv_entry As (n := nL) hn
  rw [lg_entry_eq]
  generalize (lg_sl As ++ List.replicate (nL - (lg_sl As).length) Slot.unset).toArray = ls at hl ⊢
  exact body p e s m below meth c ls ⟨BB.exec, BB.bytes, BB.returns, hml, fun w h => hts w (List.mem_cons_of_mem _ h), findClass_of_methodNamed BB.named, BB.notSynchronized, hX⟩ hl ⟨hP, va_S.rf, rfl⟩
end
section
/-! ROWS: a law's step beside an instruction's. hf says what the function still does; each row takes its head off. -/
def lt {α β : Type} (e : α) (k : α → β) : β := k e
def gti (T : hT) (σ : hM) (a ci k : Nat) : Option Int32 := if T.1 a = ci + 1 then some (σ.1 a k) else none
def gtl (T : hT) (σ : hM) (a ci k : Nat) : Option Int64 := if T.1 a = ci + 1 then some (σ.2.1 a k) else none
def gtr (T : hT) (σ : hM) (a ci k : Nat) : Option Nat := if T.1 a = ci + 1 then σ.2.2 a k else none
def gtq (T : hT) (σ : hM) (a ci k : Nat) : Option (Option Nat) := if T.1 a = ci + 1 then some (σ.2.2 a k) else none
def pti (T : hT) (σ : hM) (a ci k : Nat) (v : Int32) : Option hM := if T.1 a = ci + 1 then some (wI σ a k v) else none
def ptz (T : hT) (σ : hM) (a ci k : Nat) (v : Int32) : Option hM := if T.1 a = ci + 1 ∧ (v = 0 ∨ v = 1) then some (wI σ a k v) else none
def ptl (T : hT) (σ : hM) (a ci k : Nat) (v : Int64) : Option hM := if T.1 a = ci + 1 then some (wL σ a k v) else none
def ptr (T : hT) (σ : hM) (a ci k : Nat) (v : Option Nat) : Option hM := if T.1 a = ci + 1 then some (wR σ a k v) else none
def ald (t : Nat) (T : hT) (σ : hM) (a : Nat) (i : Int32) : Option Int32 := if T.1 a = t ∧ ¬ (i < 0 ∨ T.2 a ≤ i.toNatClampNeg) then some (σ.1 a i.toNatClampNeg) else none
def aldl (T : hT) (σ : hM) (a : Nat) (i : Int32) : Option Int64 := if T.1 a = 14 ∧ ¬ (i < 0 ∨ T.2 a ≤ i.toNatClampNeg) then some (σ.2.1 a i.toNatClampNeg) else none
def aldr (t : Nat) (T : hT) (σ : hM) (a : Nat) (i : Int32) : Option Nat := if T.1 a = t ∧ ¬ (i < 0 ∨ T.2 a ≤ i.toNatClampNeg) then σ.2.2 a i.toNatClampNeg else none
def asti (T : hT) (σ : hM) (a : Nat) (i v : Int32) : Option hM := if T.1 a = 11 ∧ ¬ (i < 0 ∨ T.2 a ≤ i.toNatClampNeg) then some (wI σ a i.toNatClampNeg v) else none
def astb (T : hT) (σ : hM) (a : Nat) (i v : Int32) : Option hM := if T.1 a = 12 ∧ ¬ (i < 0 ∨ T.2 a ≤ i.toNatClampNeg) then some (wI σ a i.toNatClampNeg (vp_nar .byte v)) else none
def astz (T : hT) (σ : hM) (a : Nat) (i v : Int32) : Option hM := if T.1 a = 13 ∧ ¬ (i < 0 ∨ T.2 a ≤ i.toNatClampNeg) then some (wI σ a i.toNatClampNeg (vp_nar .boolean v)) else none
def astl (T : hT) (σ : hM) (a : Nat) (i : Int32) (v : Int64) : Option hM := if T.1 a = 14 ∧ ¬ (i < 0 ∨ T.2 a ≤ i.toNatClampNeg) then some (wL σ a i.toNatClampNeg v) else none
def aln (T : hT) (a : Nat) : Option Int32 := if 11 ≤ T.1 a ∧ T.1 a ≤ 17 then some (Int32.ofNat (T.2 a)) else none
def vc {α : Type} (T : hT) (a ci : Nat) (o : Option α) : Option α := if T.1 a = ci + 1 then o else none
def dvi (x y : Int32) : Option Int32 := if y = 0 then none else some (x / y)
def rmi (x y : Int32) : Option Int32 := if y = 0 then none else some (x - x / y * y)
def rtz {α : Type} (v : Int32) (σ : α) : Option (Int32 × α) := if v = 0 ∨ v = 1 then some (v, σ) else none
theorem ob_some {α β : Type} {c : Prop} [Decidable c] {x : α} {κ : α → Option β} {z : β} (h : (if c then some x else none).bind κ = some z) : c ∧ κ x = some z := by
  by_cases hc : c
  · rw [if_pos hc] at h; exact ⟨hc, h⟩
  · rw [if_neg hc] at h; cases h
theorem ob_opt {α β : Type} {c : Prop} [Decidable c] {o : Option α} {κ : α → Option β} {z : β} (h : (if c then o else none).bind κ = some z) : c ∧ ∃ x, o = some x ∧ κ x = some z := by
  by_cases hc : c
  · rw [if_pos hc] at h
    cases o with
    | none => cases h
    | some x => exact ⟨hc, x, rfl, h⟩
  · rw [if_neg hc] at h; cases h
theorem ifp {c : Prop} [Decidable c] {α : Sort _} {a b X : α} (h : c) (e : (if c then a else b) = X) : a = X := by rwa [if_pos h] at e
theorem ifn {c : Prop} [Decidable c] {α : Sort _} {a b X : α} (h : ¬ c) (e : (if c then a else b) = X) : b = X := by rwa [if_neg h] at e
/-- a link of a field: of class ci, place k -/
def h_FL (own : String) (index ci k : Nat) : Prop := (ci < 10 ∧ k < h_N ci) ∧ Cond.fieldLink own index (h_T ci k).1 (h_T ci k).2.1 (h_T ci k).2.2.1 ∈ h_tbl
section HR
variable {p : Program} {l : Launch} {e : Env} {R : Room} {s : State} {m : MethodId} {args : Array Value} {below : List Frame} {meth : Method} {c : Code} {H : Heap} {locs : List Loc} {cells slots : Nat} {Q : State → Prop}
variable {cc : ByteArray} {pc : Nat} {ls : Array Slot} {rest : List Value} {E : hE} {B : Nat} {T : hT} {σ : hM} {A : Nat → Prop} {H0 : Heap} {α : Type} {z : α} {own : String} {index ci k a : Nat}
theorem h_get0 {v : Value} (hx : p.tables.exec = Jvm.exec) (hb : c.code = cc) (hts : ∀ w ∈ h_tbl, w.before args s = true) (hown : s.vm.findClass own = some m.cls) (hX : h_X E A s s.heap) (hw : h_W E B T H0 σ H locs) (hL : h_FL own index ci k) (hT : T.1 a = ci + 1) (hv : h_V B ci σ a k = v) (hdg : decode cc pc = .ok (.getfield index, 3))
    (kk : W p l e R s m args below meth c H locs cells slots Q (F0 m (pc + 3) ls (v :: rest))) : W p l e R s m args below meth c H locs cells slots Q (F0 m pc ls (.ref (B + a) :: rest)) := by
  obtain ⟨⟨hci, hk⟩, hlk⟩ := hL
  obtain ⟨cell, q1, q2, q3, q4⟩ := (hw.1.1 a).1 ci hT hci
  obtain ⟨hS, hfc, kC, hkC, hkind⟩ := hX.1.1 ci _ (h_cl_ok ci hci)
  obtain ⟨cf, kf, fi, f, hi, hsl⟩ := hS k hk
  refine W.getf hx hb hown (hts _ hlk) hi (u_facts hfc hkC (u_lays hts (h_in ci hci) hk) hi).1 q1 (by rw [q3]; exact fun h => by cases h) (v := v) ?_ rfl rfl hdg kk
  rw [hsl, q4 k hk, hv]
theorem h_geti {κ : Int32 → Option α} (hf : (gti T σ a ci k).bind κ = some z) (hx : p.tables.exec = Jvm.exec) (hb : c.code = cc) (hts : ∀ w ∈ h_tbl, w.before args s = true) (hown : s.vm.findClass own = some m.cls) (hX : h_X E A s s.heap) (hw : h_W E B T H0 σ H locs) (hL : h_FL own index ci k) (ht : h_tag (h_fty ci k) = 0) (hdg : decode cc pc = .ok (.getfield index, 3))
    (kk : ∀ x : Int32, κ x = some z → W p l e R s m args below meth c H locs cells slots Q (F0 m (pc + 3) ls (.int x :: rest))) : W p l e R s m args below meth c H locs cells slots Q (F0 m pc ls (.ref (B + a) :: rest)) := by
  obtain ⟨hT, hf⟩ := ob_some hf
  exact h_get0 hx hb hts hown hX hw hL hT (h_val0 ht) hdg (kk _ hf)
theorem h_getl {κ : Int64 → Option α} (hf : (gtl T σ a ci k).bind κ = some z) (hx : p.tables.exec = Jvm.exec) (hb : c.code = cc) (hts : ∀ w ∈ h_tbl, w.before args s = true) (hown : s.vm.findClass own = some m.cls) (hX : h_X E A s s.heap) (hw : h_W E B T H0 σ H locs) (hL : h_FL own index ci k) (ht : h_tag (h_fty ci k) = 1) (hdg : decode cc pc = .ok (.getfield index, 3))
    (kk : ∀ x : Int64, κ x = some z → W p l e R s m args below meth c H locs cells slots Q (F0 m (pc + 3) ls (.long x :: rest))) : W p l e R s m args below meth c H locs cells slots Q (F0 m pc ls (.ref (B + a) :: rest)) := by
  obtain ⟨hT, hf⟩ := ob_some hf
  exact h_get0 hx hb hts hown hX hw hL hT (h_val1 ht) hdg (kk _ hf)
theorem h_getr {κ : Nat → Option α} (hf : (gtr T σ a ci k).bind κ = some z) (hx : p.tables.exec = Jvm.exec) (hb : c.code = cc) (hts : ∀ w ∈ h_tbl, w.before args s = true) (hown : s.vm.findClass own = some m.cls) (hX : h_X E A s s.heap) (hw : h_W E B T H0 σ H locs) (hL : h_FL own index ci k) (ht : h_tag (h_fty ci k) = 2) (hdg : decode cc pc = .ok (.getfield index, 3))
    (kk : ∀ x : Nat, κ x = some z → W p l e R s m args below meth c H locs cells slots Q (F0 m (pc + 3) ls (.ref (B + x) :: rest))) : W p l e R s m args below meth c H locs cells slots Q (F0 m pc ls (.ref (B + a) :: rest)) := by
  obtain ⟨hT, x, hx2, hf⟩ := ob_opt hf
  exact h_get0 hx hb hts hown hX hw hL hT ((h_val2 ht).trans (by rw [hx2]; rfl)) hdg (kk _ hf)
/-- a field that may be null, asked whether it is -/
theorem h_getq {κ : Option Nat → Option α} (hf : (gtq T σ a ci k).bind κ = some z) (hx : p.tables.exec = Jvm.exec) (hb : c.code = cc) (hts : ∀ w ∈ h_tbl, w.before args s = true) (hown : s.vm.findClass own = some m.cls) (hX : h_X E A s s.heap) (hw : h_W E B T H0 σ H locs) (hL : h_FL own index ci k) (ht : h_tag (h_fty ci k) = 2) (hdg : decode cc pc = .ok (.getfield index, 3))
    (kn : κ none = some z → W p l e R s m args below meth c H locs cells slots Q (F0 m (pc + 3) ls (.null :: rest))) (kk : ∀ x : Nat, κ (some x) = some z → W p l e R s m args below meth c H locs cells slots Q (F0 m (pc + 3) ls (.ref (B + x) :: rest))) : W p l e R s m args below meth c H locs cells slots Q (F0 m pc ls (.ref (B + a) :: rest)) := by
  obtain ⟨hT, hf⟩ := ob_some hf
  cases hq : σ.2.2 a k with
  | none => rw [hq] at hf; exact h_get0 hx hb hts hown hX hw hL hT ((h_val2 ht).trans (by rw [hq]; rfl)) hdg (kn hf)
  | some x => rw [hq] at hf; exact h_get0 hx hb hts hown hX hw hL hT ((h_val2 ht).trans (by rw [hq]; rfl)) hdg (kk x hf)
theorem h_W.put {σ1 : hM} {H1 : Heap} {j : Nat} (hw : h_W E B T H0 σ H locs) (hT : T.1 a ≠ 0) (hs : ∀ b, b ≠ a → σ1.1 b = σ.1 b ∧ σ1.2.1 b = σ.2.1 b ∧ σ1.2.2 b = σ.2.2 b) (hat : h_at E B T σ1 H1 a) (oq : ∀ q, q ≠ B + a → H1[q]? = H[q]?) (zz : H1.size = H.size) : h_W E B T H0 σ1 H1 (locs ++ [⟨B + a, j⟩]) :=
  ⟨hw.1.put hs hat oq zz, hw.2.1.put zz oq (Or.inl ⟨a, hT, rfl⟩), zz.trans hw.2.2⟩
theorem h_put0 {v : Value} {σ1 : hM} (hx : p.tables.exec = Jvm.exec) (hb : c.code = cc) (hts : ∀ w ∈ h_tbl, w.before args s = true) (hown : s.vm.findClass own = some m.cls) (hX : h_X E A s s.heap) (hw : h_W E B T H0 σ H locs) (hL : h_FL own index ci k) (hfin : (h_T ci k).2.2.2 = false) (hT : T.1 a = ci + 1) (hn : narrow (h_fty ci k) v = v) (hfit : fits (h_fty ci k) v = true)
    (hs : ∀ b, b ≠ a → σ1.1 b = σ.1 b ∧ σ1.2.1 b = σ.2.1 b ∧ σ1.2.2 b = σ.2.2 b) (hv : h_V B ci σ1 a k = v) (ho : ∀ j, j ≠ k → h_V B ci σ1 a j = h_V B ci σ a j) (hdg : decode cc pc = .ok (.putfield index, 3))
    (kk : ∀ (H1 : Heap) (locs1 : List Loc), h_W E B T H0 σ1 H1 locs1 → W p l e R s m args below meth c H1 locs1 cells slots Q (F0 m (pc + 3) ls rest)) : W p l e R s m args below meth c H locs cells slots Q (F0 m pc ls (v :: .ref (B + a) :: rest)) := by
  obtain ⟨⟨hci, hk⟩, hlk⟩ := hL
  obtain ⟨cell, q1, q2, q3, q4⟩ := (hw.1.1 a).1 ci hT hci
  have hap := va_apart (own := own) hts (h_in ci hci) (h_fty ci) (h_ty_ok ci hci) (h_nm_ok ci hci) hX.1 (h_cl_ok ci hci)
  obtain ⟨hS, hfc, kC, hkC, hkind⟩ := hX.1.1 ci _ (h_cl_ok ci hci)
  obtain ⟨cf, kf, fi, f, hi, hsl⟩ := hS k hk
  have hlay := hts _ (h_in ci hci _ (u_in_lay hk))
  unfold u_lay at hlay
  rw [if_neg (by rw [hfin]; decide)] at hlay
  have hst := (u_facts hfc hkC (u_lays hts (h_in ci hci) hk) hi).1
  have h6 := u_store hfc hkC hkind hlay hi (h_ty_ok ci hci k hk) hn hfit
  refine W.putK hx hb (f := f) ⟨hown, hts _ hlk, ⟨_, _, _, hi⟩, hst⟩ (by rw [q2]; exact h6) q1 q3 (by rw [hsl]; exact k2_hasslot (q4 k hk)) rfl rfl hdg fun H' e1 e2 e3 => ?_
  rw [hsl] at e1 ⊢
  refine kk H' _ (hw.put (by omega) hs ⟨fun ci' h1 h2 => ?_, fun t h1 h2 h3 => (by omega)⟩ e3 e2)
  have ec : ci' = ci := by omega
  subst ec
  exact t_OB.to ⟨_, e1, q2, q3, t_set q4 hap hk v⟩ (fun j _ => h_Vw hv ho j)
theorem h_wVI {v : Int32} : ∀ j, j ≠ k → h_V B ci (wI σ a k v) a j = h_V B ci σ a j := fun j hj => by simp [h_V, wI, h_w2, hj]
theorem h_wVL {v : Int64} : ∀ j, j ≠ k → h_V B ci (wL σ a k v) a j = h_V B ci σ a j := fun j hj => by simp [h_V, wL, h_w2, hj]
theorem h_wVR {v : Option Nat} : ∀ j, j ≠ k → h_V B ci (wR σ a k v) a j = h_V B ci σ a j := fun j hj => by simp [h_V, wR, h_w2, hj]
theorem h_puti {κ : hM → Option α} {v : Int32} (hf : (pti T σ a ci k v).bind κ = some z) (hx : p.tables.exec = Jvm.exec) (hb : c.code = cc) (hts : ∀ w ∈ h_tbl, w.before args s = true) (hown : s.vm.findClass own = some m.cls) (hX : h_X E A s s.heap) (hw : h_W E B T H0 σ H locs) (hL : h_FL own index ci k) (ht : h_fty ci k = .int ∧ (h_T ci k).2.2.2 = false) (hdg : decode cc pc = .ok (.putfield index, 3))
    (kk : ∀ (σ1 : hM) (H1 : Heap) (locs1 : List Loc), κ σ1 = some z → h_W E B T H0 σ1 H1 locs1 → W p l e R s m args below meth c H1 locs1 cells slots Q (F0 m (pc + 3) ls rest)) : W p l e R s m args below meth c H locs cells slots Q (F0 m pc ls (.int v :: .ref (B + a) :: rest)) := by
  obtain ⟨hT, hf⟩ := ob_some hf
  exact h_put0 hx hb hts hown hX hw hL ht.2 hT (by rw [ht.1]; rfl) (by rw [ht.1]; rfl) h_w2I (by simp [h_V, h_val, ht.1, wI, h_w2]) h_wVI hdg (fun H1 locs1 h => kk _ H1 locs1 hf h)
theorem h_putz {κ : hM → Option α} {v : Int32} (hf : (ptz T σ a ci k v).bind κ = some z) (hx : p.tables.exec = Jvm.exec) (hb : c.code = cc) (hts : ∀ w ∈ h_tbl, w.before args s = true) (hown : s.vm.findClass own = some m.cls) (hX : h_X E A s s.heap) (hw : h_W E B T H0 σ H locs) (hL : h_FL own index ci k) (ht : h_fty ci k = .boolean ∧ (h_T ci k).2.2.2 = false) (hdg : decode cc pc = .ok (.putfield index, 3))
    (kk : ∀ (σ1 : hM) (H1 : Heap) (locs1 : List Loc), κ σ1 = some z → h_W E B T H0 σ1 H1 locs1 → W p l e R s m args below meth c H1 locs1 cells slots Q (F0 m (pc + 3) ls rest)) : W p l e R s m args below meth c H locs cells slots Q (F0 m pc ls (.int v :: .ref (B + a) :: rest)) := by
  obtain ⟨⟨hT, h01⟩, hf⟩ := ob_some hf
  exact h_put0 hx hb hts hown hX hw hL ht.2 hT (by rw [ht.1]; rcases h01 with rfl | rfl <;> rfl) (by rw [ht.1]; rcases h01 with rfl | rfl <;> rfl) h_w2I (by simp [h_V, h_val, ht.1, wI, h_w2]) h_wVI hdg (fun H1 locs1 h => kk _ H1 locs1 hf h)
theorem h_putl {κ : hM → Option α} {v : Int64} (hf : (ptl T σ a ci k v).bind κ = some z) (hx : p.tables.exec = Jvm.exec) (hb : c.code = cc) (hts : ∀ w ∈ h_tbl, w.before args s = true) (hown : s.vm.findClass own = some m.cls) (hX : h_X E A s s.heap) (hw : h_W E B T H0 σ H locs) (hL : h_FL own index ci k) (ht : h_fty ci k = .long ∧ (h_T ci k).2.2.2 = false) (hdg : decode cc pc = .ok (.putfield index, 3))
    (kk : ∀ (σ1 : hM) (H1 : Heap) (locs1 : List Loc), κ σ1 = some z → h_W E B T H0 σ1 H1 locs1 → W p l e R s m args below meth c H1 locs1 cells slots Q (F0 m (pc + 3) ls rest)) : W p l e R s m args below meth c H locs cells slots Q (F0 m pc ls (.long v :: .ref (B + a) :: rest)) := by
  obtain ⟨hT, hf⟩ := ob_some hf
  exact h_put0 hx hb hts hown hX hw hL ht.2 hT (by rw [ht.1]; rfl) (by rw [ht.1]; rfl) h_w2L (by simp [h_V, h_val, ht.1, wL, h_w2]) h_wVL hdg (fun H1 locs1 h => kk _ H1 locs1 hf h)
theorem h_nar2 {ty : FieldType} (h : h_tag ty = 2) (o : Option Nat) : narrow ty (va_rf o) = va_rf o ∧ fits ty (va_rf o) = true := by
  cases ty <;> first | (cases o <;> exact ⟨rfl, rfl⟩) | cases h
theorem h_putr {κ : hM → Option α} {v : Nat} (hf : (ptr T σ a ci k (some v)).bind κ = some z) (hx : p.tables.exec = Jvm.exec) (hb : c.code = cc) (hts : ∀ w ∈ h_tbl, w.before args s = true) (hown : s.vm.findClass own = some m.cls) (hX : h_X E A s s.heap) (hw : h_W E B T H0 σ H locs) (hL : h_FL own index ci k) (ht : h_tag (h_fty ci k) = 2 ∧ (h_T ci k).2.2.2 = false) (hdg : decode cc pc = .ok (.putfield index, 3))
    (kk : ∀ (σ1 : hM) (H1 : Heap) (locs1 : List Loc), κ σ1 = some z → h_W E B T H0 σ1 H1 locs1 → W p l e R s m args below meth c H1 locs1 cells slots Q (F0 m (pc + 3) ls rest)) : W p l e R s m args below meth c H locs cells slots Q (F0 m pc ls (.ref (B + v) :: .ref (B + a) :: rest)) := by
  obtain ⟨hT, hf⟩ := ob_some hf
  exact h_put0 (v := va_rf (some (B + v))) hx hb hts hown hX hw hL ht.2 hT (h_nar2 ht.1 _).1 (h_nar2 ht.1 _).2 h_w2R ((h_val2 ht.1).trans (by simp [wR, h_w2, h_lf])) h_wVR hdg (fun H1 locs1 h => kk _ H1 locs1 hf h)
end HR
end
section
/-! ROWS: arrays -/
theorem h_arrI {B t n : Nat} {σ : hM} {a : Nat} (h : t ≤ 13) : h_arr B t n σ a = (n, .inl (σ.1 a)) := by simp [h_arr, h]
theorem h_arrL {B n : Nat} {σ : hM} {a : Nat} : h_arr B 14 n σ a = (n, .inr (.inl (σ.2.1 a))) := rfl
theorem h_arrR {B t n : Nat} {σ : hM} {a : Nat} (h : 15 ≤ t) : h_arr B t n σ a = (n, .inr (.inr (.inr (.inr (fun j => h_lf B (σ.2.2 a j)))))) := by
  have h1 : ¬ t ≤ 13 := by omega
  have h2 : ¬ t = 14 := by omega
  simp [h_arr, h1, h2]
section HA
variable {p : Program} {l : Launch} {e : Env} {R : Room} {s : State} {m : MethodId} {args : Array Value} {below : List Frame} {meth : Method} {c : Code} {H : Heap} {locs : List Loc} {cells slots : Nat} {Q : State → Prop}
variable {cc : ByteArray} {pc : Nat} {ls : Array Slot} {rest : List Value} {E : hE} {B : Nat} {T : hT} {σ : hM} {A : Nat → Prop} {H0 : Heap} {α : Type} {z : α} {a : Nat} {i : Int32}
theorem h_ty11 (hX : h_X E A s s.heap) : ArrOfT s (E.2.1 11) .int := (hX.1.2 0 _ rfl).1
theorem h_ty12 (hX : h_X E A s s.heap) : ArrOfT s (E.2.1 12) .byte := (hX.1.2 1 _ rfl).1
theorem h_ty13 (hX : h_X E A s s.heap) : ArrOfT s (E.2.1 13) .boolean := (hX.1.2 2 _ rfl).1
theorem h_ty14 (hX : h_X E A s s.heap) : ArrOfT s (E.2.1 14) .long := (hX.1.2 3 _ rfl).1
theorem h_ty15 (hX : h_X E A s s.heap) : ArrOfT s (E.2.1 15) (.object RX3) := (hX.1.2 4 _ rfl).1
theorem h_ty16 (hX : h_X E A s s.heap) : ArrOfT s (E.2.1 16) (.object RX5) := (hX.1.2 5 _ rfl).1
theorem h_ty17 (hX : h_X E A s s.heap) : ArrOfT s (E.2.1 17) (.array .long) := (hX.1.2 6 _ rfl).1
theorem h_in2 {cA : ClassId} {n : Nat} {f : Nat → Value} (h : ¬ (i < 0 ∨ n ≤ i.toNatClampNeg)) : ¬ (i < 0 ∨ (arrV cA n f).slots.size ≤ i.toNatClampNeg) := by rw [arrV_size]; exact h
theorem h_rd2 {cA : ClassId} {n : Nat} {f : Nat → Value} (h : ¬ (i < 0 ∨ n ≤ i.toNatClampNeg)) : (arrV cA n f).slots[i.toNatClampNeg]? = some (f i.toNatClampNeg) := arrV_read _ _ (Nat.not_le.mp fun q => h (Or.inr q))
theorem h_cI {t : Nat} (hw : h_W E B T H0 σ H locs) (hT : T.1 a = t) (h1 : 11 ≤ t) (h2 : t ≤ 13) : H[B + a]? = some (arrV (E.2.1 t) (T.2 a) (fun j => .int (σ.1 a j))) := by
  have h := (hw.1.1 a).2 t hT h1 (by omega)
  rw [h_arrI h2] at h
  exact h
theorem h_cL (hw : h_W E B T H0 σ H locs) (hT : T.1 a = 14) : H[B + a]? = some (arrV (E.2.1 14) (T.2 a) (fun j => .long (σ.2.1 a j))) := (hw.1.1 a).2 14 hT (by decide) (by decide)
theorem h_cR {t : Nat} (hw : h_W E B T H0 σ H locs) (hT : T.1 a = t) (h1 : 15 ≤ t) (h2 : t ≤ 17) : H[B + a]? = some (arrV (E.2.1 t) (T.2 a) (fun j => va_rf (h_lf B (σ.2.2 a j)))) := by
  have h := (hw.1.1 a).2 t hT (by omega) h2
  rw [h_arrR h1] at h
  exact h
theorem h_iald {κ : Int32 → Option α} (hf : (ald 11 T σ a i).bind κ = some z) (hx : p.tables.exec = Jvm.exec) (hb : c.code = cc) (hX : h_X E A s s.heap) (hw : h_W E B T H0 σ H locs) (hdg : decode cc pc = .ok (.iaload, 1))
    (kk : ∀ x : Int32, κ x = some z → W p l e R s m args below meth c H locs cells slots Q (F0 m (pc + 1) ls (.int x :: rest))) : W p l e R s m args below meth c H locs cells slots Q (F0 m pc ls (.int i :: .ref (B + a) :: rest)) := by
  obtain ⟨⟨hT, hin⟩, hf⟩ := ob_some hf
  exact W.iald hx hb (h_cI hw hT (by decide) (by decide)) (h_ty11 hX _ _) (fun q => by cases q) (h_in2 hin) (h_rd2 hin) rfl rfl hdg (kk _ hf)
theorem h_bald {κ : Int32 → Option α} (hf : (ald 12 T σ a i).bind κ = some z) (hx : p.tables.exec = Jvm.exec) (hb : c.code = cc) (hX : h_X E A s s.heap) (hw : h_W E B T H0 σ H locs) (hdg : decode cc pc = .ok (.baload, 1))
    (kk : ∀ x : Int32, κ x = some z → W p l e R s m args below meth c H locs cells slots Q (F0 m (pc + 1) ls (.int x :: rest))) : W p l e R s m args below meth c H locs cells slots Q (F0 m pc ls (.int i :: .ref (B + a) :: rest)) := by
  obtain ⟨⟨hT, hin⟩, hf⟩ := ob_some hf
  exact W.bald hx hb (h_cI hw hT (by decide) (by decide)) (h_ty12 hX _ _) (fun q => by cases q) (h_in2 hin) (h_rd2 hin) rfl rfl hdg (kk _ hf)
theorem h_zald {κ : Int32 → Option α} (hf : (ald 13 T σ a i).bind κ = some z) (hx : p.tables.exec = Jvm.exec) (hb : c.code = cc) (hX : h_X E A s s.heap) (hw : h_W E B T H0 σ H locs) (hdg : decode cc pc = .ok (.baload, 1))
    (kk : ∀ x : Int32, κ x = some z → W p l e R s m args below meth c H locs cells slots Q (F0 m (pc + 1) ls (.int x :: rest))) : W p l e R s m args below meth c H locs cells slots Q (F0 m pc ls (.int i :: .ref (B + a) :: rest)) := by
  obtain ⟨⟨hT, hin⟩, hf⟩ := ob_some hf
  exact W.zald hx hb (h_cI hw hT (by decide) (by decide)) (h_ty13 hX _ _) (fun q => by cases q) (h_in2 hin) (h_rd2 hin) rfl rfl hdg (kk _ hf)
theorem h_lald {κ : Int64 → Option α} (hf : (aldl T σ a i).bind κ = some z) (hx : p.tables.exec = Jvm.exec) (hb : c.code = cc) (hX : h_X E A s s.heap) (hw : h_W E B T H0 σ H locs) (hdg : decode cc pc = .ok (.laload, 1))
    (kk : ∀ x : Int64, κ x = some z → W p l e R s m args below meth c H locs cells slots Q (F0 m (pc + 1) ls (.long x :: rest))) : W p l e R s m args below meth c H locs cells slots Q (F0 m pc ls (.int i :: .ref (B + a) :: rest)) := by
  obtain ⟨⟨hT, hin⟩, hf⟩ := ob_some hf
  exact W.lald hx hb (h_cL hw hT) (h_ty14 hX _ _) (fun q => by cases q) (h_in2 hin) (h_rd2 hin) rfl rfl hdg (kk _ hf)
theorem h_aald15 {κ : Nat → Option α} (hf : (aldr 15 T σ a i).bind κ = some z) (hx : p.tables.exec = Jvm.exec) (hb : c.code = cc) (hX : h_X E A s s.heap) (hw : h_W E B T H0 σ H locs) (hdg : decode cc pc = .ok (.aaload, 1))
    (kk : ∀ x : Nat, κ x = some z → W p l e R s m args below meth c H locs cells slots Q (F0 m (pc + 1) ls (.ref (B + x) :: rest))) : W p l e R s m args below meth c H locs cells slots Q (F0 m pc ls (.int i :: .ref (B + a) :: rest)) := by
  obtain ⟨⟨hT, hin⟩, x, hx2, hf⟩ := ob_opt hf
  exact W.aald (v := .ref (B + x)) hx hb (h_cR hw hT (by decide) (by decide)) (h_ty15 hX _ _) rfl (fun q => by cases q) (h_in2 hin) ((h_rd2 hin).trans (by rw [hx2]; rfl)) rfl rfl hdg (kk _ hf)
theorem h_aald16 {κ : Nat → Option α} (hf : (aldr 16 T σ a i).bind κ = some z) (hx : p.tables.exec = Jvm.exec) (hb : c.code = cc) (hX : h_X E A s s.heap) (hw : h_W E B T H0 σ H locs) (hdg : decode cc pc = .ok (.aaload, 1))
    (kk : ∀ x : Nat, κ x = some z → W p l e R s m args below meth c H locs cells slots Q (F0 m (pc + 1) ls (.ref (B + x) :: rest))) : W p l e R s m args below meth c H locs cells slots Q (F0 m pc ls (.int i :: .ref (B + a) :: rest)) := by
  obtain ⟨⟨hT, hin⟩, x, hx2, hf⟩ := ob_opt hf
  exact W.aald (v := .ref (B + x)) hx hb (h_cR hw hT (by decide) (by decide)) (h_ty16 hX _ _) rfl (fun q => by cases q) (h_in2 hin) ((h_rd2 hin).trans (by rw [hx2]; rfl)) rfl rfl hdg (kk _ hf)
theorem h_aald17 {κ : Nat → Option α} (hf : (aldr 17 T σ a i).bind κ = some z) (hx : p.tables.exec = Jvm.exec) (hb : c.code = cc) (hX : h_X E A s s.heap) (hw : h_W E B T H0 σ H locs) (hdg : decode cc pc = .ok (.aaload, 1))
    (kk : ∀ x : Nat, κ x = some z → W p l e R s m args below meth c H locs cells slots Q (F0 m (pc + 1) ls (.ref (B + x) :: rest))) : W p l e R s m args below meth c H locs cells slots Q (F0 m pc ls (.int i :: .ref (B + a) :: rest)) := by
  obtain ⟨⟨hT, hin⟩, x, hx2, hf⟩ := ob_opt hf
  exact W.aald (v := .ref (B + x)) hx hb (h_cR hw hT (by decide) (by decide)) (h_ty17 hX _ _) rfl (fun q => by cases q) (h_in2 hin) ((h_rd2 hin).trans (by rw [hx2]; rfl)) rfl rfl hdg (kk _ hf)
theorem h_upI {cA : ClassId} {n k : Nat} {f : Nat → Int32} {v : Int32} : (arrV cA n (fun j => .int (f j))).setSlot k (.int v) = arrV cA n (fun j => .int (if j = k then v else f j)) := by
  rw [arrV_store]
  congr 1
  funext q
  by_cases hq : q = k
  · subst hq; simp [updV]
  · simp [updV, hq]
theorem h_atI {t k : Nat} {v : Int32} {H1 : Heap} (hT : T.1 a = t) (h1 : 11 ≤ t) (h2 : t ≤ 13) (he : H1[B + a]? = some ((arrV (E.2.1 t) (T.2 a) (fun j => .int (σ.1 a j))).setSlot k (.int v))) : h_at E B T (wI σ a k v) H1 a := by
  refine ⟨fun ci h3 h4 => (by omega), fun t' h3 h4 h5 => ?_⟩
  have et : t' = t := by omega
  subst et
  rw [he, h_upI, h_arrI h2, vp_cell_i]
  congr 2
  funext j
  by_cases hj : j = k <;> simp [wI, h_w2, hj]
theorem h_iast {κ : hM → Option α} {v : Int32} (hf : (asti T σ a i v).bind κ = some z) (hx : p.tables.exec = Jvm.exec) (hb : c.code = cc) (hX : h_X E A s s.heap) (hw : h_W E B T H0 σ H locs) (hdg : decode cc pc = .ok (.iastore, 1))
    (kk : ∀ (σ1 : hM) (H1 : Heap) (locs1 : List Loc), κ σ1 = some z → h_W E B T H0 σ1 H1 locs1 → W p l e R s m args below meth c H1 locs1 cells slots Q (F0 m (pc + 1) ls rest)) : W p l e R s m args below meth c H locs cells slots Q (F0 m pc ls (.int v :: .int i :: .ref (B + a) :: rest)) := by
  obtain ⟨⟨hT, hin⟩, hf⟩ := ob_some hf
  refine W.iast hx hb (h_cI hw hT (by decide) (by decide)) (h_ty11 hX _ _) (fun q => by cases q) (h_in2 hin) rfl rfl hdg fun H1 he zz oq => ?_
  exact kk _ H1 _ hf (hw.put (by omega) h_w2I (h_atI hT (by decide) (by decide) he) oq zz)
theorem h_bast {κ : hM → Option α} {v : Int32} (hf : (astb T σ a i v).bind κ = some z) (hx : p.tables.exec = Jvm.exec) (hb : c.code = cc) (hX : h_X E A s s.heap) (hw : h_W E B T H0 σ H locs) (hdg : decode cc pc = .ok (.bastore, 1))
    (kk : ∀ (σ1 : hM) (H1 : Heap) (locs1 : List Loc), κ σ1 = some z → h_W E B T H0 σ1 H1 locs1 → W p l e R s m args below meth c H1 locs1 cells slots Q (F0 m (pc + 1) ls rest)) : W p l e R s m args below meth c H locs cells slots Q (F0 m pc ls (.int v :: .int i :: .ref (B + a) :: rest)) := by
  obtain ⟨⟨hT, hin⟩, hf⟩ := ob_some hf
  refine W.bast hx hb (h_cI hw hT (by decide) (by decide)) (h_ty12 hX _ _) (fun q => by cases q) (h_in2 hin) rfl rfl hdg fun H1 he zz oq => ?_
  exact kk _ H1 _ hf (hw.put (by omega) h_w2I (h_atI hT (by decide) (by decide) (he.trans (by simp [vp_nar]; try rfl))) oq zz)
theorem h_zast {κ : hM → Option α} {v : Int32} (hf : (astz T σ a i v).bind κ = some z) (hx : p.tables.exec = Jvm.exec) (hb : c.code = cc) (hX : h_X E A s s.heap) (hw : h_W E B T H0 σ H locs) (hdg : decode cc pc = .ok (.bastore, 1))
    (kk : ∀ (σ1 : hM) (H1 : Heap) (locs1 : List Loc), κ σ1 = some z → h_W E B T H0 σ1 H1 locs1 → W p l e R s m args below meth c H1 locs1 cells slots Q (F0 m (pc + 1) ls rest)) : W p l e R s m args below meth c H locs cells slots Q (F0 m pc ls (.int v :: .int i :: .ref (B + a) :: rest)) := by
  obtain ⟨⟨hT, hin⟩, hf⟩ := ob_some hf
  refine W.zast hx hb (h_cI hw hT (by decide) (by decide)) (h_ty13 hX _ _) (fun q => by cases q) (h_in2 hin) rfl rfl hdg fun H1 he zz oq => ?_
  exact kk _ H1 _ hf (hw.put (by omega) h_w2I (h_atI hT (by decide) (by decide) (he.trans (by simp [vp_nar]; try rfl))) oq zz)
theorem h_last {κ : hM → Option α} {v : Int64} (hf : (astl T σ a i v).bind κ = some z) (hx : p.tables.exec = Jvm.exec) (hb : c.code = cc) (hX : h_X E A s s.heap) (hw : h_W E B T H0 σ H locs) (hdg : decode cc pc = .ok (.lastore, 1))
    (kk : ∀ (σ1 : hM) (H1 : Heap) (locs1 : List Loc), κ σ1 = some z → h_W E B T H0 σ1 H1 locs1 → W p l e R s m args below meth c H1 locs1 cells slots Q (F0 m (pc + 1) ls rest)) : W p l e R s m args below meth c H locs cells slots Q (F0 m pc ls (.long v :: .int i :: .ref (B + a) :: rest)) := by
  obtain ⟨⟨hT, hin⟩, hf⟩ := ob_some hf
  refine W.last hx hb (h_cL hw hT) (h_ty14 hX _ _) (fun q => by cases q) (h_in2 hin) rfl rfl hdg fun H1 he zz oq => ?_
  refine kk _ H1 _ hf (hw.put (by omega) h_w2L ⟨fun ci h3 h4 => (by omega), fun t' h3 h4 h5 => ?_⟩ oq zz)
  have et : t' = 14 := by omega
  subst et
  rw [he, h_arrL, vp_cell_l, arrV_store]
  congr 2
  funext q
  by_cases hq : q = i.toNatClampNeg
  · subst hq; simp [updV, wL, h_w2]
  · simp [updV, wL, h_w2, hq]
theorem h_alen {κ : Int32 → Option α} (hf : (aln T a).bind κ = some z) (hx : p.tables.exec = Jvm.exec) (hb : c.code = cc) (hX : h_X E A s s.heap) (hw : h_W E B T H0 σ H locs) (hdg : decode cc pc = .ok (.arraylength, 1))
    (kk : ∀ x : Int32, κ x = some z → W p l e R s m args below meth c H locs cells slots Q (F0 m (pc + 1) ls (.int x :: rest))) : W p l e R s m args below meth c H locs cells slots Q (F0 m pc ls (.ref (B + a) :: rest)) := by
  obtain ⟨⟨h1, h2⟩, hf⟩ := ob_some hf
  have hk := kk _ hf
  rcases (show T.1 a = 11 ∨ T.1 a = 12 ∨ T.1 a = 13 ∨ T.1 a = 14 ∨ T.1 a = 15 ∨ T.1 a = 16 ∨ T.1 a = 17 by omega) with hT | hT | hT | hT | hT | hT | hT
  · exact W.alen hx hb (h_cI hw hT (by decide) (by decide)) (h_ty11 hX _ _) (by rw [arrV_size]) rfl rfl hdg hk
  · exact W.alen hx hb (h_cI hw hT (by decide) (by decide)) (h_ty12 hX _ _) (by rw [arrV_size]) rfl rfl hdg hk
  · exact W.alen hx hb (h_cI hw hT (by decide) (by decide)) (h_ty13 hX _ _) (by rw [arrV_size]) rfl rfl hdg hk
  · exact W.alen hx hb (h_cL hw hT) (h_ty14 hX _ _) (by rw [arrV_size]) rfl rfl hdg hk
  · exact W.alen hx hb (h_cR hw hT (by decide) (by decide)) (h_ty15 hX _ _) (by rw [arrV_size]) rfl rfl hdg hk
  · exact W.alen hx hb (h_cR hw hT (by decide) (by decide)) (h_ty16 hX _ _) (by rw [arrV_size]) rfl rfl hdg hk
  · exact W.alen hx hb (h_cR hw hT (by decide) (by decide)) (h_ty17 hX _ _) (by rw [arrV_size]) rfl rfl hdg hk
end HA
end
section
/-! ROWS: calls and returns -/
theorem h_good {y : MethodName} {cc : ByteArray} {nL : Nat} {ret : Option FieldType} (hc : Cond.code y cc nL ret ∈ h_tbl) : GoodIn h_tbl (Cond.code y cc nL ret :: h_tbl) := fun w hw => by
  rcases List.mem_cons.mp hw with rfl | h
  · exact ⟨hc, good_of_word (List.mem_filter.mp hc).2⟩
  · exact ⟨h, good_of_word (List.mem_filter.mp h).2⟩
/-- what the tables say of a method -/
def h_MY (y : MethodName) (cc : ByteArray) (nL : Nat) (ret : Option FieldType) (n : Nat) : Prop := Cond.code y cc nL ret ∈ h_tbl ∧ Cond.initialized y.cls ∈ h_tbl ∧ (y.cls ≠ "java/lang/invoke/MethodHandle" ∧ y.cls ≠ "java/lang/invoke/VarHandle" ∧ (parseMethodDescriptor y.desc).map (fun d => d.parameters.length) = some n)
def h_MI (y : MethodName) : Prop := Cond.instanceMethod y ∈ h_tbl ∧ Cond.selects y.cls y y ∈ h_tbl
theorem h_blind {E : hE} {B : Nat} {T : hT} {As : List Value} {σ : hM} {sz : Nat} : FrameBlind (h_Pc E B T As σ sz) := fun a U g mk ⟨q0, q1, q2, q3⟩ => ⟨q0, q1, q2, h_X.same (H := U.heap) (u := U) rfl q3⟩
section HC
variable {p : Program} {l : Launch} {e : Env} {R : Room} {s : State} {m : MethodId} {args : Array Value} {below : List Frame} {meth : Method} {c : Code} {H : Heap} {locs : List Loc} {cells slots : Nat} {Q : State → Prop}
variable {cc : ByteArray} {pc nL : Nat} {ls : Array Slot} {rest st0 As : List Value} {E : hE} {B : Nat} {T : hT} {σ σ' : hM} {α : Type} {z : α} {a ci index d2 n nL2 : Nat} {own host : String} {y : MethodName} {cc2 : ByteArray} {ret2 : Option FieldType} {v : Option Value}
theorem h_X.go {H : Heap} {U : State} (hX : h_X E (h_A B T s.heap.size) s s.heap) (hw : h_W E B T s.heap σ H locs) (hU : U.heap = H) (hW : s.WarmedH U.vm) : h_Pc E B T As σ H.size As.toArray U :=
  ⟨rfl, by rw [hU], by rw [hU]; exact hw.1, by rw [hU, hw.2.2]; exact (hX.warm hW).kept hw.2.1.2.1⟩
theorem h_call {a1 : Array Value} (hr : va_Run p l e R s m args below meth c H locs cells slots 0 0 (F0 m pc ls st0) rest (h_Q E B T H.size v σ' a1) (h_A B T H.size)) {H0 : Heap} (hw : h_W E B T H0 σ H locs)
    (kk : ∀ (H1 : Heap) (locs1 : List Loc), h_W E B T H0 σ' H1 locs1 → W p l e R s m args below meth c H1 locs1 cells slots Q (F0 m (pc + 3) ls (v.toList ++ rest))) : W p l e R s m args below meth c H locs cells slots Q (F0 m pc ls st0) := by
  intro TT hT X
  obtain ⟨v', st₀, t, T', L, h0, X', hL, e1, e2, ⟨⟨hv, hp, hz⟩, hF1, hF2⟩, st⟩ := hr TT hT X
  cases hv
  rw [h0] at hF1 hF2
  have hsz : T'.heap.size = H0.size := by rw [e1, hz, hw.2.2]
  obtain ⟨t2, a2, b2⟩ := kk T'.heap (locs ++ L) ⟨by rw [e1]; exact hp, ⟨Nat.le_of_eq hsz.symm, fun q h1 h2 => by
      rw [e1, hF2 q (by rw [hw.2.2]; exact h1) (by rw [hw.2.2]; exact h2)]
      exact hw.2.1.2.1 q h1 h2, fun q hq => by
      rcases List.mem_append.mp hq with h | h
      · exact hw.2.1.2.2 q h
      · rw [← hw.2.2]; exact hL q h⟩, hsz⟩ T' rfl X'
  exact ⟨t2, st t2 a2, b2⟩
/-- the receiver -/
theorem h_recv (hX : h_X E (h_A B T s.heap.size) s s.heap) {H0 : Heap} (hw : h_W E B T H0 σ H locs) (hT : T.1 a = ci + 1) (hci : ci < 10) : ∃ cell : Cell, H[B + a]? = some cell ∧ cell.vm.isStatics = false ∧ s.vm.findClass (h_C ci) = some cell.cls := by
  obtain ⟨cell, q1, q2, q3, q4⟩ := (hw.1.1 a).1 ci hT hci
  obtain ⟨hS, hfc, -⟩ := hX.1.1 ci _ (h_cl_ok ci hci)
  exact ⟨cell, q1, by rw [q3]; rfl, by rw [q2]; exact hfc⟩
theorem h_cV0 (hx : p.tables.exec = Jvm.exec) (hb : c.code = cc) (hml : c.maxLocals = nL) (hts : ∀ w ∈ h_tbl, w.before args s = true) (hown : s.vm.findClass own = some m.cls) (hX : h_X E (h_A B T s.heap.size) s s.heap) (hw : h_W E B T s.heap σ H locs)
    (hMY : h_MY y cc2 nL2 ret2 n) (hMI : h_MI y) (hlk : Cond.methodLink own index y ∈ h_tbl) (hcls : y.cls = h_C ci ∧ ci < 10) (hT : T.1 a = ci + 1) (hC : h_Ct l E B T y cc2 nL2 ret2 d2 (.ref (B + a) :: As) σ σ' v) (hR : d2 + 1 ≤ R.frames ∧ 8 + (nL2 + 11) + 40 * d2 ≤ R.locals) (hcs : cells ≤ R.cells ∧ slots ≤ R.slots)
    (hn : As.length = n) (hsz : ls.size = nL) (hst : st0 = As.reverse ++ .ref (B + a) :: rest) (hcat : (rest.map fun v => v.category).sum ≤ 8) (hdg : decode cc pc = .ok (.invokevirtual index, 3))
    (kk : ∀ (H1 : Heap) (locs1 : List Loc), h_W E B T s.heap σ' H1 locs1 → W p l e R s m args below meth c H1 locs1 cells slots Q (F0 m (pc + 3) ls (v.toList ++ rest))) : W p l e R s m args below meth c H locs cells slots Q (F0 m pc ls st0) := by
  obtain ⟨g1, g2, g3⟩ := hMY
  refine h_call (va_runV (C := y.cls) (Ts := h_tbl) ⟨hx, hb, hml, hown, hts⟩ (hC H.size) ⟨callB_of n hts (h_good g1) rfl rfl rfl (hts _ g2) (hts _ hlk) g3 hR, hts _ hMI.1, hts _ hMI.2⟩ ⟨h_blind, by rw [hcls.1]; exact h_recv hX hw hT hcls.2, fun U hU hW => h_X.go hX hw hU hW⟩ rfl hn hsz hst (lv_room hcat) hdg hcs) hw kk
theorem h_cVN0 (hx : p.tables.exec = Jvm.exec) (hb : c.code = cc) (hml : c.maxLocals = nL) (hts : ∀ w ∈ h_tbl, w.before args s = true) (hown : s.vm.findClass own = some m.cls) (hX : h_X E (h_A B T s.heap.size) s s.heap) (hw : h_W E B T s.heap σ H locs)
    (hMY : h_MY y cc2 nL2 ret2 n) (hMI : h_MI y) (hlk : Cond.methodLinkNest own index y host ∈ h_nest) (hcls : y.cls = h_C ci ∧ ci < 10) (hT : T.1 a = ci + 1) (hC : h_Ct l E B T y cc2 nL2 ret2 d2 (.ref (B + a) :: As) σ σ' v) (hR : d2 + 1 ≤ R.frames ∧ 8 + (nL2 + 11) + 40 * d2 ≤ R.locals) (hcs : cells ≤ R.cells ∧ slots ≤ R.slots)
    (hn : As.length = n) (hsz : ls.size = nL) (hst : st0 = As.reverse ++ .ref (B + a) :: rest) (hcat : (rest.map fun v => v.category).sum ≤ 8) (hdg : decode cc pc = .ok (.invokevirtual index, 3))
    (kk : ∀ (H1 : Heap) (locs1 : List Loc), h_W E B T s.heap σ' H1 locs1 → W p l e R s m args below meth c H1 locs1 cells slots Q (F0 m (pc + 3) ls (v.toList ++ rest))) : W p l e R s m args below meth c H locs cells slots Q (F0 m pc ls st0) := by
  obtain ⟨g1, g2, g3⟩ := hMY
  refine h_call (va_runVN (C := y.cls) (Ts := h_tbl) ⟨hx, hb, hml, hown, hts⟩ (hC H.size) ⟨va_cnB n hts (h_good g1) rfl rfl rfl (hX.2.1 _ hlk) (hts _ g2) g3 hR, hts _ hMI.1, hts _ hMI.2⟩ ⟨h_blind, by rw [hcls.1]; exact h_recv hX hw hT hcls.2, fun U hU hW => h_X.go hX hw hU hW⟩ rfl hn hsz hst (lv_room hcat) hdg hcs) hw kk
theorem h_cS0 (hx : p.tables.exec = Jvm.exec) (hb : c.code = cc) (hml : c.maxLocals = nL) (hts : ∀ w ∈ h_tbl, w.before args s = true) (hown : s.vm.findClass own = some m.cls) (hX : h_X E (h_A B T s.heap.size) s s.heap) (hw : h_W E B T s.heap σ H locs)
    (hMY : h_MY y cc2 nL2 ret2 n) (hMS : Cond.static y ∈ h_tbl) (hlk : Cond.methodLink own index y ∈ h_tbl) (hC : h_Ct l E B T y cc2 nL2 ret2 d2 As σ σ' v) (hR : d2 + 1 ≤ R.frames ∧ 8 + (nL2 + 11) + 40 * d2 ≤ R.locals) (hcs : cells ≤ R.cells ∧ slots ≤ R.slots)
    (hn : As.length = n) (hsz : ls.size = nL) (hst : st0 = As.reverse ++ rest) (hcat : (rest.map fun v => v.category).sum ≤ 8) (hdg : decode cc pc = .ok (.invokestatic index, 3))
    (kk : ∀ (H1 : Heap) (locs1 : List Loc), h_W E B T s.heap σ' H1 locs1 → W p l e R s m args below meth c H1 locs1 cells slots Q (F0 m (pc + 3) ls (v.toList ++ rest))) : W p l e R s m args below meth c H locs cells slots Q (F0 m pc ls st0) := by
  obtain ⟨g1, g2, g3⟩ := hMY
  refine h_call (va_runS (Ts := h_tbl) ⟨hx, hb, hml, hown, hts⟩ (hC H.size) ⟨callB_of n hts (h_good g1) rfl rfl rfl (hts _ g2) (hts _ hlk) g3 hR, hts _ hMS⟩ ⟨h_blind, fun U hU hW => h_X.go hX hw hU hW⟩ rfl hn hsz hst (lv_room hcat) hdg hcs) hw kk
theorem h_cSN0 (hx : p.tables.exec = Jvm.exec) (hb : c.code = cc) (hml : c.maxLocals = nL) (hts : ∀ w ∈ h_tbl, w.before args s = true) (hown : s.vm.findClass own = some m.cls) (hX : h_X E (h_A B T s.heap.size) s s.heap) (hw : h_W E B T s.heap σ H locs)
    (hMY : h_MY y cc2 nL2 ret2 n) (hMS : Cond.static y ∈ h_tbl) (hlk : Cond.methodLinkNest own index y host ∈ h_nest) (hC : h_Ct l E B T y cc2 nL2 ret2 d2 As σ σ' v) (hR : d2 + 1 ≤ R.frames ∧ 8 + (nL2 + 11) + 40 * d2 ≤ R.locals) (hcs : cells ≤ R.cells ∧ slots ≤ R.slots)
    (hn : As.length = n) (hsz : ls.size = nL) (hst : st0 = As.reverse ++ rest) (hcat : (rest.map fun v => v.category).sum ≤ 8) (hdg : decode cc pc = .ok (.invokestatic index, 3))
    (kk : ∀ (H1 : Heap) (locs1 : List Loc), h_W E B T s.heap σ' H1 locs1 → W p l e R s m args below meth c H1 locs1 cells slots Q (F0 m (pc + 3) ls (v.toList ++ rest))) : W p l e R s m args below meth c H locs cells slots Q (F0 m pc ls st0) := by
  obtain ⟨g1, g2, g3⟩ := hMY
  refine h_call (va_runSN (Ts := h_tbl) ⟨hx, hb, hml, hown, hts⟩ (hC H.size) ⟨va_cnB n hts (h_good g1) rfl rfl rfl (hX.2.1 _ hlk) (hts _ g2) g3 hR, hts _ hMS, trivial⟩ ⟨h_blind, fun U hU hW => h_X.go hX hw hU hW⟩ rfl hn hsz hst (lv_room hcat) hdg hcs) hw kk
theorem h_bind {α β : Type} {o : Option α} {κ : α → Option β} {z : β} (h : o.bind κ = some z) : ∃ x, o = some x ∧ κ x = some z := by
  cases o with
  | none => cases h
  | some x => exact ⟨x, rfl, h⟩
/-- returns -/
theorem h_endQ {v : Option Value} {H0 : Heap} (hw : h_W E B T s.heap σ H locs) : ∀ t : State, t.heap = H → s.WarmedH t.vm → h_Q E B T s.heap.size v σ args s (.returned v) t := fun t ht _ => ⟨⟨rfl, by rw [ht]; exact hw.1, by rw [ht]; exact hw.2.2⟩, hw.2.1.F ht⟩
theorem h_iret {x : Int32} {q : Int32 × hM} (hf : some (x, σ) = some q) (hx : p.tables.exec = Jvm.exec) (hb : c.code = cc) (hr : meth.sig.returnType = some .int) (hlk : meth.locks = false) (hw : h_W E B T s.heap σ H locs) (hdg : decode cc pc = .ok (.ireturn, 1)) :
    W p l e R s m args below meth c H locs 0 0 (MQ below (h_Q E B T s.heap.size (some (.int q.1)) q.2) args s 0 0 (h_A B T s.heap.size)) (F0 m pc ls [.int x]) := by
  cases hf
  exact W.iret hx hb hr (h_endQ (H0 := H) hw) hw.2.1.2.2 hdg hlk
theorem h_zret {x : Int32} {q : Int32 × hM} (hf : rtz x σ = some q) (hx : p.tables.exec = Jvm.exec) (hb : c.code = cc) (hr : meth.sig.returnType = some .boolean) (hlk : meth.locks = false) (hw : h_W E B T s.heap σ H locs) (hdg : decode cc pc = .ok (.ireturn, 1)) :
    W p l e R s m args below meth c H locs 0 0 (MQ below (h_Q E B T s.heap.size (some (.int q.1)) q.2) args s 0 0 (h_A B T s.heap.size)) (F0 m pc ls [.int x]) := by
  unfold rtz at hf
  by_cases h01 : x = 0 ∨ x = 1
  · rw [if_pos h01] at hf
    have hn : narrow .boolean (.int x) = .int x := by rcases h01 with rfl | rfl <;> rfl
    cases hf
    exact W.zret hx hb hr hn (h_endQ (H0 := H) hw) hw.2.1.2.2 hdg hlk
  · rw [if_neg h01] at hf; cases hf
theorem h_vret {q : hM} (hf : some σ = some q) (hx : p.tables.exec = Jvm.exec) (hb : c.code = cc) (hr : meth.sig.returnType = none) (hlk : meth.locks = false) (hw : h_W E B T s.heap σ H locs) (hdg : decode cc pc = .ok (.return_, 1)) :
    W p l e R s m args below meth c H locs 0 0 (MQ below (h_Q E B T s.heap.size none q) args s 0 0 (h_A B T s.heap.size)) (F0 m pc ls []) := by
  cases hf
  exact W.vret hx hb hr (h_endQ (H0 := H) hw) hw.2.1.2.2 hdg hlk
theorem h_lret {x : Int64} {q : Int64 × hM} (hf : some (x, σ) = some q) (hx : p.tables.exec = Jvm.exec) (hb : c.code = cc) (hr : meth.sig.returnType = some .long) (hlk : meth.locks = false) (hw : h_W E B T s.heap σ H locs) (hdg : decode cc pc = .ok (.lreturn, 1)) :
    W p l e R s m args below meth c H locs 0 0 (MQ below (h_Q E B T s.heap.size (some (.long q.1)) q.2) args s 0 0 (h_A B T s.heap.size)) (F0 m pc ls [.long x]) := by
  cases hf
  exact W.lret hx hb hr (h_endQ (H0 := H) hw) hw.2.1.2.2 hdg hlk
end HC
end
