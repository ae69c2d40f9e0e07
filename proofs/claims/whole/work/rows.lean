section
-- ===== PART A: goes FIRST, ahead of the names: the tables' words, and 'selects' of the private methods out of them =====
/-- a private method of a class that the tables say can be made, by its rows of tables_1 -/
def lw_okq (q : MethodName × Nat) : Prop := (q.1.cls ≠ "java/lang/invoke/MethodHandle" ∧ q.1.cls ≠ "java/lang/invoke/VarHandle") ∧ Cond.instantiable q.1.cls q.2 ∈ tables_1 ∧ Cond.privateMethod q.1 ∈ tables_1 ∧ Cond.instanceMethod q.1 ∈ tables_1
theorem lw_p0 : lw_okq (⟨"VillageRounds$Reader", "readClause", "()Z"⟩, 3) := ⟨⟨by decide +kernel, by decide +kernel⟩, List.mem_of_getElem? (i := 196) (by decide +kernel), List.mem_of_getElem? (i := 407) (by decide +kernel), List.mem_of_getElem? (i := 408) (by decide +kernel)⟩
theorem lw_p1 : lw_okq (⟨"VillageRounds$Reader", "readWord", "()I"⟩, 3) := ⟨⟨by decide +kernel, by decide +kernel⟩, List.mem_of_getElem? (i := 196) (by decide +kernel), List.mem_of_getElem? (i := 411) (by decide +kernel), List.mem_of_getElem? (i := 412) (by decide +kernel)⟩
theorem lw_p2 : lw_okq (⟨"VillageRounds$Reader", "sameBytes", "(Ljava/lang/String;)I"⟩, 3) := ⟨⟨by decide +kernel, by decide +kernel⟩, List.mem_of_getElem? (i := 196) (by decide +kernel), List.mem_of_getElem? (i := 424) (by decide +kernel), List.mem_of_getElem? (i := 425) (by decide +kernel)⟩
theorem lw_p3 : lw_okq (⟨"VillageRounds$Reader", "readAny", "(I)Z"⟩, 3) := ⟨⟨by decide +kernel, by decide +kernel⟩, List.mem_of_getElem? (i := 196) (by decide +kernel), List.mem_of_getElem? (i := 481) (by decide +kernel), List.mem_of_getElem? (i := 482) (by decide +kernel)⟩
theorem lw_p4 : lw_okq (⟨"VillageRounds$Reader", "readOne", "(I)Z"⟩, 3) := ⟨⟨by decide +kernel, by decide +kernel⟩, List.mem_of_getElem? (i := 196) (by decide +kernel), List.mem_of_getElem? (i := 485) (by decide +kernel), List.mem_of_getElem? (i := 486) (by decide +kernel)⟩
theorem lw_p5 : lw_okq (⟨"VillageRounds$Reader", "sees", "(C)Z"⟩, 3) := ⟨⟨by decide +kernel, by decide +kernel⟩, List.mem_of_getElem? (i := 196) (by decide +kernel), List.mem_of_getElem? (i := 489) (by decide +kernel), List.mem_of_getElem? (i := 490) (by decide +kernel)⟩
theorem lw_p6 : lw_okq (⟨"VillageRounds$Reader", "readOpen", "(I)Z"⟩, 3) := ⟨⟨by decide +kernel, by decide +kernel⟩, List.mem_of_getElem? (i := 196) (by decide +kernel), List.mem_of_getElem? (i := 493) (by decide +kernel), List.mem_of_getElem? (i := 494) (by decide +kernel)⟩
theorem lw_p7 : lw_okq (⟨"VillageRounds$Reader", "take", "(C)Z"⟩, 3) := ⟨⟨by decide +kernel, by decide +kernel⟩, List.mem_of_getElem? (i := 196) (by decide +kernel), List.mem_of_getElem? (i := 497) (by decide +kernel), List.mem_of_getElem? (i := 498) (by decide +kernel)⟩
theorem lw_p8 : lw_okq (⟨"VillageRounds$Reader", "takeOf", "(Ljava/lang/String;)I"⟩, 3) := ⟨⟨by decide +kernel, by decide +kernel⟩, List.mem_of_getElem? (i := 196) (by decide +kernel), List.mem_of_getElem? (i := 506) (by decide +kernel), List.mem_of_getElem? (i := 507) (by decide +kernel)⟩
theorem lw_p9 : lw_okq (⟨"VillageRounds$Reader", "readNumber", "()I"⟩, 3) := ⟨⟨by decide +kernel, by decide +kernel⟩, List.mem_of_getElem? (i := 196) (by decide +kernel), List.mem_of_getElem? (i := 568) (by decide +kernel), List.mem_of_getElem? (i := 569) (by decide +kernel)⟩
theorem lw_p10 : lw_okq (⟨"VillageRounds$Land", "look", "(LVillageRounds$Hill;II)V"⟩, 10) := ⟨⟨by decide +kernel, by decide +kernel⟩, List.mem_of_getElem? (i := 93) (by decide +kernel), List.mem_of_getElem? (i := 621) (by decide +kernel), List.mem_of_getElem? (i := 622) (by decide +kernel)⟩
theorem lw_p11 : lw_okq (⟨"VillageRounds$Land", "holds", "(I)Z"⟩, 10) := ⟨⟨by decide +kernel, by decide +kernel⟩, List.mem_of_getElem? (i := 93) (by decide +kernel), List.mem_of_getElem? (i := 625) (by decide +kernel), List.mem_of_getElem? (i := 626) (by decide +kernel)⟩
theorem lw_p12 : lw_okq (⟨"VillageRounds$Land", "passes", "(I)I"⟩, 10) := ⟨⟨by decide +kernel, by decide +kernel⟩, List.mem_of_getElem? (i := 93) (by decide +kernel), List.mem_of_getElem? (i := 631) (by decide +kernel), List.mem_of_getElem? (i := 632) (by decide +kernel)⟩
theorem lw_p13 : lw_okq (⟨"VillageRounds", "beginRule", "(I)V"⟩, 8) := ⟨⟨by decide +kernel, by decide +kernel⟩, List.mem_of_getElem? (i := 20) (by decide +kernel), List.mem_of_getElem? (i := 686) (by decide +kernel), List.mem_of_getElem? (i := 687) (by decide +kernel)⟩
theorem lw_p14 : lw_okq (⟨"VillageRounds$Chief", "picksInTurn", "()I"⟩, 8) := ⟨⟨by decide +kernel, by decide +kernel⟩, List.mem_of_getElem? (i := 220) (by decide +kernel), List.mem_of_getElem? (i := 699) (by decide +kernel), List.mem_of_getElem? (i := 700) (by decide +kernel)⟩
theorem lw_p15 : lw_okq (⟨"VillageRounds$Chief", "picksFewest", "()I"⟩, 8) := ⟨⟨by decide +kernel, by decide +kernel⟩, List.mem_of_getElem? (i := 220) (by decide +kernel), List.mem_of_getElem? (i := 703) (by decide +kernel), List.mem_of_getElem? (i := 704) (by decide +kernel)⟩
def lw_privs_1 : List (MethodName × Nat) := [(⟨"VillageRounds$Reader", "readClause", "()Z"⟩, 3), (⟨"VillageRounds$Reader", "readWord", "()I"⟩, 3), (⟨"VillageRounds$Reader", "sameBytes", "(Ljava/lang/String;)I"⟩, 3), (⟨"VillageRounds$Reader", "readAny", "(I)Z"⟩, 3), (⟨"VillageRounds$Reader", "readOne", "(I)Z"⟩, 3), (⟨"VillageRounds$Reader", "sees", "(C)Z"⟩, 3), (⟨"VillageRounds$Reader", "readOpen", "(I)Z"⟩, 3), (⟨"VillageRounds$Reader", "take", "(C)Z"⟩, 3), (⟨"VillageRounds$Reader", "takeOf", "(Ljava/lang/String;)I"⟩, 3), (⟨"VillageRounds$Reader", "readNumber", "()I"⟩, 3), (⟨"VillageRounds$Land", "look", "(LVillageRounds$Hill;II)V"⟩, 10), (⟨"VillageRounds$Land", "holds", "(I)Z"⟩, 10), (⟨"VillageRounds$Land", "passes", "(I)I"⟩, 10), (⟨"VillageRounds", "beginRule", "(I)V"⟩, 8), (⟨"VillageRounds$Chief", "picksInTurn", "()I"⟩, 8), (⟨"VillageRounds$Chief", "picksFewest", "()I"⟩, 8)]
theorem lw_r1 : ∀ q ∈ lw_privs_1, lw_okq q := List.forall_mem_cons.mpr ⟨lw_p0, List.forall_mem_cons.mpr ⟨lw_p1, List.forall_mem_cons.mpr ⟨lw_p2, List.forall_mem_cons.mpr ⟨lw_p3, List.forall_mem_cons.mpr ⟨lw_p4, List.forall_mem_cons.mpr ⟨lw_p5, List.forall_mem_cons.mpr ⟨lw_p6, List.forall_mem_cons.mpr ⟨lw_p7, List.forall_mem_cons.mpr ⟨lw_p8, List.forall_mem_cons.mpr ⟨lw_p9, List.forall_mem_cons.mpr ⟨lw_p10, List.forall_mem_cons.mpr ⟨lw_p11, List.forall_mem_cons.mpr ⟨lw_p12, List.forall_mem_cons.mpr ⟨lw_p13, List.forall_mem_cons.mpr ⟨lw_p14, List.forall_mem_cons.mpr ⟨lw_p15, fun _ h => absurd h List.not_mem_nil⟩⟩⟩⟩⟩⟩⟩⟩⟩⟩⟩⟩⟩⟩⟩⟩
theorem lw_p16 : lw_okq (⟨"VillageRounds$Chief", "isBetter", "(II)Z"⟩, 8) := ⟨⟨by decide +kernel, by decide +kernel⟩, List.mem_of_getElem? (i := 220) (by decide +kernel), List.mem_of_getElem? (i := 712) (by decide +kernel), List.mem_of_getElem? (i := 713) (by decide +kernel)⟩
theorem lw_p17 : lw_okq (⟨"VillageRounds$Chief", "picksByRank", "(I)I"⟩, 8) := ⟨⟨by decide +kernel, by decide +kernel⟩, List.mem_of_getElem? (i := 220) (by decide +kernel), List.mem_of_getElem? (i := 722) (by decide +kernel), List.mem_of_getElem? (i := 723) (by decide +kernel)⟩
theorem lw_p18 : lw_okq (⟨"VillageRounds$Chief", "rankOf", "(II)I"⟩, 8) := ⟨⟨by decide +kernel, by decide +kernel⟩, List.mem_of_getElem? (i := 220) (by decide +kernel), List.mem_of_getElem? (i := 726) (by decide +kernel), List.mem_of_getElem? (i := 727) (by decide +kernel)⟩
theorem lw_p19 : lw_okq (⟨"VillageRounds$Chief", "firstInRank", "()I"⟩, 8) := ⟨⟨by decide +kernel, by decide +kernel⟩, List.mem_of_getElem? (i := 220) (by decide +kernel), List.mem_of_getElem? (i := 730) (by decide +kernel), List.mem_of_getElem? (i := 731) (by decide +kernel)⟩
theorem lw_p20 : lw_okq (⟨"VillageRounds", "mostMouths", "(I)I"⟩, 8) := ⟨⟨by decide +kernel, by decide +kernel⟩, List.mem_of_getElem? (i := 20) (by decide +kernel), List.mem_of_getElem? (i := 767) (by decide +kernel), List.mem_of_getElem? (i := 768) (by decide +kernel)⟩
theorem lw_p21 : lw_okq (⟨"VillageRounds$Circle", "note", "(I)V"⟩, 5) := ⟨⟨by decide +kernel, by decide +kernel⟩, List.mem_of_getElem? (i := 294) (by decide +kernel), List.mem_of_getElem? (i := 783) (by decide +kernel), List.mem_of_getElem? (i := 784) (by decide +kernel)⟩
theorem lw_p22 : lw_okq (⟨"VillageRounds$Circle", "firstLike", "(I)I"⟩, 5) := ⟨⟨by decide +kernel, by decide +kernel⟩, List.mem_of_getElem? (i := 294) (by decide +kernel), List.mem_of_getElem? (i := 796) (by decide +kernel), List.mem_of_getElem? (i := 797) (by decide +kernel)⟩
theorem lw_p23 : lw_okq (⟨"VillageRounds$Circle", "isSame", "(II)Z"⟩, 5) := ⟨⟨by decide +kernel, by decide +kernel⟩, List.mem_of_getElem? (i := 294) (by decide +kernel), List.mem_of_getElem? (i := 800) (by decide +kernel), List.mem_of_getElem? (i := 801) (by decide +kernel)⟩
theorem lw_p24 : lw_okq (⟨"VillageRounds", "tells", "(II)Z"⟩, 8) := ⟨⟨by decide +kernel, by decide +kernel⟩, List.mem_of_getElem? (i := 20) (by decide +kernel), List.mem_of_getElem? (i := 850) (by decide +kernel), List.mem_of_getElem? (i := 851) (by decide +kernel)⟩
theorem lw_p25 : lw_okq (⟨"VillageRounds$Play", "call", "(IIII)I"⟩, 5) := ⟨⟨by decide +kernel, by decide +kernel⟩, List.mem_of_getElem? (i := 318) (by decide +kernel), List.mem_of_getElem? (i := 866) (by decide +kernel), List.mem_of_getElem? (i := 867) (by decide +kernel)⟩
theorem lw_p26 : lw_okq (⟨"VillageRounds$Play", "run", "(III)I"⟩, 5) := ⟨⟨by decide +kernel, by decide +kernel⟩, List.mem_of_getElem? (i := 318) (by decide +kernel), List.mem_of_getElem? (i := 872) (by decide +kernel), List.mem_of_getElem? (i := 873) (by decide +kernel)⟩
theorem lw_p27 : lw_okq (⟨"VillageRounds$Play", "callAbove", "(IIII)I"⟩, 5) := ⟨⟨by decide +kernel, by decide +kernel⟩, List.mem_of_getElem? (i := 318) (by decide +kernel), List.mem_of_getElem? (i := 876) (by decide +kernel), List.mem_of_getElem? (i := 877) (by decide +kernel)⟩
theorem lw_p28 : lw_okq (⟨"VillageRoundsModel", "isPlot", "(I)Z"⟩, 26) := ⟨⟨by decide +kernel, by decide +kernel⟩, List.mem_of_getElem? (i := 915) (by decide +kernel), List.mem_of_getElem? (i := 1011) (by decide +kernel), List.mem_of_getElem? (i := 1012) (by decide +kernel)⟩
theorem lw_p29 : lw_okq (⟨"VillageRoundsModel", "clauseHere", "()V"⟩, 26) := ⟨⟨by decide +kernel, by decide +kernel⟩, List.mem_of_getElem? (i := 915) (by decide +kernel), List.mem_of_getElem? (i := 1032) (by decide +kernel), List.mem_of_getElem? (i := 1033) (by decide +kernel)⟩
theorem lw_p30 : lw_okq (⟨"VillageRoundsModel", "here", "()I"⟩, 26) := ⟨⟨by decide +kernel, by decide +kernel⟩, List.mem_of_getElem? (i := 915) (by decide +kernel), List.mem_of_getElem? (i := 1036) (by decide +kernel), List.mem_of_getElem? (i := 1037) (by decide +kernel)⟩
theorem lw_p31 : lw_okq (⟨"VillageRoundsModel", "must", "(I)V"⟩, 26) := ⟨⟨by decide +kernel, by decide +kernel⟩, List.mem_of_getElem? (i := 915) (by decide +kernel), List.mem_of_getElem? (i := 1040) (by decide +kernel), List.mem_of_getElem? (i := 1041) (by decide +kernel)⟩
def lw_privs_2 : List (MethodName × Nat) := [(⟨"VillageRounds$Chief", "isBetter", "(II)Z"⟩, 8), (⟨"VillageRounds$Chief", "picksByRank", "(I)I"⟩, 8), (⟨"VillageRounds$Chief", "rankOf", "(II)I"⟩, 8), (⟨"VillageRounds$Chief", "firstInRank", "()I"⟩, 8), (⟨"VillageRounds", "mostMouths", "(I)I"⟩, 8), (⟨"VillageRounds$Circle", "note", "(I)V"⟩, 5), (⟨"VillageRounds$Circle", "firstLike", "(I)I"⟩, 5), (⟨"VillageRounds$Circle", "isSame", "(II)Z"⟩, 5), (⟨"VillageRounds", "tells", "(II)Z"⟩, 8), (⟨"VillageRounds$Play", "call", "(IIII)I"⟩, 5), (⟨"VillageRounds$Play", "run", "(III)I"⟩, 5), (⟨"VillageRounds$Play", "callAbove", "(IIII)I"⟩, 5), (⟨"VillageRoundsModel", "isPlot", "(I)Z"⟩, 26), (⟨"VillageRoundsModel", "clauseHere", "()V"⟩, 26), (⟨"VillageRoundsModel", "here", "()I"⟩, 26), (⟨"VillageRoundsModel", "must", "(I)V"⟩, 26)]
theorem lw_r2 : ∀ q ∈ lw_privs_2, lw_okq q := List.forall_mem_cons.mpr ⟨lw_p16, List.forall_mem_cons.mpr ⟨lw_p17, List.forall_mem_cons.mpr ⟨lw_p18, List.forall_mem_cons.mpr ⟨lw_p19, List.forall_mem_cons.mpr ⟨lw_p20, List.forall_mem_cons.mpr ⟨lw_p21, List.forall_mem_cons.mpr ⟨lw_p22, List.forall_mem_cons.mpr ⟨lw_p23, List.forall_mem_cons.mpr ⟨lw_p24, List.forall_mem_cons.mpr ⟨lw_p25, List.forall_mem_cons.mpr ⟨lw_p26, List.forall_mem_cons.mpr ⟨lw_p27, List.forall_mem_cons.mpr ⟨lw_p28, List.forall_mem_cons.mpr ⟨lw_p29, List.forall_mem_cons.mpr ⟨lw_p30, List.forall_mem_cons.mpr ⟨lw_p31, fun _ h => absurd h List.not_mem_nil⟩⟩⟩⟩⟩⟩⟩⟩⟩⟩⟩⟩⟩⟩⟩⟩
theorem lw_p32 : lw_okq (⟨"VillageRoundsModel", "tellsHere", "(ILjava/lang/String;I)V"⟩, 26) := ⟨⟨by decide +kernel, by decide +kernel⟩, List.mem_of_getElem? (i := 915) (by decide +kernel), List.mem_of_getElem? (i := 1045) (by decide +kernel), List.mem_of_getElem? (i := 1046) (by decide +kernel)⟩
theorem lw_p33 : lw_okq (⟨"VillageRoundsModel", "spells", "(Ljava/lang/String;)V"⟩, 26) := ⟨⟨by decide +kernel, by decide +kernel⟩, List.mem_of_getElem? (i := 915) (by decide +kernel), List.mem_of_getElem? (i := 1049) (by decide +kernel), List.mem_of_getElem? (i := 1050) (by decide +kernel)⟩
theorem lw_p34 : lw_okq (⟨"VillageRoundsModel", "figures", "()I"⟩, 26) := ⟨⟨by decide +kernel, by decide +kernel⟩, List.mem_of_getElem? (i := 915) (by decide +kernel), List.mem_of_getElem? (i := 1055) (by decide +kernel), List.mem_of_getElem? (i := 1056) (by decide +kernel)⟩
theorem lw_p35 : lw_okq (⟨"VillageRoundsModel", "some", "()V"⟩, 26) := ⟨⟨by decide +kernel, by decide +kernel⟩, List.mem_of_getElem? (i := 915) (by decide +kernel), List.mem_of_getElem? (i := 1060) (by decide +kernel), List.mem_of_getElem? (i := 1061) (by decide +kernel)⟩
theorem lw_p36 : lw_okq (⟨"VillageRoundsModel", "every", "()V"⟩, 26) := ⟨⟨by decide +kernel, by decide +kernel⟩, List.mem_of_getElem? (i := 915) (by decide +kernel), List.mem_of_getElem? (i := 1064) (by decide +kernel), List.mem_of_getElem? (i := 1065) (by decide +kernel)⟩
theorem lw_p37 : lw_okq (⟨"VillageRoundsModel", "factor", "()V"⟩, 26) := ⟨⟨by decide +kernel, by decide +kernel⟩, List.mem_of_getElem? (i := 915) (by decide +kernel), List.mem_of_getElem? (i := 1068) (by decide +kernel), List.mem_of_getElem? (i := 1069) (by decide +kernel)⟩
theorem lw_p38 : lw_okq (⟨"VillageRoundsModel", "emits", "(I)V"⟩, 26) := ⟨⟨by decide +kernel, by decide +kernel⟩, List.mem_of_getElem? (i := 915) (by decide +kernel), List.mem_of_getElem? (i := 1072) (by decide +kernel), List.mem_of_getElem? (i := 1073) (by decide +kernel)⟩
theorem lw_p39 : lw_okq (⟨"VillageRoundsModel", "among", "(Ljava/lang/String;)I"⟩, 26) := ⟨⟨by decide +kernel, by decide +kernel⟩, List.mem_of_getElem? (i := 915) (by decide +kernel), List.mem_of_getElem? (i := 1077) (by decide +kernel), List.mem_of_getElem? (i := 1078) (by decide +kernel)⟩
theorem lw_p40 : lw_okq (⟨"VillageRoundsModel", "walk", "()I"⟩, 26) := ⟨⟨by decide +kernel, by decide +kernel⟩, List.mem_of_getElem? (i := 915) (by decide +kernel), List.mem_of_getElem? (i := 1090) (by decide +kernel), List.mem_of_getElem? (i := 1091) (by decide +kernel)⟩
theorem lw_p41 : lw_okq (⟨"VillageRoundsModel", "tellsOf", "(II)I"⟩, 26) := ⟨⟨by decide +kernel, by decide +kernel⟩, List.mem_of_getElem? (i := 915) (by decide +kernel), List.mem_of_getElem? (i := 1094) (by decide +kernel), List.mem_of_getElem? (i := 1095) (by decide +kernel)⟩
theorem lw_p42 : lw_okq (⟨"VillageRoundsModel", "givesOf", "(III)I"⟩, 26) := ⟨⟨by decide +kernel, by decide +kernel⟩, List.mem_of_getElem? (i := 915) (by decide +kernel), List.mem_of_getElem? (i := 1098) (by decide +kernel), List.mem_of_getElem? (i := 1099) (by decide +kernel)⟩
theorem lw_p43 : lw_okq (⟨"VillageRoundsModel", "wornThen", "(I)I"⟩, 26) := ⟨⟨by decide +kernel, by decide +kernel⟩, List.mem_of_getElem? (i := 915) (by decide +kernel), List.mem_of_getElem? (i := 1105) (by decide +kernel), List.mem_of_getElem? (i := 1106) (by decide +kernel)⟩
theorem lw_p44 : lw_okq (⟨"VillageRoundsModel", "looks", "(III)V"⟩, 26) := ⟨⟨by decide +kernel, by decide +kernel⟩, List.mem_of_getElem? (i := 915) (by decide +kernel), List.mem_of_getElem? (i := 1109) (by decide +kernel), List.mem_of_getElem? (i := 1110) (by decide +kernel)⟩
theorem lw_p45 : lw_okq (⟨"VillageRoundsModel", "goesBy", "(IIZ)I"⟩, 26) := ⟨⟨by decide +kernel, by decide +kernel⟩, List.mem_of_getElem? (i := 915) (by decide +kernel), List.mem_of_getElem? (i := 1117) (by decide +kernel), List.mem_of_getElem? (i := 1118) (by decide +kernel)⟩
theorem lw_p46 : lw_okq (⟨"VillageRoundsModel", "sumOf", "(II)I"⟩, 26) := ⟨⟨by decide +kernel, by decide +kernel⟩, List.mem_of_getElem? (i := 915) (by decide +kernel), List.mem_of_getElem? (i := 1121) (by decide +kernel), List.mem_of_getElem? (i := 1122) (by decide +kernel)⟩
theorem lw_p47 : lw_okq (⟨"VillageRoundsModel", "isRule", "(I)Z"⟩, 26) := ⟨⟨by decide +kernel, by decide +kernel⟩, List.mem_of_getElem? (i := 915) (by decide +kernel), List.mem_of_getElem? (i := 1133) (by decide +kernel), List.mem_of_getElem? (i := 1134) (by decide +kernel)⟩
def lw_privs_3 : List (MethodName × Nat) := [(⟨"VillageRoundsModel", "tellsHere", "(ILjava/lang/String;I)V"⟩, 26), (⟨"VillageRoundsModel", "spells", "(Ljava/lang/String;)V"⟩, 26), (⟨"VillageRoundsModel", "figures", "()I"⟩, 26), (⟨"VillageRoundsModel", "some", "()V"⟩, 26), (⟨"VillageRoundsModel", "every", "()V"⟩, 26), (⟨"VillageRoundsModel", "factor", "()V"⟩, 26), (⟨"VillageRoundsModel", "emits", "(I)V"⟩, 26), (⟨"VillageRoundsModel", "among", "(Ljava/lang/String;)I"⟩, 26), (⟨"VillageRoundsModel", "walk", "()I"⟩, 26), (⟨"VillageRoundsModel", "tellsOf", "(II)I"⟩, 26), (⟨"VillageRoundsModel", "givesOf", "(III)I"⟩, 26), (⟨"VillageRoundsModel", "wornThen", "(I)I"⟩, 26), (⟨"VillageRoundsModel", "looks", "(III)V"⟩, 26), (⟨"VillageRoundsModel", "goesBy", "(IIZ)I"⟩, 26), (⟨"VillageRoundsModel", "sumOf", "(II)I"⟩, 26), (⟨"VillageRoundsModel", "isRule", "(I)Z"⟩, 26)]
theorem lw_r3 : ∀ q ∈ lw_privs_3, lw_okq q := List.forall_mem_cons.mpr ⟨lw_p32, List.forall_mem_cons.mpr ⟨lw_p33, List.forall_mem_cons.mpr ⟨lw_p34, List.forall_mem_cons.mpr ⟨lw_p35, List.forall_mem_cons.mpr ⟨lw_p36, List.forall_mem_cons.mpr ⟨lw_p37, List.forall_mem_cons.mpr ⟨lw_p38, List.forall_mem_cons.mpr ⟨lw_p39, List.forall_mem_cons.mpr ⟨lw_p40, List.forall_mem_cons.mpr ⟨lw_p41, List.forall_mem_cons.mpr ⟨lw_p42, List.forall_mem_cons.mpr ⟨lw_p43, List.forall_mem_cons.mpr ⟨lw_p44, List.forall_mem_cons.mpr ⟨lw_p45, List.forall_mem_cons.mpr ⟨lw_p46, List.forall_mem_cons.mpr ⟨lw_p47, fun _ h => absurd h List.not_mem_nil⟩⟩⟩⟩⟩⟩⟩⟩⟩⟩⟩⟩⟩⟩⟩⟩
theorem lw_p48 : lw_okq (⟨"VillageRoundsModel", "burntBy", "(III)I"⟩, 26) := ⟨⟨by decide +kernel, by decide +kernel⟩, List.mem_of_getElem? (i := 915) (by decide +kernel), List.mem_of_getElem? (i := 1137) (by decide +kernel), List.mem_of_getElem? (i := 1138) (by decide +kernel)⟩
theorem lw_p49 : lw_okq (⟨"VillageRoundsModel", "looksAt", "(I)V"⟩, 26) := ⟨⟨by decide +kernel, by decide +kernel⟩, List.mem_of_getElem? (i := 915) (by decide +kernel), List.mem_of_getElem? (i := 1141) (by decide +kernel), List.mem_of_getElem? (i := 1142) (by decide +kernel)⟩
theorem lw_p50 : lw_okq (⟨"VillageRoundsModel", "bestSet", "()I"⟩, 26) := ⟨⟨by decide +kernel, by decide +kernel⟩, List.mem_of_getElem? (i := 915) (by decide +kernel), List.mem_of_getElem? (i := 1145) (by decide +kernel), List.mem_of_getElem? (i := 1146) (by decide +kernel)⟩
theorem lw_p51 : lw_okq (⟨"VillageRoundsModel", "oneByOne", "(III)I"⟩, 26) := ⟨⟨by decide +kernel, by decide +kernel⟩, List.mem_of_getElem? (i := 915) (by decide +kernel), List.mem_of_getElem? (i := 1152) (by decide +kernel), List.mem_of_getElem? (i := 1153) (by decide +kernel)⟩
theorem lw_p52 : lw_okq (⟨"VillageRoundsModel", "isLeftOut", "(IIII)Z"⟩, 26) := ⟨⟨by decide +kernel, by decide +kernel⟩, List.mem_of_getElem? (i := 915) (by decide +kernel), List.mem_of_getElem? (i := 1156) (by decide +kernel), List.mem_of_getElem? (i := 1157) (by decide +kernel)⟩
theorem lw_p53 : lw_okq (⟨"VillageRoundsModel", "isAhead", "(IIII)Z"⟩, 26) := ⟨⟨by decide +kernel, by decide +kernel⟩, List.mem_of_getElem? (i := 915) (by decide +kernel), List.mem_of_getElem? (i := 1163) (by decide +kernel), List.mem_of_getElem? (i := 1164) (by decide +kernel)⟩
theorem lw_p54 : lw_okq (⟨"VillageRoundsModel", "movesTo", "(II)I"⟩, 26) := ⟨⟨by decide +kernel, by decide +kernel⟩, List.mem_of_getElem? (i := 915) (by decide +kernel), List.mem_of_getElem? (i := 1171) (by decide +kernel), List.mem_of_getElem? (i := 1172) (by decide +kernel)⟩
theorem lw_p55 : lw_okq (⟨"VillageRoundsModel", "harvestAt", "(III)I"⟩, 26) := ⟨⟨by decide +kernel, by decide +kernel⟩, List.mem_of_getElem? (i := 915) (by decide +kernel), List.mem_of_getElem? (i := 1175) (by decide +kernel), List.mem_of_getElem? (i := 1176) (by decide +kernel)⟩
theorem lw_p56 : lw_okq (⟨"VillageRoundsModel", "yearBy", "(IIZ)I"⟩, 26) := ⟨⟨by decide +kernel, by decide +kernel⟩, List.mem_of_getElem? (i := 915) (by decide +kernel), List.mem_of_getElem? (i := 1183) (by decide +kernel), List.mem_of_getElem? (i := 1184) (by decide +kernel)⟩
theorem lw_p57 : lw_okq (⟨"VillageRoundsModel", "keeps", "()V"⟩, 26) := ⟨⟨by decide +kernel, by decide +kernel⟩, List.mem_of_getElem? (i := 915) (by decide +kernel), List.mem_of_getElem? (i := 1195) (by decide +kernel), List.mem_of_getElem? (i := 1196) (by decide +kernel)⟩
theorem lw_p58 : lw_okq (⟨"VillageRoundsModel", "putsBack", "()V"⟩, 26) := ⟨⟨by decide +kernel, by decide +kernel⟩, List.mem_of_getElem? (i := 915) (by decide +kernel), List.mem_of_getElem? (i := 1199) (by decide +kernel), List.mem_of_getElem? (i := 1200) (by decide +kernel)⟩
theorem lw_p59 : lw_okq (⟨"VillageRoundsModel", "mostMouths", "(III)I"⟩, 26) := ⟨⟨by decide +kernel, by decide +kernel⟩, List.mem_of_getElem? (i := 915) (by decide +kernel), List.mem_of_getElem? (i := 1207) (by decide +kernel), List.mem_of_getElem? (i := 1208) (by decide +kernel)⟩
theorem lw_p60 : lw_okq (⟨"VillageRoundsModel", "firstHungry", "(IIIZ)I"⟩, 26) := ⟨⟨by decide +kernel, by decide +kernel⟩, List.mem_of_getElem? (i := 915) (by decide +kernel), List.mem_of_getElem? (i := 1211) (by decide +kernel), List.mem_of_getElem? (i := 1212) (by decide +kernel)⟩
theorem lw_p61 : lw_okq (⟨"VillageRoundsModel", "notes", "(II)V"⟩, 26) := ⟨⟨by decide +kernel, by decide +kernel⟩, List.mem_of_getElem? (i := 915) (by decide +kernel), List.mem_of_getElem? (i := 1219) (by decide +kernel), List.mem_of_getElem? (i := 1220) (by decide +kernel)⟩
theorem lw_p62 : lw_okq (⟨"VillageRoundsModel", "formerOf", "(I)I"⟩, 26) := ⟨⟨by decide +kernel, by decide +kernel⟩, List.mem_of_getElem? (i := 915) (by decide +kernel), List.mem_of_getElem? (i := 1223) (by decide +kernel), List.mem_of_getElem? (i := 1224) (by decide +kernel)⟩
theorem lw_p63 : lw_okq (⟨"VillageRoundsModel", "burnsActs", "(I)I"⟩, 26) := ⟨⟨by decide +kernel, by decide +kernel⟩, List.mem_of_getElem? (i := 915) (by decide +kernel), List.mem_of_getElem? (i := 1260) (by decide +kernel), List.mem_of_getElem? (i := 1261) (by decide +kernel)⟩
def lw_privs_4 : List (MethodName × Nat) := [(⟨"VillageRoundsModel", "burntBy", "(III)I"⟩, 26), (⟨"VillageRoundsModel", "looksAt", "(I)V"⟩, 26), (⟨"VillageRoundsModel", "bestSet", "()I"⟩, 26), (⟨"VillageRoundsModel", "oneByOne", "(III)I"⟩, 26), (⟨"VillageRoundsModel", "isLeftOut", "(IIII)Z"⟩, 26), (⟨"VillageRoundsModel", "isAhead", "(IIII)Z"⟩, 26), (⟨"VillageRoundsModel", "movesTo", "(II)I"⟩, 26), (⟨"VillageRoundsModel", "harvestAt", "(III)I"⟩, 26), (⟨"VillageRoundsModel", "yearBy", "(IIZ)I"⟩, 26), (⟨"VillageRoundsModel", "keeps", "()V"⟩, 26), (⟨"VillageRoundsModel", "putsBack", "()V"⟩, 26), (⟨"VillageRoundsModel", "mostMouths", "(III)I"⟩, 26), (⟨"VillageRoundsModel", "firstHungry", "(IIIZ)I"⟩, 26), (⟨"VillageRoundsModel", "notes", "(II)V"⟩, 26), (⟨"VillageRoundsModel", "formerOf", "(I)I"⟩, 26), (⟨"VillageRoundsModel", "burnsActs", "(I)I"⟩, 26)]
theorem lw_r4 : ∀ q ∈ lw_privs_4, lw_okq q := List.forall_mem_cons.mpr ⟨lw_p48, List.forall_mem_cons.mpr ⟨lw_p49, List.forall_mem_cons.mpr ⟨lw_p50, List.forall_mem_cons.mpr ⟨lw_p51, List.forall_mem_cons.mpr ⟨lw_p52, List.forall_mem_cons.mpr ⟨lw_p53, List.forall_mem_cons.mpr ⟨lw_p54, List.forall_mem_cons.mpr ⟨lw_p55, List.forall_mem_cons.mpr ⟨lw_p56, List.forall_mem_cons.mpr ⟨lw_p57, List.forall_mem_cons.mpr ⟨lw_p58, List.forall_mem_cons.mpr ⟨lw_p59, List.forall_mem_cons.mpr ⟨lw_p60, List.forall_mem_cons.mpr ⟨lw_p61, List.forall_mem_cons.mpr ⟨lw_p62, List.forall_mem_cons.mpr ⟨lw_p63, fun _ h => absurd h List.not_mem_nil⟩⟩⟩⟩⟩⟩⟩⟩⟩⟩⟩⟩⟩⟩⟩⟩
theorem lw_p64 : lw_okq (⟨"VillageRoundsModel", "runs", "(I)V"⟩, 26) := ⟨⟨by decide +kernel, by decide +kernel⟩, List.mem_of_getElem? (i := 915) (by decide +kernel), List.mem_of_getElem? (i := 1264) (by decide +kernel), List.mem_of_getElem? (i := 1265) (by decide +kernel)⟩
theorem lw_p65 : lw_okq (⟨"VillageRoundsModel", "plainBurns", "(I)I"⟩, 26) := ⟨⟨by decide +kernel, by decide +kernel⟩, List.mem_of_getElem? (i := 915) (by decide +kernel), List.mem_of_getElem? (i := 1268) (by decide +kernel), List.mem_of_getElem? (i := 1269) (by decide +kernel)⟩
theorem lw_p66 : lw_okq (⟨"VillageRoundsModel", "restsActs", "(I)I"⟩, 26) := ⟨⟨by decide +kernel, by decide +kernel⟩, List.mem_of_getElem? (i := 915) (by decide +kernel), List.mem_of_getElem? (i := 1272) (by decide +kernel), List.mem_of_getElem? (i := 1273) (by decide +kernel)⟩
theorem lw_p67 : lw_okq (⟨"VillageRoundsModel", "restRests", "(I)I"⟩, 26) := ⟨⟨by decide +kernel, by decide +kernel⟩, List.mem_of_getElem? (i := 915) (by decide +kernel), List.mem_of_getElem? (i := 1276) (by decide +kernel), List.mem_of_getElem? (i := 1277) (by decide +kernel)⟩
theorem lw_p68 : lw_okq (⟨"VillageRoundsModel", "plainRests", "(I)I"⟩, 26) := ⟨⟨by decide +kernel, by decide +kernel⟩, List.mem_of_getElem? (i := 915) (by decide +kernel), List.mem_of_getElem? (i := 1280) (by decide +kernel), List.mem_of_getElem? (i := 1281) (by decide +kernel)⟩
theorem lw_p69 : lw_okq (⟨"VillageRoundsModel", "tellsActs", "(I)I"⟩, 26) := ⟨⟨by decide +kernel, by decide +kernel⟩, List.mem_of_getElem? (i := 915) (by decide +kernel), List.mem_of_getElem? (i := 1287) (by decide +kernel), List.mem_of_getElem? (i := 1288) (by decide +kernel)⟩
theorem lw_p70 : lw_okq (⟨"VillageRoundsModel", "nearTells", "(I)I"⟩, 26) := ⟨⟨by decide +kernel, by decide +kernel⟩, List.mem_of_getElem? (i := 915) (by decide +kernel), List.mem_of_getElem? (i := 1291) (by decide +kernel), List.mem_of_getElem? (i := 1292) (by decide +kernel)⟩
theorem lw_p71 : lw_okq (⟨"VillageRoundsModel", "plainTells", "(I)I"⟩, 26) := ⟨⟨by decide +kernel, by decide +kernel⟩, List.mem_of_getElem? (i := 915) (by decide +kernel), List.mem_of_getElem? (i := 1295) (by decide +kernel), List.mem_of_getElem? (i := 1296) (by decide +kernel)⟩
def lw_privs_5 : List (MethodName × Nat) := [(⟨"VillageRoundsModel", "runs", "(I)V"⟩, 26), (⟨"VillageRoundsModel", "plainBurns", "(I)I"⟩, 26), (⟨"VillageRoundsModel", "restsActs", "(I)I"⟩, 26), (⟨"VillageRoundsModel", "restRests", "(I)I"⟩, 26), (⟨"VillageRoundsModel", "plainRests", "(I)I"⟩, 26), (⟨"VillageRoundsModel", "tellsActs", "(I)I"⟩, 26), (⟨"VillageRoundsModel", "nearTells", "(I)I"⟩, 26), (⟨"VillageRoundsModel", "plainTells", "(I)I"⟩, 26)]
theorem lw_r5 : ∀ q ∈ lw_privs_5, lw_okq q := List.forall_mem_cons.mpr ⟨lw_p64, List.forall_mem_cons.mpr ⟨lw_p65, List.forall_mem_cons.mpr ⟨lw_p66, List.forall_mem_cons.mpr ⟨lw_p67, List.forall_mem_cons.mpr ⟨lw_p68, List.forall_mem_cons.mpr ⟨lw_p69, List.forall_mem_cons.mpr ⟨lw_p70, List.forall_mem_cons.mpr ⟨lw_p71, fun _ h => absurd h List.not_mem_nil⟩⟩⟩⟩⟩⟩⟩⟩
def lw_privs : List (MethodName × Nat) := lw_privs_1 ++ (lw_privs_2 ++ (lw_privs_3 ++ (lw_privs_4 ++ (lw_privs_5))))
def lw_tbl : List Cond := k2_sels lw_privs ++ tables_1
theorem lw_privs_ok : ∀ q ∈ lw_privs, lw_okq q := by
  show ∀ q ∈ lw_privs_1 ++ (lw_privs_2 ++ (lw_privs_3 ++ (lw_privs_4 ++ (lw_privs_5)))), lw_okq q
  exact List.forall_mem_append.mpr ⟨lw_r1, List.forall_mem_append.mpr ⟨lw_r2, List.forall_mem_append.mpr ⟨lw_r3, List.forall_mem_append.mpr ⟨lw_r4, lw_r5⟩⟩⟩⟩

def vr_T : List Cond := lw_tbl.filter goodWord
theorem vr_in (i : Nat) {w : Cond} (h : lw_tbl[i]? = some w) (g : goodWord w = true) : w ∈ vr_T := List.mem_filter.mpr ⟨List.mem_of_getElem? h, g⟩
theorem vr_good {w : Cond} (h : w ∈ vr_T) : (w.onTables && w.keeps) = true ∨ ∃ ty, w = .arrayClass ty := good_of_word (List.mem_filter.mp h).2
theorem vr_GT {c c' : Cond} (h : c' ∈ vr_T) : GoodIn (c :: vr_T) (c' :: vr_T) := fun w hw => (List.mem_cons.mp hw).elim (fun e => by subst e; exact ⟨List.mem_cons_of_mem _ h, vr_good h⟩) (fun h' => ⟨List.mem_cons_of_mem _ h', vr_good h'⟩)
theorem vr_GTT {c' : Cond} (h : c' ∈ vr_T) : GoodIn vr_T (c' :: vr_T) := fun w hw => (List.mem_cons.mp hw).elim (fun e => by subst e; exact ⟨h, vr_good h⟩) (fun h' => ⟨h', vr_good h'⟩)
end
section
def RX0 : String := "VillageRounds$Chief"
def TX0 : u_T := fun k => match k with
  | 0 => ("VillageRounds$Chief", "hill", "LVillageRounds$Hill;", true)
  | 1 => ("VillageRounds$Chief", "land", "LVillageRounds$Land;", true)
  | 2 => ("VillageRounds$Chief", "kind", "I", false)
  | 3 => ("VillageRounds$Chief", "v", "I", false)
  | 4 => ("VillageRounds$Chief", "ripe", "[I", true)
  | 5 => ("VillageRounds$Chief", "given", "[I", true)
  | 6 => ("VillageRounds$Chief", "rank", "[I", true)
  | _ => ("VillageRounds$Chief", "sums", "[I", true)
def tyX0 : Nat → FieldType := fun k => match k with
  | 0 => .object "VillageRounds$Hill"
  | 1 => .object "VillageRounds$Land"
  | 2 => .int
  | 3 => .int
  | 4 => .array .int
  | 5 => .array .int
  | 6 => .array .int
  | _ => .array .int
theorem nmX0 : ∀ a, a < 8 → ∀ b, b < 8 → a ≠ b → (TX0 a).2.1 ≠ (TX0 b).2.1 := by decide +kernel
theorem tyX0_ok : ∀ k, k < 8 → parseFieldDescriptor (TX0 k).2.2.1 = some (tyX0 k) := by decide +kernel
abbrev cX0_init : ByteArray := prog_2_method_1_code
def yX0_init : MethodName := ⟨RX0, "<init>", "(LVillageRounds$Hill;LVillageRounds$Land;)V"⟩
abbrev cX0_follow : ByteArray := prog_2_method_2_code
def yX0_follow : MethodName := ⟨RX0, "follow", "(II)V"⟩
abbrev cX0_turn : ByteArray := prog_2_method_3_code
def yX0_turn : MethodName := ⟨RX0, "turn", "()I"⟩
abbrev cX0_lookRound : ByteArray := prog_2_method_4_code
def yX0_lookRound : MethodName := ⟨RX0, "lookRound", "()V"⟩
abbrev cX0_gift : ByteArray := prog_2_method_5_code
def yX0_gift : MethodName := ⟨RX0, "gift", "(III)I"⟩
abbrev cX0_giftOf : ByteArray := prog_2_method_6_code
def yX0_giftOf : MethodName := ⟨RX0, "giftOf", "(II)I"⟩
abbrev cX0_goal : ByteArray := prog_2_method_7_code
def yX0_goal : MethodName := ⟨RX0, "goal", "()I"⟩
abbrev cX0_picks : ByteArray := prog_2_method_8_code
def yX0_picks : MethodName := ⟨RX0, "picks", "(I)I"⟩
abbrev cX0_picksInTurn : ByteArray := prog_2_method_9_code
def yX0_picksInTurn : MethodName := ⟨RX0, "picksInTurn", "()I"⟩
abbrev cX0_picksFewest : ByteArray := prog_2_method_10_code
def yX0_picksFewest : MethodName := ⟨RX0, "picksFewest", "()I"⟩
abbrev cX0_isBetter : ByteArray := prog_2_method_11_code
def yX0_isBetter : MethodName := ⟨RX0, "isBetter", "(II)Z"⟩
abbrev cX0_picksByRank : ByteArray := prog_2_method_12_code
def yX0_picksByRank : MethodName := ⟨RX0, "picksByRank", "(I)I"⟩
abbrev cX0_firstInRank : ByteArray := prog_2_method_13_code
def yX0_firstInRank : MethodName := ⟨RX0, "firstInRank", "()I"⟩
abbrev cX0_rankOf : ByteArray := prog_2_method_14_code
def yX0_rankOf : MethodName := ⟨RX0, "rankOf", "(II)I"⟩
def RX1 : String := "VillageRounds$Circle"
def TX1 : u_T := fun k => match k with
  | 0 => ("VillageRounds$Circle", "trial", "LVillageRounds$Trial;", true)
  | 1 => ("VillageRounds$Circle", "states", "[I", true)
  | 2 => ("VillageRounds$Circle", "harvests", "[I", true)
  | 3 => ("VillageRounds$Circle", "start", "I", false)
  | _ => ("VillageRounds$Circle", "end", "I", false)
def tyX1 : Nat → FieldType := fun k => match k with
  | 0 => .object "VillageRounds$Trial"
  | 1 => .array .int
  | 2 => .array .int
  | 3 => .int
  | _ => .int
theorem nmX1 : ∀ a, a < 5 → ∀ b, b < 5 → a ≠ b → (TX1 a).2.1 ≠ (TX1 b).2.1 := by decide +kernel
theorem tyX1_ok : ∀ k, k < 5 → parseFieldDescriptor (TX1 k).2.2.1 = some (tyX1 k) := by decide +kernel
abbrev cX1_init : ByteArray := prog_3_method_1_code
def yX1_init : MethodName := ⟨RX1, "<init>", "(LVillageRounds$Trial;)V"⟩
abbrev cX1_closes : ByteArray := prog_3_method_2_code
def yX1_closes : MethodName := ⟨RX1, "closes", "()Z"⟩
abbrev cX1_firstLike : ByteArray := prog_3_method_3_code
def yX1_firstLike : MethodName := ⟨RX1, "firstLike", "(I)I"⟩
abbrev cX1_leastHarvest : ByteArray := prog_3_method_4_code
def yX1_leastHarvest : MethodName := ⟨RX1, "leastHarvest", "()I"⟩
abbrev cX1_note : ByteArray := prog_3_method_5_code
def yX1_note : MethodName := ⟨RX1, "note", "(I)V"⟩
abbrev cX1_isSame : ByteArray := prog_3_method_6_code
def yX1_isSame : MethodName := ⟨RX1, "isSame", "(II)Z"⟩
def RX2 : String := "VillageRounds$Hill"
def TX2 : u_T := fun k => match k with
  | 0 => ("VillageRounds$Hill", "soil", "[I", true)
  | 1 => ("VillageRounds$Hill", "place", "[I", true)
  | 2 => ("VillageRounds$Hill", "crop", "[I", true)
  | 3 => ("VillageRounds$Hill", "lain", "[I", true)
  | 4 => ("VillageRounds$Hill", "worn", "[I", true)
  | 5 => ("VillageRounds$Hill", "plots", "I", false)
  | 6 => ("VillageRounds$Hill", "village", "I", false)
  | 7 => ("VillageRounds$Hill", "mouths", "I", false)
  | _ => ("VillageRounds$Hill", "year", "I", false)
def tyX2 : Nat → FieldType := fun k => match k with
  | 0 => .array .int
  | 1 => .array .int
  | 2 => .array .int
  | 3 => .array .int
  | 4 => .array .int
  | 5 => .int
  | 6 => .int
  | 7 => .int
  | _ => .int
theorem nmX2 : ∀ a, a < 9 → ∀ b, b < 9 → a ≠ b → (TX2 a).2.1 ≠ (TX2 b).2.1 := by decide +kernel
theorem tyX2_ok : ∀ k, k < 9 → parseFieldDescriptor (TX2 k).2.2.1 = some (tyX2 k) := by decide +kernel
abbrev cX2_init : ByteArray := prog_4_method_1_code
def yX2_init : MethodName := ⟨RX2, "<init>", "()V"⟩
abbrev cX2_has : ByteArray := prog_4_method_2_code
def yX2_has : MethodName := ⟨RX2, "has", "(I)Z"⟩
abbrev cX2_all : ByteArray := prog_4_method_3_code
def yX2_all : MethodName := ⟨RX2, "all", "()I"⟩
abbrev cX2_add : ByteArray := prog_4_method_4_code
def yX2_add : MethodName := ⟨RX2, "add", "(II)I"⟩
abbrev cX2_become : ByteArray := prog_4_method_5_code
def yX2_become : MethodName := ⟨RX2, "become", "(LVillageRounds$Hill;)V"⟩
abbrev cX2_isMoreWornThan : ByteArray := prog_4_method_6_code
def yX2_isMoreWornThan : MethodName := ⟨RX2, "isMoreWornThan", "(LVillageRounds$Hill;)Z"⟩
abbrev cX2_pass : ByteArray := prog_4_method_7_code
def yX2_pass : MethodName := ⟨RX2, "pass", "(IILVillageRounds$Land;)V"⟩
abbrev cX2_growMouths : ByteArray := prog_4_method_8_code
def yX2_growMouths : MethodName := ⟨RX2, "growMouths", "(I)V"⟩
abbrev cX2_mark : ByteArray := prog_4_method_9_code
def yX2_mark : MethodName := ⟨RX2, "mark", "(I)I"⟩
def RX3 : String := "VillageRounds$Land"
def TX3 : u_T := fun k => match k with
  | 0 => ("VillageRounds$Land", "gives", "[I", true)
  | 1 => ("VillageRounds$Land", "ends", "[I", true)
  | 2 => ("VillageRounds$Land", "steps", "[I", true)
  | 3 => ("VillageRounds$Land", "clauses", "I", false)
  | 4 => ("VillageRounds$Land", "used", "I", false)
  | 5 => ("VillageRounds$Land", "walk", "I", false)
  | 6 => ("VillageRounds$Land", "move", "I", false)
  | 7 => ("VillageRounds$Land", "grow", "I", false)
  | 8 => ("VillageRounds$Land", "dry", "I", false)
  | _ => ("VillageRounds$Land", "seen", "[I", true)
def tyX3 : Nat → FieldType := fun k => match k with
  | 0 => .array .int
  | 1 => .array .int
  | 2 => .array .int
  | 3 => .int
  | 4 => .int
  | 5 => .int
  | 6 => .int
  | 7 => .int
  | 8 => .int
  | _ => .array .int
theorem nmX3 : ∀ a, a < 10 → ∀ b, b < 10 → a ≠ b → (TX3 a).2.1 ≠ (TX3 b).2.1 := by decide +kernel
theorem tyX3_ok : ∀ k, k < 10 → parseFieldDescriptor (TX3 k).2.2.1 = some (tyX3 k) := by decide +kernel
abbrev cX3_init : ByteArray := prog_5_method_1_code
def yX3_init : MethodName := ⟨RX3, "<init>", "()V"⟩
abbrev cX3_clear : ByteArray := prog_5_method_2_code
def yX3_clear : MethodName := ⟨RX3, "clear", "()V"⟩
abbrev cX3_become : ByteArray := prog_5_method_3_code
def yX3_become : MethodName := ⟨RX3, "become", "(LVillageRounds$Land;)V"⟩
abbrev cX3_putStep : ByteArray := prog_5_method_4_code
def yX3_putStep : MethodName := ⟨RX3, "putStep", "(I)V"⟩
abbrev cX3_putGive : ByteArray := prog_5_method_5_code
def yX3_putGive : MethodName := ⟨RX3, "putGive", "(I)V"⟩
abbrev cX3_putWear : ByteArray := prog_5_method_6_code
def yX3_putWear : MethodName := ⟨RX3, "putWear", "()V"⟩
abbrev cX3_putNumber : ByteArray := prog_5_method_7_code
def yX3_putNumber : MethodName := ⟨RX3, "putNumber", "(II)V"⟩
abbrev cX3_wornWhenBurnt : ByteArray := prog_5_method_8_code
def yX3_wornWhenBurnt : MethodName := ⟨RX3, "wornWhenBurnt", "(LVillageRounds$Hill;I)I"⟩
abbrev cX3_yields : ByteArray := prog_5_method_9_code
def yX3_yields : MethodName := ⟨RX3, "yields", "(LVillageRounds$Hill;II)I"⟩
abbrev cX3_look : ByteArray := prog_5_method_10_code
def yX3_look : MethodName := ⟨RX3, "look", "(LVillageRounds$Hill;II)V"⟩
abbrev cX3_holds : ByteArray := prog_5_method_11_code
def yX3_holds : MethodName := ⟨RX3, "holds", "(I)Z"⟩
abbrev cX3_testStep : ByteArray := prog_5_method_12_code
def yX3_testStep : MethodName := ⟨RX3, "testStep", "(III)I"⟩
abbrev cX3_passes : ByteArray := prog_5_method_13_code
def yX3_passes : MethodName := ⟨RX3, "passes", "(I)I"⟩
def RX4 : String := "VillageRounds$Numbers"
def TX4 : u_T := fun k => match k with
  | 0 => ("VillageRounds$Numbers", "items", "[I", true)
  | _ => ("VillageRounds$Numbers", "size", "I", false)
def tyX4 : Nat → FieldType := fun k => match k with
  | 0 => .array .int
  | _ => .int
theorem nmX4 : ∀ a, a < 2 → ∀ b, b < 2 → a ≠ b → (TX4 a).2.1 ≠ (TX4 b).2.1 := by decide +kernel
theorem tyX4_ok : ∀ k, k < 2 → parseFieldDescriptor (TX4 k).2.2.1 = some (tyX4 k) := by decide +kernel
abbrev cX4_init : ByteArray := prog_6_method_1_code
def yX4_init : MethodName := ⟨RX4, "<init>", "(I)V"⟩
abbrev cX4_at : ByteArray := prog_6_method_2_code
def yX4_at : MethodName := ⟨RX4, "at", "(I)I"⟩
abbrev cX4_put : ByteArray := prog_6_method_3_code
def yX4_put : MethodName := ⟨RX4, "put", "(I)I"⟩
abbrev cX4_become : ByteArray := prog_6_method_4_code
def yX4_become : MethodName := ⟨RX4, "become", "(LVillageRounds$Numbers;)V"⟩
def RX5 : String := "VillageRounds$Play"
def TX5 : u_T := fun k => match k with
  | 0 => ("VillageRounds$Play", "trace", "[I", true)
  | 1 => ("VillageRounds$Play", "ran", "I", false)
  | 2 => ("VillageRounds$Play", "kind", "I", false)
  | 3 => ("VillageRounds$Play", "v", "I", false)
  | _ => ("VillageRounds$Play", "number", "I", false)
def tyX5 : Nat → FieldType := fun k => match k with
  | 0 => .array .int
  | 1 => .int
  | 2 => .int
  | 3 => .int
  | _ => .int
theorem nmX5 : ∀ a, a < 5 → ∀ b, b < 5 → a ≠ b → (TX5 a).2.1 ≠ (TX5 b).2.1 := by decide +kernel
theorem tyX5_ok : ∀ k, k < 5 → parseFieldDescriptor (TX5 k).2.2.1 = some (tyX5 k) := by decide +kernel
abbrev cX5_init : ByteArray := prog_7_method_1_code
def yX5_init : MethodName := ⟨RX5, "<init>", "()V"⟩
abbrev cX5_perform : ByteArray := prog_7_method_2_code
def yX5_perform : MethodName := ⟨RX5, "perform", "(IIIII)I"⟩
abbrev cX5_call : ByteArray := prog_7_method_3_code
def yX5_call : MethodName := ⟨RX5, "call", "(IIII)I"⟩
abbrev cX5_callAbove : ByteArray := prog_7_method_4_code
def yX5_callAbove : MethodName := ⟨RX5, "callAbove", "(IIII)I"⟩
abbrev cX5_run : ByteArray := prog_7_method_5_code
def yX5_run : MethodName := ⟨RX5, "run", "(III)I"⟩
def RX6 : String := "VillageRounds$Reader"
def TX6 : u_T := fun k => match k with
  | 0 => ("VillageRounds$Reader", "tape", "LVillageRounds$Numbers;", true)
  | 1 => ("VillageRounds$Reader", "land", "LVillageRounds$Land;", true)
  | _ => ("VillageRounds$Reader", "at", "I", false)
def tyX6 : Nat → FieldType := fun k => match k with
  | 0 => .object "VillageRounds$Numbers"
  | 1 => .object "VillageRounds$Land"
  | _ => .int
theorem nmX6 : ∀ a, a < 3 → ∀ b, b < 3 → a ≠ b → (TX6 a).2.1 ≠ (TX6 b).2.1 := by decide +kernel
theorem tyX6_ok : ∀ k, k < 3 → parseFieldDescriptor (TX6 k).2.2.1 = some (tyX6 k) := by decide +kernel
abbrev cX6_init : ByteArray := prog_8_method_1_code
def yX6_init : MethodName := ⟨RX6, "<init>", "(LVillageRounds$Numbers;LVillageRounds$Land;)V"⟩
abbrev cX6_fault : ByteArray := prog_8_method_2_code
def yX6_fault : MethodName := ⟨RX6, "fault", "()I"⟩
abbrev cX6_readClause : ByteArray := prog_8_method_3_code
def yX6_readClause : MethodName := ⟨RX6, "readClause", "()Z"⟩
abbrev cX6_spelt : ByteArray := prog_8_method_4_code
def yX6_spelt : MethodName := ⟨RX6, "spelt", "(I)Ljava/lang/String;"⟩
abbrev cX6_readWord : ByteArray := prog_8_method_5_code
def yX6_readWord : MethodName := ⟨RX6, "readWord", "()I"⟩
abbrev cX6_sameBytes : ByteArray := prog_8_method_6_code
def yX6_sameBytes : MethodName := ⟨RX6, "sameBytes", "(Ljava/lang/String;)I"⟩
abbrev cX6_sees : ByteArray := prog_8_method_7_code
def yX6_sees : MethodName := ⟨RX6, "sees", "(C)Z"⟩
abbrev cX6_take : ByteArray := prog_8_method_8_code
def yX6_take : MethodName := ⟨RX6, "take", "(C)Z"⟩
abbrev cX6_takeOf : ByteArray := prog_8_method_9_code
def yX6_takeOf : MethodName := ⟨RX6, "takeOf", "(Ljava/lang/String;)I"⟩
abbrev cX6_readNumber : ByteArray := prog_8_method_10_code
def yX6_readNumber : MethodName := ⟨RX6, "readNumber", "()I"⟩
abbrev cX6_readAny : ByteArray := prog_8_method_11_code
def yX6_readAny : MethodName := ⟨RX6, "readAny", "(I)Z"⟩
abbrev cX6_readOne : ByteArray := prog_8_method_12_code
def yX6_readOne : MethodName := ⟨RX6, "readOne", "(I)Z"⟩
abbrev cX6_readOpen : ByteArray := prog_8_method_13_code
def yX6_readOpen : MethodName := ⟨RX6, "readOpen", "(I)Z"⟩
def RX7 : String := "VillageRounds$Trial"
def TX7 : u_T := fun k => match k with
  | 0 => ("VillageRounds$Trial", "start", "LVillageRounds$Hill;", true)
  | 1 => ("VillageRounds$Trial", "land", "LVillageRounds$Land;", true)
  | 2 => ("VillageRounds$Trial", "hill", "LVillageRounds$Hill;", true)
  | 3 => ("VillageRounds$Trial", "chief", "LVillageRounds$Chief;", true)
  | 4 => ("VillageRounds$Trial", "years", "I", false)
  | 5 => ("VillageRounds$Trial", "hungers", "I", false)
  | 6 => ("VillageRounds$Trial", "firstHunger", "I", false)
  | 7 => ("VillageRounds$Trial", "travels", "I", false)
  | 8 => ("VillageRounds$Trial", "harvest", "I", false)
  | 9 => ("VillageRounds$Trial", "fedWet", "Z", false)
  | _ => ("VillageRounds$Trial", "fedDry", "Z", false)
def tyX7 : Nat → FieldType := fun k => match k with
  | 0 => .object "VillageRounds$Hill"
  | 1 => .object "VillageRounds$Land"
  | 2 => .object "VillageRounds$Hill"
  | 3 => .object "VillageRounds$Chief"
  | 4 => .int
  | 5 => .int
  | 6 => .int
  | 7 => .int
  | 8 => .int
  | 9 => .boolean
  | _ => .boolean
theorem nmX7 : ∀ a, a < 11 → ∀ b, b < 11 → a ≠ b → (TX7 a).2.1 ≠ (TX7 b).2.1 := by decide +kernel
theorem tyX7_ok : ∀ k, k < 11 → parseFieldDescriptor (TX7 k).2.2.1 = some (tyX7 k) := by decide +kernel
abbrev cX7_init : ByteArray := prog_9_method_1_code
def yX7_init : MethodName := ⟨RX7, "<init>", "(LVillageRounds$World;)V"⟩
abbrev cX7_begin : ByteArray := prog_9_method_2_code
def yX7_begin : MethodName := ⟨RX7, "begin", "()V"⟩
abbrev cX7_spend : ByteArray := prog_9_method_3_code
def yX7_spend : MethodName := ⟨RX7, "spend", "(IIZ)V"⟩
abbrev cX7_spendYears : ByteArray := prog_9_method_4_code
def yX7_spendYears : MethodName := ⟨RX7, "spendYears", "(IZ)V"⟩
abbrev cX7_staysFed : ByteArray := prog_9_method_5_code
def yX7_staysFed : MethodName := ⟨RX7, "staysFed", "(IZ)Z"⟩
abbrev cX7_fedOfTen : ByteArray := prog_9_method_6_code
def yX7_fedOfTen : MethodName := ⟨RX7, "fedOfTen", "()I"⟩
def RX8 : String := "VillageRounds$World"
def TX8 : u_T := fun k => match k with
  | 0 => ("VillageRounds$World", "hill", "LVillageRounds$Hill;", true)
  | 1 => ("VillageRounds$World", "land", "LVillageRounds$Land;", true)
  | 2 => ("VillageRounds$World", "tape", "LVillageRounds$Numbers;", true)
  | 3 => ("VillageRounds$World", "row", "LVillageRounds$Numbers;", true)
  | 4 => ("VillageRounds$World", "ages", "LVillageRounds$Numbers;", true)
  | 5 => ("VillageRounds$World", "kinds", "LVillageRounds$Numbers;", true)
  | 6 => ("VillageRounds$World", "leads", "LVillageRounds$Numbers;", true)
  | _ => ("VillageRounds$World", "lands", "I", false)
def tyX8 : Nat → FieldType := fun k => match k with
  | 0 => .object "VillageRounds$Hill"
  | 1 => .object "VillageRounds$Land"
  | 2 => .object "VillageRounds$Numbers"
  | 3 => .object "VillageRounds$Numbers"
  | 4 => .object "VillageRounds$Numbers"
  | 5 => .object "VillageRounds$Numbers"
  | 6 => .object "VillageRounds$Numbers"
  | _ => .int
theorem nmX8 : ∀ a, a < 8 → ∀ b, b < 8 → a ≠ b → (TX8 a).2.1 ≠ (TX8 b).2.1 := by decide +kernel
theorem tyX8_ok : ∀ k, k < 8 → parseFieldDescriptor (TX8 k).2.2.1 = some (tyX8 k) := by decide +kernel
abbrev cX8_init : ByteArray := prog_10_method_1_code
def yX8_init : MethodName := ⟨RX8, "<init>", "()V"⟩
abbrev cX8_hasRule : ByteArray := prog_10_method_2_code
def yX8_hasRule : MethodName := ⟨RX8, "hasRule", "(I)Z"⟩
abbrev cX8_become : ByteArray := prog_10_method_3_code
def yX8_become : MethodName := ⟨RX8, "become", "(LVillageRounds$World;)V"⟩
def RX9 : String := "VillageRounds"
def TX9 : u_T := fun k => match k with
  | 0 => ("VillageRounds", "now", "LVillageRounds$World;", true)
  | 1 => ("VillageRounds", "kept", "LVillageRounds$World;", true)
  | 2 => ("VillageRounds", "hasImage", "Z", false)
  | 3 => ("VillageRounds", "draft", "LVillageRounds$Land;", true)
  | 4 => ("VillageRounds", "reader", "LVillageRounds$Reader;", true)
  | 5 => ("VillageRounds", "trial", "LVillageRounds$Trial;", true)
  | 6 => ("VillageRounds", "circle", "LVillageRounds$Circle;", true)
  | _ => ("VillageRounds", "play", "LVillageRounds$Play;", true)
def tyX9 : Nat → FieldType := fun k => match k with
  | 0 => .object "VillageRounds$World"
  | 1 => .object "VillageRounds$World"
  | 2 => .boolean
  | 3 => .object "VillageRounds$Land"
  | 4 => .object "VillageRounds$Reader"
  | 5 => .object "VillageRounds$Trial"
  | 6 => .object "VillageRounds$Circle"
  | _ => .object "VillageRounds$Play"
theorem nmX9 : ∀ a, a < 8 → ∀ b, b < 8 → a ≠ b → (TX9 a).2.1 ≠ (TX9 b).2.1 := by decide +kernel
theorem tyX9_ok : ∀ k, k < 8 → parseFieldDescriptor (TX9 k).2.2.1 = some (tyX9 k) := by decide +kernel
abbrev cX9_init : ByteArray := prog_1_method_1_code
def yX9_init : MethodName := ⟨RX9, "<init>", "()V"⟩
abbrev cX9_plot : ByteArray := prog_1_method_2_code
def yX9_plot : MethodName := ⟨RX9, "plot", "(II)I"⟩
abbrev cX9_of : ByteArray := prog_1_method_3_code
def yX9_of : MethodName := ⟨RX9, "of", "(II)I"⟩
abbrev cX9_lies : ByteArray := prog_1_method_4_code
def yX9_lies : MethodName := ⟨RX9, "lies", "(II)I"⟩
abbrev cX9_feed : ByteArray := prog_1_method_5_code
def yX9_feed : MethodName := ⟨RX9, "feed", "(JI)I"⟩
abbrev cX9_land : ByteArray := prog_1_method_6_code
def yX9_land : MethodName := ⟨RX9, "land", "()I"⟩
abbrev cX9_set : ByteArray := prog_1_method_7_code
def yX9_set : MethodName := ⟨RX9, "set", "(II)I"⟩
abbrev cX9_gives : ByteArray := prog_1_method_8_code
def yX9_gives : MethodName := ⟨RX9, "gives", "(I)I"⟩
abbrev cX9_year : ByteArray := prog_1_method_9_code
def yX9_year : MethodName := ⟨RX9, "year", "(II)I"⟩
abbrev cX9_rule : ByteArray := prog_1_method_10_code
def yX9_rule : MethodName := ⟨RX9, "rule", "(II)I"⟩
abbrev cX9_burns : ByteArray := prog_1_method_11_code
def yX9_burns : MethodName := ⟨RX9, "burns", "(I)I"⟩
abbrev cX9_moves : ByteArray := prog_1_method_12_code
def yX9_moves : MethodName := ⟨RX9, "moves", "(I)I"⟩
abbrev cX9_go : ByteArray := prog_1_method_13_code
def yX9_go : MethodName := ⟨RX9, "go", "(II)I"⟩
abbrev cX9_row : ByteArray := prog_1_method_14_code
def yX9_row : MethodName := ⟨RX9, "row", "(I)I"⟩
abbrev cX9_judged : ByteArray := prog_1_method_15_code
def yX9_judged : MethodName := ⟨RX9, "judged", "()I"⟩
abbrev cX9_proof : ByteArray := prog_1_method_16_code
def yX9_proof : MethodName := ⟨RX9, "proof", "(III)I"⟩
abbrev cX9_ever : ByteArray := prog_1_method_17_code
def yX9_ever : MethodName := ⟨RX9, "ever", "(II)I"⟩
abbrev cX9_less : ByteArray := prog_1_method_18_code
def yX9_less : MethodName := ⟨RX9, "less", "(I)I"⟩
abbrev cX9_safe : ByteArray := prog_1_method_19_code
def yX9_safe : MethodName := ⟨RX9, "safe", "(III)J"⟩
abbrev cX9_two : ByteArray := prog_1_method_20_code
def yX9_two : MethodName := ⟨RX9, "two", "(I)I"⟩
abbrev cX9_way : ByteArray := prog_1_method_21_code
def yX9_way : MethodName := ⟨RX9, "way", "(I)I"⟩
abbrev cX9_age : ByteArray := prog_1_method_22_code
def yX9_age : MethodName := ⟨RX9, "age", "(I)I"⟩
abbrev cX9_round : ByteArray := prog_1_method_23_code
def yX9_round : MethodName := ⟨RX9, "round", "(I)I"⟩
abbrev cX9_act : ByteArray := prog_1_method_24_code
def yX9_act : MethodName := ⟨RX9, "act", "(III)I"⟩
abbrev cX9_trace : ByteArray := prog_1_method_25_code
def yX9_trace : MethodName := ⟨RX9, "trace", "(I)I"⟩
abbrev cX9_as : ByteArray := prog_1_method_26_code
def yX9_as : MethodName := ⟨RX9, "as", "(II)I"⟩
abbrev cX9_image : ByteArray := prog_1_method_27_code
def yX9_image : MethodName := ⟨RX9, "image", "()I"⟩
abbrev cX9_undo : ByteArray := prog_1_method_28_code
def yX9_undo : MethodName := ⟨RX9, "undo", "()I"⟩
abbrev cX9_count : ByteArray := prog_1_method_29_code
def yX9_count : MethodName := ⟨RX9, "count", "(I)I"⟩
abbrev cX9_within : ByteArray := prog_1_method_30_code
def yX9_within : MethodName := ⟨RX9, "within", "(III)Z"⟩
abbrev cX9_beginRule : ByteArray := prog_1_method_31_code
def yX9_beginRule : MethodName := ⟨RX9, "beginRule", "(I)V"⟩
abbrev cX9_mostMouths : ByteArray := prog_1_method_32_code
def yX9_mostMouths : MethodName := ⟨RX9, "mostMouths", "(I)I"⟩
abbrev cX9_tells : ByteArray := prog_1_method_33_code
def yX9_tells : MethodName := ⟨RX9, "tells", "(II)Z"⟩
abbrev cX9_offMultiple : ByteArray := prog_1_method_34_code
def yX9_offMultiple : MethodName := ⟨RX9, "offMultiple", "(II)I"⟩
abbrev cX9_commonDivisor : ByteArray := prog_1_method_35_code
def yX9_commonDivisor : MethodName := ⟨RX9, "commonDivisor", "(JJ)J"⟩
def RX10 : String := "VillageRoundsModel"
def TX10 : u_T := fun k => match k with
  | 0 => ("VillageRoundsModel", "thrown", "I", false)
  | 1 => ("VillageRoundsModel", "s", "[I", true)
  | 2 => ("VillageRoundsModel", "image", "[I", true)
  | 3 => ("VillageRoundsModel", "kept", "[I", true)
  | 4 => ("VillageRoundsModel", "hasImage", "Z", false)
  | 5 => ("VillageRoundsModel", "act", "I", false)
  | 6 => ("VillageRoundsModel", "spot", "I", false)
  | 7 => ("VillageRoundsModel", "end", "I", false)
  | 8 => ("VillageRoundsModel", "isWrong", "Z", false)
  | 9 => ("VillageRoundsModel", "open", "I", false)
  | 10 => ("VillageRoundsModel", "by", "[I", true)
  | 11 => ("VillageRoundsModel", "truths", "[Z", true)
  | 12 => ("VillageRoundsModel", "giving", "I", false)
  | 13 => ("VillageRoundsModel", "wears", "Z", false)
  | 14 => ("VillageRoundsModel", "now", "[I", true)
  | 15 => ("VillageRoundsModel", "wasHungry", "Z", false)
  | 16 => ("VillageRoundsModel", "hasMoved", "Z", false)
  | 17 => ("VillageRoundsModel", "gaveAll", "I", false)
  | 18 => ("VillageRoundsModel", "mouthsThen", "I", false)
  | 19 => ("VillageRoundsModel", "states", "[I", true)
  | 20 => ("VillageRoundsModel", "harvests", "[I", true)
  | 21 => ("VillageRoundsModel", "bodies", "[I", true)
  | 22 => ("VillageRoundsModel", "ran", "I", false)
  | 23 => ("VillageRoundsModel", "kindNow", "I", false)
  | 24 => ("VillageRoundsModel", "number", "I", false)
  | _ => ("VillageRoundsModel", "tellsV", "I", false)
def tyX10 : Nat → FieldType := fun k => match k with
  | 0 => .int
  | 1 => .array .int
  | 2 => .array .int
  | 3 => .array .int
  | 4 => .boolean
  | 5 => .int
  | 6 => .int
  | 7 => .int
  | 8 => .boolean
  | 9 => .int
  | 10 => .array .int
  | 11 => .array .boolean
  | 12 => .int
  | 13 => .boolean
  | 14 => .array .int
  | 15 => .boolean
  | 16 => .boolean
  | 17 => .int
  | 18 => .int
  | 19 => .array .int
  | 20 => .array .int
  | 21 => .array .int
  | 22 => .int
  | 23 => .int
  | 24 => .int
  | _ => .int
theorem nmX10 : ∀ a, a < 26 → ∀ b, b < 26 → a ≠ b → (TX10 a).2.1 ≠ (TX10 b).2.1 := by decide +kernel
theorem tyX10_ok : ∀ k, k < 26 → parseFieldDescriptor (TX10 k).2.2.1 = some (tyX10 k) := by decide +kernel
abbrev cX10_init : ByteArray := prog_12_method_1_code
def yX10_init : MethodName := ⟨RX10, "<init>", "()V"⟩
abbrev cX10_in : ByteArray := prog_12_method_3_code
def yX10_in : MethodName := ⟨RX10, "in", "(III)Z"⟩
abbrev cX10_isPlot : ByteArray := prog_12_method_4_code
def yX10_isPlot : MethodName := ⟨RX10, "isPlot", "(I)Z"⟩
abbrev cX10_isRule : ByteArray := prog_12_method_5_code
def yX10_isRule : MethodName := ⟨RX10, "isRule", "(I)Z"⟩
abbrev cX10_size : ByteArray := prog_12_method_6_code
def yX10_size : MethodName := ⟨RX10, "size", "(I)I"⟩
abbrev cX10_count1 : ByteArray := prog_12_method_7_code
def yX10_count1 : MethodName := ⟨RX10, "count1", "(I)I"⟩
abbrev cX10_keeps : ByteArray := prog_12_method_8_code
def yX10_keeps : MethodName := ⟨RX10, "keeps", "()V"⟩
abbrev cX10_putsBack : ByteArray := prog_12_method_9_code
def yX10_putsBack : MethodName := ⟨RX10, "putsBack", "()V"⟩
abbrev cX10_plot : ByteArray := prog_12_method_10_code
def yX10_plot : MethodName := ⟨RX10, "plot", "(II)I"⟩
abbrev cX10_of : ByteArray := prog_12_method_11_code
def yX10_of : MethodName := ⟨RX10, "of", "(II)I"⟩
abbrev cX10_lies : ByteArray := prog_12_method_12_code
def yX10_lies : MethodName := ⟨RX10, "lies", "(II)I"⟩
abbrev cX10_set : ByteArray := prog_12_method_13_code
def yX10_set : MethodName := ⟨RX10, "set", "(II)I"⟩
abbrev cX10_feed : ByteArray := prog_12_method_14_code
def yX10_feed : MethodName := ⟨RX10, "feed", "(JI)I"⟩
abbrev cX10_here : ByteArray := prog_12_method_15_code
def yX10_here : MethodName := ⟨RX10, "here", "()I"⟩
abbrev cX10_must : ByteArray := prog_12_method_16_code
def yX10_must : MethodName := ⟨RX10, "must", "(I)V"⟩
abbrev cX10_spells : ByteArray := prog_12_method_17_code
def yX10_spells : MethodName := ⟨RX10, "spells", "(Ljava/lang/String;)V"⟩
abbrev cX10_figures : ByteArray := prog_12_method_18_code
def yX10_figures : MethodName := ⟨RX10, "figures", "()I"⟩
abbrev cX10_among : ByteArray := prog_12_method_19_code
def yX10_among : MethodName := ⟨RX10, "among", "(Ljava/lang/String;)I"⟩
abbrev cX10_emits : ByteArray := prog_12_method_20_code
def yX10_emits : MethodName := ⟨RX10, "emits", "(I)V"⟩
abbrev cX10_factor : ByteArray := prog_12_method_21_code
def yX10_factor : MethodName := ⟨RX10, "factor", "()V"⟩
abbrev cX10_every : ByteArray := prog_12_method_22_code
def yX10_every : MethodName := ⟨RX10, "every", "()V"⟩
abbrev cX10_some : ByteArray := prog_12_method_23_code
def yX10_some : MethodName := ⟨RX10, "some", "()V"⟩
abbrev cX10_tellsHere : ByteArray := prog_12_method_24_code
def yX10_tellsHere : MethodName := ⟨RX10, "tellsHere", "(ILjava/lang/String;I)V"⟩
abbrev cX10_clauseHere : ByteArray := prog_12_method_25_code
def yX10_clauseHere : MethodName := ⟨RX10, "clauseHere", "()V"⟩
abbrev cX10_land : ByteArray := prog_12_method_26_code
def yX10_land : MethodName := ⟨RX10, "land", "()I"⟩
abbrev cX10_tellsOf : ByteArray := prog_12_method_27_code
def yX10_tellsOf : MethodName := ⟨RX10, "tellsOf", "(II)I"⟩
abbrev cX10_looks : ByteArray := prog_12_method_28_code
def yX10_looks : MethodName := ⟨RX10, "looks", "(III)V"⟩
abbrev cX10_wornThen : ByteArray := prog_12_method_29_code
def yX10_wornThen : MethodName := ⟨RX10, "wornThen", "(I)I"⟩
abbrev cX10_givesOf : ByteArray := prog_12_method_30_code
def yX10_givesOf : MethodName := ⟨RX10, "givesOf", "(III)I"⟩
abbrev cX10_walk : ByteArray := prog_12_method_31_code
def yX10_walk : MethodName := ⟨RX10, "walk", "()I"⟩
abbrev cX10_sumOf : ByteArray := prog_12_method_32_code
def yX10_sumOf : MethodName := ⟨RX10, "sumOf", "(II)I"⟩
abbrev cX10_gives : ByteArray := prog_12_method_33_code
def yX10_gives : MethodName := ⟨RX10, "gives", "(I)I"⟩
abbrev cX10_goesBy : ByteArray := prog_12_method_34_code
def yX10_goesBy : MethodName := ⟨RX10, "goesBy", "(IIZ)I"⟩
abbrev cX10_year : ByteArray := prog_12_method_35_code
def yX10_year : MethodName := ⟨RX10, "year", "(II)I"⟩
abbrev cX10_rule : ByteArray := prog_12_method_36_code
def yX10_rule : MethodName := ⟨RX10, "rule", "(II)I"⟩
abbrev cX10_looksAt : ByteArray := prog_12_method_37_code
def yX10_looksAt : MethodName := ⟨RX10, "looksAt", "(I)V"⟩
abbrev cX10_isResting : ByteArray := prog_12_method_38_code
def yX10_isResting : MethodName := ⟨RX10, "isResting", "(I)Z"⟩
abbrev cX10_isLeftOut : ByteArray := prog_12_method_39_code
def yX10_isLeftOut : MethodName := ⟨RX10, "isLeftOut", "(IIII)Z"⟩
abbrev cX10_isAhead : ByteArray := prog_12_method_40_code
def yX10_isAhead : MethodName := ⟨RX10, "isAhead", "(IIII)Z"⟩
abbrev cX10_oneByOne : ByteArray := prog_12_method_41_code
def yX10_oneByOne : MethodName := ⟨RX10, "oneByOne", "(III)I"⟩
abbrev cX10_bestSet : ByteArray := prog_12_method_42_code
def yX10_bestSet : MethodName := ⟨RX10, "bestSet", "()I"⟩
abbrev cX10_burntBy : ByteArray := prog_12_method_43_code
def yX10_burntBy : MethodName := ⟨RX10, "burntBy", "(III)I"⟩
abbrev cX10_burns : ByteArray := prog_12_method_44_code
def yX10_burns : MethodName := ⟨RX10, "burns", "(I)I"⟩
abbrev cX10_harvestAt : ByteArray := prog_12_method_45_code
def yX10_harvestAt : MethodName := ⟨RX10, "harvestAt", "(III)I"⟩
abbrev cX10_movesTo : ByteArray := prog_12_method_46_code
def yX10_movesTo : MethodName := ⟨RX10, "movesTo", "(II)I"⟩
abbrev cX10_moves : ByteArray := prog_12_method_47_code
def yX10_moves : MethodName := ⟨RX10, "moves", "(I)I"⟩
abbrev cX10_yearBy : ByteArray := prog_12_method_48_code
def yX10_yearBy : MethodName := ⟨RX10, "yearBy", "(IIZ)I"⟩
abbrev cX10_go : ByteArray := prog_12_method_49_code
def yX10_go : MethodName := ⟨RX10, "go", "(II)I"⟩
abbrev cX10_row : ByteArray := prog_12_method_50_code
def yX10_row : MethodName := ⟨RX10, "row", "(I)I"⟩
abbrev cX10_judged : ByteArray := prog_12_method_51_code
def yX10_judged : MethodName := ⟨RX10, "judged", "()I"⟩
abbrev cX10_firstHungry : ByteArray := prog_12_method_52_code
def yX10_firstHungry : MethodName := ⟨RX10, "firstHungry", "(IIIZ)I"⟩
abbrev cX10_mostMouths : ByteArray := prog_12_method_53_code
def yX10_mostMouths : MethodName := ⟨RX10, "mostMouths", "(III)I"⟩
abbrev cX10_proof : ByteArray := prog_12_method_54_code
def yX10_proof : MethodName := ⟨RX10, "proof", "(III)I"⟩
abbrev cX10_notes : ByteArray := prog_12_method_55_code
def yX10_notes : MethodName := ⟨RX10, "notes", "(II)V"⟩
abbrev cX10_formerOf : ByteArray := prog_12_method_56_code
def yX10_formerOf : MethodName := ⟨RX10, "formerOf", "(I)I"⟩
abbrev cX10_ever : ByteArray := prog_12_method_57_code
def yX10_ever : MethodName := ⟨RX10, "ever", "(II)I"⟩
abbrev cX10_less : ByteArray := prog_12_method_58_code
def yX10_less : MethodName := ⟨RX10, "less", "(I)I"⟩
abbrev cX10_divisor : ByteArray := prog_12_method_59_code
def yX10_divisor : MethodName := ⟨RX10, "divisor", "(JJ)J"⟩
abbrev cX10_safe : ByteArray := prog_12_method_60_code
def yX10_safe : MethodName := ⟨RX10, "safe", "(III)J"⟩
abbrev cX10_two : ByteArray := prog_12_method_61_code
def yX10_two : MethodName := ⟨RX10, "two", "(I)I"⟩
abbrev cX10_way : ByteArray := prog_12_method_62_code
def yX10_way : MethodName := ⟨RX10, "way", "(I)I"⟩
abbrev cX10_age : ByteArray := prog_12_method_63_code
def yX10_age : MethodName := ⟨RX10, "age", "(I)I"⟩
abbrev cX10_round : ByteArray := prog_12_method_64_code
def yX10_round : MethodName := ⟨RX10, "round", "(I)I"⟩
abbrev cX10_runs : ByteArray := prog_12_method_65_code
def yX10_runs : MethodName := ⟨RX10, "runs", "(I)V"⟩
abbrev cX10_isUnder : ByteArray := prog_12_method_66_code
def yX10_isUnder : MethodName := ⟨RX10, "isUnder", "(II)Z"⟩
abbrev cX10_plainBurns : ByteArray := prog_12_method_67_code
def yX10_plainBurns : MethodName := ⟨RX10, "plainBurns", "(I)I"⟩
abbrev cX10_burnsActs : ByteArray := prog_12_method_68_code
def yX10_burnsActs : MethodName := ⟨RX10, "burnsActs", "(I)I"⟩
abbrev cX10_plainRests : ByteArray := prog_12_method_69_code
def yX10_plainRests : MethodName := ⟨RX10, "plainRests", "(I)I"⟩
abbrev cX10_restRests : ByteArray := prog_12_method_70_code
def yX10_restRests : MethodName := ⟨RX10, "restRests", "(I)I"⟩
abbrev cX10_restsActs : ByteArray := prog_12_method_71_code
def yX10_restsActs : MethodName := ⟨RX10, "restsActs", "(I)I"⟩
abbrev cX10_plainTells : ByteArray := prog_12_method_72_code
def yX10_plainTells : MethodName := ⟨RX10, "plainTells", "(I)I"⟩
abbrev cX10_nearTells : ByteArray := prog_12_method_73_code
def yX10_nearTells : MethodName := ⟨RX10, "nearTells", "(I)I"⟩
abbrev cX10_tellsActs : ByteArray := prog_12_method_74_code
def yX10_tellsActs : MethodName := ⟨RX10, "tellsActs", "(I)I"⟩
abbrev cX10_act : ByteArray := prog_12_method_75_code
def yX10_act : MethodName := ⟨RX10, "act", "(III)I"⟩
abbrev cX10_trace : ByteArray := prog_12_method_76_code
def yX10_trace : MethodName := ⟨RX10, "trace", "(I)I"⟩
abbrev cX10_as : ByteArray := prog_12_method_77_code
def yX10_as : MethodName := ⟨RX10, "as", "(II)I"⟩
abbrev cX10_image : ByteArray := prog_12_method_78_code
def yX10_image : MethodName := ⟨RX10, "image", "()I"⟩
abbrev cX10_undo : ByteArray := prog_12_method_79_code
def yX10_undo : MethodName := ⟨RX10, "undo", "()I"⟩
abbrev cX10_count : ByteArray := prog_12_method_80_code
def yX10_count : MethodName := ⟨RX10, "count", "(I)I"⟩
def RJ11 : String := "java/lang/Character"
def TJ11 : u_T := fun k => match k with
  | _ => ("", "", "", false)
def tyJ11 : Nat → FieldType := fun k => match k with
  | _ => .int
theorem nmJ11 : ∀ a, a < 0 → ∀ b, b < 0 → a ≠ b → (TJ11 a).2.1 ≠ (TJ11 b).2.1 := by decide +kernel
theorem tyJ11_ok : ∀ k, k < 0 → parseFieldDescriptor (TJ11 k).2.2.1 = some (tyJ11 k) := by decide +kernel
abbrev cJ11_isValidCodePoint_9a6ad : ByteArray := prog_13_method_11_code
def yJ11_isValidCodePoint_9a6ad : MethodName := ⟨RJ11, "isValidCodePoint", "(I)Z"⟩
abbrev cJ11_highSurrogate_5068e : ByteArray := prog_13_method_28_code
def yJ11_highSurrogate_5068e : MethodName := ⟨RJ11, "highSurrogate", "(I)C"⟩
abbrev cJ11_lowSurrogate_5068e : ByteArray := prog_13_method_29_code
def yJ11_lowSurrogate_5068e : MethodName := ⟨RJ11, "lowSurrogate", "(I)C"⟩
def RJ6 : String := "java/lang/Integer"
def TJ6 : u_T := fun k => match k with
  | _ => ("", "", "", false)
def tyJ6 : Nat → FieldType := fun k => match k with
  | _ => .int
theorem nmJ6 : ∀ a, a < 0 → ∀ b, b < 0 → a ≠ b → (TJ6 a).2.1 ≠ (TJ6 b).2.1 := by decide +kernel
theorem tyJ6_ok : ∀ k, k < 0 → parseFieldDescriptor (TJ6 k).2.2.1 = some (tyJ6 k) := by decide +kernel
abbrev cJ6_numberOfTrailingZeros_0f7a4 : ByteArray := prog_14_method_48_code
def yJ6_numberOfTrailingZeros_0f7a4 : MethodName := ⟨RJ6, "numberOfTrailingZeros", "(I)I"⟩
abbrev cJ6_bitCount_0f7a4 : ByteArray := prog_14_method_49_code
def yJ6_bitCount_0f7a4 : MethodName := ⟨RJ6, "bitCount", "(I)I"⟩
def RJ9 : String := "java/lang/Math"
def TJ9 : u_T := fun k => match k with
  | _ => ("", "", "", false)
def tyJ9 : Nat → FieldType := fun k => match k with
  | _ => .int
theorem nmJ9 : ∀ a, a < 0 → ∀ b, b < 0 → a ≠ b → (TJ9 a).2.1 ≠ (TJ9 b).2.1 := by decide +kernel
theorem tyJ9_ok : ∀ k, k < 0 → parseFieldDescriptor (TJ9 k).2.2.1 = some (tyJ9 k) := by decide +kernel
abbrev cJ9_abs_0f7a4 : ByteArray := prog_15_method_59_code
def yJ9_abs_0f7a4 : MethodName := ⟨RJ9, "abs", "(I)I"⟩
abbrev cJ9_max_7cf53 : ByteArray := prog_15_method_65_code
def yJ9_max_7cf53 : MethodName := ⟨RJ9, "max", "(II)I"⟩
abbrev cJ9_min_7cf53 : ByteArray := prog_15_method_69_code
def yJ9_min_7cf53 : MethodName := ⟨RJ9, "min", "(II)I"⟩
def RJ0 : String := "java/lang/String"
def TJ0 : u_T := fun k => match k with
  | _ => ("", "", "", false)
def tyJ0 : Nat → FieldType := fun k => match k with
  | _ => .int
theorem nmJ0 : ∀ a, a < 0 → ∀ b, b < 0 → a ≠ b → (TJ0 a).2.1 ≠ (TJ0 b).2.1 := by decide +kernel
theorem tyJ0_ok : ∀ k, k < 0 → parseFieldDescriptor (TJ0 k).2.2.1 = some (tyJ0 k) := by decide +kernel
abbrev cJ0_length_8abf5 : ByteArray := prog_16_method_54_code
def yJ0_length_8abf5 : MethodName := ⟨RJ0, "length", "()I"⟩
abbrev cJ0_charAt_5068e : ByteArray := prog_16_method_56_code
def yJ0_charAt_5068e : MethodName := ⟨RJ0, "charAt", "(I)C"⟩
abbrev cJ0_indexOf_0f7a4 : ByteArray := prog_16_method_79_code
def yJ0_indexOf_0f7a4 : MethodName := ⟨RJ0, "indexOf", "(I)I"⟩
abbrev cJ0_indexOf_7cf53 : ByteArray := prog_16_method_80_code
def yJ0_indexOf_7cf53 : MethodName := ⟨RJ0, "indexOf", "(II)I"⟩
abbrev cJ0_coder_7d493 : ByteArray := prog_16_method_152_code
def yJ0_coder_7d493 : MethodName := ⟨RJ0, "coder", "()B"⟩
abbrev cJ0_isLatin1_aae02 : ByteArray := prog_16_method_154_code
def yJ0_isLatin1_aae02 : MethodName := ⟨RJ0, "isLatin1", "()Z"⟩
abbrev cJ0_checkIndex_df160 : ByteArray := prog_16_method_155_code
def yJ0_checkIndex_df160 : MethodName := ⟨RJ0, "checkIndex", "(II)V"⟩
abbrev cJ0_checkBoundsBeginEnd_23922 : ByteArray := prog_16_method_158_code
def yJ0_checkBoundsBeginEnd_23922 : MethodName := ⟨RJ0, "checkBoundsBeginEnd", "(III)V"⟩
def RJ1 : String := "java/lang/StringLatin1"
def TJ1 : u_T := fun k => match k with
  | _ => ("", "", "", false)
def tyJ1 : Nat → FieldType := fun k => match k with
  | _ => .int
theorem nmJ1 : ∀ a, a < 0 → ∀ b, b < 0 → a ≠ b → (TJ1 a).2.1 ≠ (TJ1 b).2.1 := by decide +kernel
theorem tyJ1_ok : ∀ k, k < 0 → parseFieldDescriptor (TJ1 k).2.2.1 = some (tyJ1 k) := by decide +kernel
abbrev cJ1_charAt_3b067 : ByteArray := prog_17_method_2_code
def yJ1_charAt_3b067 : MethodName := ⟨RJ1, "charAt", "([BI)C"⟩
abbrev cJ1_canEncode_9a6ad : ByteArray := prog_17_method_4_code
def yJ1_canEncode_9a6ad : MethodName := ⟨RJ1, "canEncode", "(I)Z"⟩
abbrev cJ1_indexOf_4cfef : ByteArray := prog_17_method_22_code
def yJ1_indexOf_4cfef : MethodName := ⟨RJ1, "indexOf", "([BIII)I"⟩
abbrev cJ1_indexOfChar_4cfef : ByteArray := prog_17_method_23_code
def yJ1_indexOfChar_4cfef : MethodName := ⟨RJ1, "indexOfChar", "([BIII)I"⟩
def RJ2 : String := "java/lang/StringUTF16"
def TJ2 : u_T := fun k => match k with
  | _ => ("", "", "", false)
def tyJ2 : Nat → FieldType := fun k => match k with
  | _ => .int
theorem nmJ2 : ∀ a, a < 0 → ∀ b, b < 0 → a ≠ b → (TJ2 a).2.1 ≠ (TJ2 b).2.1 := by decide +kernel
theorem tyJ2_ok : ∀ k, k < 0 → parseFieldDescriptor (TJ2 k).2.2.1 = some (tyJ2 k) := by decide +kernel
abbrev cJ2_getChar_3b067 : ByteArray := prog_18_method_5_code
def yJ2_getChar_3b067 : MethodName := ⟨RJ2, "getChar", "([BI)C"⟩
abbrev cJ2_length_9d52b : ByteArray := prog_18_method_6_code
def yJ2_length_9d52b : MethodName := ⟨RJ2, "length", "([B)I"⟩
abbrev cJ2_indexOf_4cfef : ByteArray := prog_18_method_40_code
def yJ2_indexOf_4cfef : MethodName := ⟨RJ2, "indexOf", "([BIII)I"⟩
abbrev cJ2_indexOfChar_4cfef : ByteArray := prog_18_method_47_code
def yJ2_indexOfChar_4cfef : MethodName := ⟨RJ2, "indexOfChar", "([BIII)I"⟩
abbrev cJ2_indexOfCharUnsafe_4cfef : ByteArray := prog_18_method_48_code
def yJ2_indexOfCharUnsafe_4cfef : MethodName := ⟨RJ2, "indexOfCharUnsafe", "([BIII)I"⟩
abbrev cJ2_indexOfSupplementary_4cfef : ByteArray := prog_18_method_49_code
def yJ2_indexOfSupplementary_4cfef : MethodName := ⟨RJ2, "indexOfSupplementary", "([BIII)I"⟩
abbrev cJ2_charAt_3b067 : ByteArray := prog_18_method_83_code
def yJ2_charAt_3b067 : MethodName := ⟨RJ2, "charAt", "([BI)C"⟩
abbrev cJ2_checkIndex_2214a : ByteArray := prog_18_method_91_code
def yJ2_checkIndex_2214a : MethodName := ⟨RJ2, "checkIndex", "(I[B)V"⟩
abbrev cJ2_checkBoundsBeginEnd_d044e : ByteArray := prog_18_method_93_code
def yJ2_checkBoundsBeginEnd_d044e : MethodName := ⟨RJ2, "checkBoundsBeginEnd", "(II[B)V"⟩
def RJ3 : String := "jdk/internal/util/Preconditions"
def TJ3 : u_T := fun k => match k with
  | _ => ("", "", "", false)
def tyJ3 : Nat → FieldType := fun k => match k with
  | _ => .int
theorem nmJ3 : ∀ a, a < 0 → ∀ b, b < 0 → a ≠ b → (TJ3 a).2.1 ≠ (TJ3 b).2.1 := by decide +kernel
theorem tyJ3_ok : ∀ k, k < 0 → parseFieldDescriptor (TJ3 k).2.2.1 = some (tyJ3 k) := by decide +kernel
abbrev cJ3_checkIndex_8e157 : ByteArray := prog_19_method_11_code
def yJ3_checkIndex_8e157 : MethodName := ⟨RJ3, "checkIndex", "(IILjava/util/function/BiFunction;)I"⟩
abbrev cJ3_checkFromToIndex_8c36e : ByteArray := prog_19_method_12_code
def yJ3_checkFromToIndex_8c36e : MethodName := ⟨RJ3, "checkFromToIndex", "(IIILjava/util/function/BiFunction;)I"⟩
def RL : String := "VillageRoundsLaw"
abbrev cL_law : ByteArray := code
def yL_law : MethodName := ⟨RL, "law", "([I)Z"⟩
abbrev vwCl : List vw_C := [(RX0, TX0, 8), (RX1, TX1, 5), (RX2, TX2, 9), (RX3, TX3, 10), (RX4, TX4, 2), (RX5, TX5, 5), (RX6, TX6, 3), (RX7, TX7, 11), (RX8, TX8, 8), (RX9, TX9, 8), (RX10, TX10, 26)]
end
section
theorem ws_yX6_readClause : Cond.selects RX6 yX6_readClause yX6_readClause ∈ vr_T := vr_in 0 (by decide +kernel) (by decide +kernel)
theorem ws_yX6_readWord : Cond.selects RX6 yX6_readWord yX6_readWord ∈ vr_T := vr_in 1 (by decide +kernel) (by decide +kernel)
theorem ws_yX6_sameBytes : Cond.selects RX6 yX6_sameBytes yX6_sameBytes ∈ vr_T := vr_in 2 (by decide +kernel) (by decide +kernel)
theorem ws_yX6_readAny : Cond.selects RX6 yX6_readAny yX6_readAny ∈ vr_T := vr_in 3 (by decide +kernel) (by decide +kernel)
theorem ws_yX6_readOne : Cond.selects RX6 yX6_readOne yX6_readOne ∈ vr_T := vr_in 4 (by decide +kernel) (by decide +kernel)
theorem ws_yX6_sees : Cond.selects RX6 yX6_sees yX6_sees ∈ vr_T := vr_in 5 (by decide +kernel) (by decide +kernel)
theorem ws_yX6_readOpen : Cond.selects RX6 yX6_readOpen yX6_readOpen ∈ vr_T := vr_in 6 (by decide +kernel) (by decide +kernel)
theorem ws_yX6_take : Cond.selects RX6 yX6_take yX6_take ∈ vr_T := vr_in 7 (by decide +kernel) (by decide +kernel)
theorem ws_yX6_takeOf : Cond.selects RX6 yX6_takeOf yX6_takeOf ∈ vr_T := vr_in 8 (by decide +kernel) (by decide +kernel)
theorem ws_yX6_readNumber : Cond.selects RX6 yX6_readNumber yX6_readNumber ∈ vr_T := vr_in 9 (by decide +kernel) (by decide +kernel)
theorem ws_yX3_look : Cond.selects RX3 yX3_look yX3_look ∈ vr_T := vr_in 10 (by decide +kernel) (by decide +kernel)
theorem ws_yX3_holds : Cond.selects RX3 yX3_holds yX3_holds ∈ vr_T := vr_in 11 (by decide +kernel) (by decide +kernel)
theorem ws_yX3_passes : Cond.selects RX3 yX3_passes yX3_passes ∈ vr_T := vr_in 12 (by decide +kernel) (by decide +kernel)
theorem ws_yX9_beginRule : Cond.selects RX9 yX9_beginRule yX9_beginRule ∈ vr_T := vr_in 13 (by decide +kernel) (by decide +kernel)
theorem ws_yX0_picksInTurn : Cond.selects RX0 yX0_picksInTurn yX0_picksInTurn ∈ vr_T := vr_in 14 (by decide +kernel) (by decide +kernel)
theorem ws_yX0_picksFewest : Cond.selects RX0 yX0_picksFewest yX0_picksFewest ∈ vr_T := vr_in 15 (by decide +kernel) (by decide +kernel)
theorem ws_yX0_isBetter : Cond.selects RX0 yX0_isBetter yX0_isBetter ∈ vr_T := vr_in 16 (by decide +kernel) (by decide +kernel)
theorem ws_yX0_picksByRank : Cond.selects RX0 yX0_picksByRank yX0_picksByRank ∈ vr_T := vr_in 17 (by decide +kernel) (by decide +kernel)
theorem ws_yX0_rankOf : Cond.selects RX0 yX0_rankOf yX0_rankOf ∈ vr_T := vr_in 18 (by decide +kernel) (by decide +kernel)
theorem ws_yX0_firstInRank : Cond.selects RX0 yX0_firstInRank yX0_firstInRank ∈ vr_T := vr_in 19 (by decide +kernel) (by decide +kernel)
theorem ws_yX9_mostMouths : Cond.selects RX9 yX9_mostMouths yX9_mostMouths ∈ vr_T := vr_in 20 (by decide +kernel) (by decide +kernel)
theorem ws_yX1_note : Cond.selects RX1 yX1_note yX1_note ∈ vr_T := vr_in 21 (by decide +kernel) (by decide +kernel)
theorem ws_yX1_firstLike : Cond.selects RX1 yX1_firstLike yX1_firstLike ∈ vr_T := vr_in 22 (by decide +kernel) (by decide +kernel)
theorem ws_yX1_isSame : Cond.selects RX1 yX1_isSame yX1_isSame ∈ vr_T := vr_in 23 (by decide +kernel) (by decide +kernel)
theorem ws_yX9_tells : Cond.selects RX9 yX9_tells yX9_tells ∈ vr_T := vr_in 24 (by decide +kernel) (by decide +kernel)
theorem ws_yX5_call : Cond.selects RX5 yX5_call yX5_call ∈ vr_T := vr_in 25 (by decide +kernel) (by decide +kernel)
theorem ws_yX5_run : Cond.selects RX5 yX5_run yX5_run ∈ vr_T := vr_in 26 (by decide +kernel) (by decide +kernel)
theorem ws_yX5_callAbove : Cond.selects RX5 yX5_callAbove yX5_callAbove ∈ vr_T := vr_in 27 (by decide +kernel) (by decide +kernel)
theorem ws_yX10_isPlot : Cond.selects RX10 yX10_isPlot yX10_isPlot ∈ vr_T := vr_in 28 (by decide +kernel) (by decide +kernel)
theorem ws_yX10_clauseHere : Cond.selects RX10 yX10_clauseHere yX10_clauseHere ∈ vr_T := vr_in 29 (by decide +kernel) (by decide +kernel)
theorem ws_yX10_here : Cond.selects RX10 yX10_here yX10_here ∈ vr_T := vr_in 30 (by decide +kernel) (by decide +kernel)
theorem ws_yX10_must : Cond.selects RX10 yX10_must yX10_must ∈ vr_T := vr_in 31 (by decide +kernel) (by decide +kernel)
theorem ws_yX10_tellsHere : Cond.selects RX10 yX10_tellsHere yX10_tellsHere ∈ vr_T := vr_in 32 (by decide +kernel) (by decide +kernel)
theorem ws_yX10_spells : Cond.selects RX10 yX10_spells yX10_spells ∈ vr_T := vr_in 33 (by decide +kernel) (by decide +kernel)
theorem ws_yX10_figures : Cond.selects RX10 yX10_figures yX10_figures ∈ vr_T := vr_in 34 (by decide +kernel) (by decide +kernel)
theorem ws_yX10_some : Cond.selects RX10 yX10_some yX10_some ∈ vr_T := vr_in 35 (by decide +kernel) (by decide +kernel)
theorem ws_yX10_every : Cond.selects RX10 yX10_every yX10_every ∈ vr_T := vr_in 36 (by decide +kernel) (by decide +kernel)
theorem ws_yX10_factor : Cond.selects RX10 yX10_factor yX10_factor ∈ vr_T := vr_in 37 (by decide +kernel) (by decide +kernel)
theorem ws_yX10_emits : Cond.selects RX10 yX10_emits yX10_emits ∈ vr_T := vr_in 38 (by decide +kernel) (by decide +kernel)
theorem ws_yX10_among : Cond.selects RX10 yX10_among yX10_among ∈ vr_T := vr_in 39 (by decide +kernel) (by decide +kernel)
theorem ws_yX10_walk : Cond.selects RX10 yX10_walk yX10_walk ∈ vr_T := vr_in 40 (by decide +kernel) (by decide +kernel)
theorem ws_yX10_tellsOf : Cond.selects RX10 yX10_tellsOf yX10_tellsOf ∈ vr_T := vr_in 41 (by decide +kernel) (by decide +kernel)
theorem ws_yX10_givesOf : Cond.selects RX10 yX10_givesOf yX10_givesOf ∈ vr_T := vr_in 42 (by decide +kernel) (by decide +kernel)
theorem ws_yX10_wornThen : Cond.selects RX10 yX10_wornThen yX10_wornThen ∈ vr_T := vr_in 43 (by decide +kernel) (by decide +kernel)
theorem ws_yX10_looks : Cond.selects RX10 yX10_looks yX10_looks ∈ vr_T := vr_in 44 (by decide +kernel) (by decide +kernel)
theorem ws_yX10_goesBy : Cond.selects RX10 yX10_goesBy yX10_goesBy ∈ vr_T := vr_in 45 (by decide +kernel) (by decide +kernel)
theorem ws_yX10_sumOf : Cond.selects RX10 yX10_sumOf yX10_sumOf ∈ vr_T := vr_in 46 (by decide +kernel) (by decide +kernel)
theorem ws_yX10_isRule : Cond.selects RX10 yX10_isRule yX10_isRule ∈ vr_T := vr_in 47 (by decide +kernel) (by decide +kernel)
theorem ws_yX10_burntBy : Cond.selects RX10 yX10_burntBy yX10_burntBy ∈ vr_T := vr_in 48 (by decide +kernel) (by decide +kernel)
theorem ws_yX10_looksAt : Cond.selects RX10 yX10_looksAt yX10_looksAt ∈ vr_T := vr_in 49 (by decide +kernel) (by decide +kernel)
theorem ws_yX10_bestSet : Cond.selects RX10 yX10_bestSet yX10_bestSet ∈ vr_T := vr_in 50 (by decide +kernel) (by decide +kernel)
theorem ws_yX10_oneByOne : Cond.selects RX10 yX10_oneByOne yX10_oneByOne ∈ vr_T := vr_in 51 (by decide +kernel) (by decide +kernel)
theorem ws_yX10_isLeftOut : Cond.selects RX10 yX10_isLeftOut yX10_isLeftOut ∈ vr_T := vr_in 52 (by decide +kernel) (by decide +kernel)
theorem ws_yX10_isAhead : Cond.selects RX10 yX10_isAhead yX10_isAhead ∈ vr_T := vr_in 53 (by decide +kernel) (by decide +kernel)
theorem ws_yX10_movesTo : Cond.selects RX10 yX10_movesTo yX10_movesTo ∈ vr_T := vr_in 54 (by decide +kernel) (by decide +kernel)
theorem ws_yX10_harvestAt : Cond.selects RX10 yX10_harvestAt yX10_harvestAt ∈ vr_T := vr_in 55 (by decide +kernel) (by decide +kernel)
theorem ws_yX10_yearBy : Cond.selects RX10 yX10_yearBy yX10_yearBy ∈ vr_T := vr_in 56 (by decide +kernel) (by decide +kernel)
theorem ws_yX10_keeps : Cond.selects RX10 yX10_keeps yX10_keeps ∈ vr_T := vr_in 57 (by decide +kernel) (by decide +kernel)
theorem ws_yX10_putsBack : Cond.selects RX10 yX10_putsBack yX10_putsBack ∈ vr_T := vr_in 58 (by decide +kernel) (by decide +kernel)
theorem ws_yX10_mostMouths : Cond.selects RX10 yX10_mostMouths yX10_mostMouths ∈ vr_T := vr_in 59 (by decide +kernel) (by decide +kernel)
theorem ws_yX10_firstHungry : Cond.selects RX10 yX10_firstHungry yX10_firstHungry ∈ vr_T := vr_in 60 (by decide +kernel) (by decide +kernel)
theorem ws_yX10_notes : Cond.selects RX10 yX10_notes yX10_notes ∈ vr_T := vr_in 61 (by decide +kernel) (by decide +kernel)
theorem ws_yX10_formerOf : Cond.selects RX10 yX10_formerOf yX10_formerOf ∈ vr_T := vr_in 62 (by decide +kernel) (by decide +kernel)
theorem ws_yX10_burnsActs : Cond.selects RX10 yX10_burnsActs yX10_burnsActs ∈ vr_T := vr_in 63 (by decide +kernel) (by decide +kernel)
theorem ws_yX10_runs : Cond.selects RX10 yX10_runs yX10_runs ∈ vr_T := vr_in 64 (by decide +kernel) (by decide +kernel)
theorem ws_yX10_plainBurns : Cond.selects RX10 yX10_plainBurns yX10_plainBurns ∈ vr_T := vr_in 65 (by decide +kernel) (by decide +kernel)
theorem ws_yX10_restsActs : Cond.selects RX10 yX10_restsActs yX10_restsActs ∈ vr_T := vr_in 66 (by decide +kernel) (by decide +kernel)
theorem ws_yX10_restRests : Cond.selects RX10 yX10_restRests yX10_restRests ∈ vr_T := vr_in 67 (by decide +kernel) (by decide +kernel)
theorem ws_yX10_plainRests : Cond.selects RX10 yX10_plainRests yX10_plainRests ∈ vr_T := vr_in 68 (by decide +kernel) (by decide +kernel)
theorem ws_yX10_tellsActs : Cond.selects RX10 yX10_tellsActs yX10_tellsActs ∈ vr_T := vr_in 69 (by decide +kernel) (by decide +kernel)
theorem ws_yX10_nearTells : Cond.selects RX10 yX10_nearTells yX10_nearTells ∈ vr_T := vr_in 70 (by decide +kernel) (by decide +kernel)
theorem ws_yX10_plainTells : Cond.selects RX10 yX10_plainTells yX10_plainTells ∈ vr_T := vr_in 71 (by decide +kernel) (by decide +kernel)
theorem wz_L : Cond.initialized RL ∈ vr_T := vr_in 72 (by decide +kernel) (by decide +kernel)
theorem wz_X9 : Cond.initialized RX9 ∈ vr_T := vr_in 73 (by decide +kernel) (by decide +kernel)
theorem wz_X8 : Cond.initialized RX8 ∈ vr_T := vr_in 74 (by decide +kernel) (by decide +kernel)
theorem wz_X2 : Cond.initialized RX2 ∈ vr_T := vr_in 75 (by decide +kernel) (by decide +kernel)
theorem wz_X3 : Cond.initialized RX3 ∈ vr_T := vr_in 76 (by decide +kernel) (by decide +kernel)
theorem wz_X4 : Cond.initialized RX4 ∈ vr_T := vr_in 77 (by decide +kernel) (by decide +kernel)
theorem wz_J9 : Cond.initialized RJ9 ∈ vr_T := vr_in 78 (by decide +kernel) (by decide +kernel)
theorem wz_X6 : Cond.initialized RX6 ∈ vr_T := vr_in 79 (by decide +kernel) (by decide +kernel)
theorem wz_X7 : Cond.initialized RX7 ∈ vr_T := vr_in 80 (by decide +kernel) (by decide +kernel)
theorem wz_X0 : Cond.initialized RX0 ∈ vr_T := vr_in 81 (by decide +kernel) (by decide +kernel)
theorem wz_X1 : Cond.initialized RX1 ∈ vr_T := vr_in 82 (by decide +kernel) (by decide +kernel)
theorem wz_X5 : Cond.initialized RX5 ∈ vr_T := vr_in 83 (by decide +kernel) (by decide +kernel)
theorem wz_X10 : Cond.initialized RX10 ∈ vr_T := vr_in 84 (by decide +kernel) (by decide +kernel)
theorem wz_J0 : Cond.initialized RJ0 ∈ vr_T := vr_in 85 (by decide +kernel) (by decide +kernel)
theorem wz_J1 : Cond.initialized RJ1 ∈ vr_T := vr_in 86 (by decide +kernel) (by decide +kernel)
theorem wz_J3 : Cond.initialized RJ3 ∈ vr_T := vr_in 87 (by decide +kernel) (by decide +kernel)
theorem wz_J2 : Cond.initialized RJ2 ∈ vr_T := vr_in 88 (by decide +kernel) (by decide +kernel)
theorem wz_J11 : Cond.initialized RJ11 ∈ vr_T := vr_in 89 (by decide +kernel) (by decide +kernel)
theorem wz_J6 : Cond.initialized RJ6 ∈ vr_T := vr_in 90 (by decide +kernel) (by decide +kernel)
theorem wl_L_7 : Cond.classLink RL 7 RX9 ∈ vr_T := vr_in 91 (by decide +kernel) (by decide +kernel)
theorem wn_X9 : Cond.instantiable RX9 8 ∈ vr_T := vr_in 92 (by decide +kernel) (by decide +kernel)
theorem wm_L_9 : Cond.methodLink RL 9 yX9_init ∈ vr_T := vr_in 93 (by decide +kernel) (by decide +kernel)
theorem wi_yX9_init : Cond.instanceMethod yX9_init ∈ vr_T := vr_in 94 (by decide +kernel) (by decide +kernel)
theorem wc_yX9_init : Cond.code yX9_init cX9_init 1 (Option.none : Option Jvm.ClassFile.FieldType) ∈ vr_T := vr_in 95 (by decide +kernel) (by decide +kernel)
theorem wl_X9_9 : Cond.classLink RX9 9 RX8 ∈ vr_T := vr_in 99 (by decide +kernel) (by decide +kernel)
theorem wn_X8 : Cond.instantiable RX8 8 ∈ vr_T := vr_in 100 (by decide +kernel) (by decide +kernel)
theorem wi_yX8_init : Cond.instanceMethod yX8_init ∈ vr_T := vr_in 102 (by decide +kernel) (by decide +kernel)
theorem wc_yX8_init : Cond.code yX8_init cX8_init 1 (Option.none : Option Jvm.ClassFile.FieldType) ∈ vr_T := vr_in 103 (by decide +kernel) (by decide +kernel)
theorem wl_X8_9 : Cond.classLink RX8 9 RX2 ∈ vr_T := vr_in 105 (by decide +kernel) (by decide +kernel)
theorem wn_X2 : Cond.instantiable RX2 9 ∈ vr_T := vr_in 106 (by decide +kernel) (by decide +kernel)
theorem wi_yX2_init : Cond.instanceMethod yX2_init ∈ vr_T := vr_in 108 (by decide +kernel) (by decide +kernel)
theorem wc_yX2_init : Cond.code yX2_init cX2_init 1 (Option.none : Option Jvm.ClassFile.FieldType) ∈ vr_T := vr_in 109 (by decide +kernel) (by decide +kernel)
theorem wf_X2_9 : Cond.fieldLink RX2 9 "VillageRounds$Hill" "soil" "[I" ∈ vr_T := vr_in 111 (by decide +kernel) (by decide +kernel)
theorem wf_X9_88 : Cond.fieldLink RX9 88 "VillageRounds$Hill" "soil" "[I" ∈ vr_T := vr_in 112 (by decide +kernel) (by decide +kernel)
theorem wf_X3_81 : Cond.fieldLink RX3 81 "VillageRounds$Hill" "soil" "[I" ∈ vr_T := vr_in 113 (by decide +kernel) (by decide +kernel)
theorem wf_X2_15 : Cond.fieldLink RX2 15 "VillageRounds$Hill" "place" "[I" ∈ vr_T := vr_in 114 (by decide +kernel) (by decide +kernel)
theorem wf_X9_92 : Cond.fieldLink RX9 92 "VillageRounds$Hill" "place" "[I" ∈ vr_T := vr_in 115 (by decide +kernel) (by decide +kernel)
theorem wf_X0_58 : Cond.fieldLink RX0 58 "VillageRounds$Hill" "place" "[I" ∈ vr_T := vr_in 116 (by decide +kernel) (by decide +kernel)
theorem wf_X3_84 : Cond.fieldLink RX3 84 "VillageRounds$Hill" "place" "[I" ∈ vr_T := vr_in 117 (by decide +kernel) (by decide +kernel)
theorem wf_X2_18 : Cond.fieldLink RX2 18 "VillageRounds$Hill" "crop" "[I" ∈ vr_T := vr_in 118 (by decide +kernel) (by decide +kernel)
theorem wf_X9_95 : Cond.fieldLink RX9 95 "VillageRounds$Hill" "crop" "[I" ∈ vr_T := vr_in 119 (by decide +kernel) (by decide +kernel)
theorem wf_X3_65 : Cond.fieldLink RX3 65 "VillageRounds$Hill" "crop" "[I" ∈ vr_T := vr_in 120 (by decide +kernel) (by decide +kernel)
theorem wf_X0_124 : Cond.fieldLink RX0 124 "VillageRounds$Hill" "crop" "[I" ∈ vr_T := vr_in 121 (by decide +kernel) (by decide +kernel)
theorem wf_X2_21 : Cond.fieldLink RX2 21 "VillageRounds$Hill" "lain" "[I" ∈ vr_T := vr_in 122 (by decide +kernel) (by decide +kernel)
theorem wf_X9_98 : Cond.fieldLink RX9 98 "VillageRounds$Hill" "lain" "[I" ∈ vr_T := vr_in 123 (by decide +kernel) (by decide +kernel)
theorem wf_X3_78 : Cond.fieldLink RX3 78 "VillageRounds$Hill" "lain" "[I" ∈ vr_T := vr_in 124 (by decide +kernel) (by decide +kernel)
theorem wf_X0_127 : Cond.fieldLink RX0 127 "VillageRounds$Hill" "lain" "[I" ∈ vr_T := vr_in 125 (by decide +kernel) (by decide +kernel)
theorem wf_X2_24 : Cond.fieldLink RX2 24 "VillageRounds$Hill" "worn" "[I" ∈ vr_T := vr_in 126 (by decide +kernel) (by decide +kernel)
theorem wf_X9_101 : Cond.fieldLink RX9 101 "VillageRounds$Hill" "worn" "[I" ∈ vr_T := vr_in 127 (by decide +kernel) (by decide +kernel)
theorem wf_X3_62 : Cond.fieldLink RX3 62 "VillageRounds$Hill" "worn" "[I" ∈ vr_T := vr_in 128 (by decide +kernel) (by decide +kernel)
theorem wf_X2_31 : Cond.fieldLink RX2 31 "VillageRounds$Hill" "plots" "I" ∈ vr_T := vr_in 129 (by decide +kernel) (by decide +kernel)
theorem wf_X9_74 : Cond.fieldLink RX9 74 "VillageRounds$Hill" "plots" "I" ∈ vr_T := vr_in 130 (by decide +kernel) (by decide +kernel)
theorem wf_X0_87 : Cond.fieldLink RX0 87 "VillageRounds$Hill" "plots" "I" ∈ vr_T := vr_in 131 (by decide +kernel) (by decide +kernel)
theorem wf_X7_58 : Cond.fieldLink RX7 58 "VillageRounds$Hill" "village" "I" ∈ vr_T := vr_in 132 (by decide +kernel) (by decide +kernel)
theorem wf_X1_71 : Cond.fieldLink RX1 71 "VillageRounds$Hill" "village" "I" ∈ vr_T := vr_in 133 (by decide +kernel) (by decide +kernel)
theorem wf_X2_34 : Cond.fieldLink RX2 34 "VillageRounds$Hill" "village" "I" ∈ vr_T := vr_in 134 (by decide +kernel) (by decide +kernel)
theorem wf_X0_74 : Cond.fieldLink RX0 74 "VillageRounds$Hill" "village" "I" ∈ vr_T := vr_in 135 (by decide +kernel) (by decide +kernel)
theorem wf_X9_127 : Cond.fieldLink RX9 127 "VillageRounds$Hill" "village" "I" ∈ vr_T := vr_in 136 (by decide +kernel) (by decide +kernel)
theorem wf_X2_27 : Cond.fieldLink RX2 27 "VillageRounds$Hill" "mouths" "I" ∈ vr_T := vr_in 137 (by decide +kernel) (by decide +kernel)
theorem wf_X7_73 : Cond.fieldLink RX7 73 "VillageRounds$Hill" "mouths" "I" ∈ vr_T := vr_in 138 (by decide +kernel) (by decide +kernel)
theorem wf_X0_84 : Cond.fieldLink RX0 84 "VillageRounds$Hill" "mouths" "I" ∈ vr_T := vr_in 139 (by decide +kernel) (by decide +kernel)
theorem wf_X9_130 : Cond.fieldLink RX9 130 "VillageRounds$Hill" "mouths" "I" ∈ vr_T := vr_in 140 (by decide +kernel) (by decide +kernel)
theorem wf_X0_39 : Cond.fieldLink RX0 39 "VillageRounds$Hill" "year" "I" ∈ vr_T := vr_in 141 (by decide +kernel) (by decide +kernel)
theorem wf_X2_37 : Cond.fieldLink RX2 37 "VillageRounds$Hill" "year" "I" ∈ vr_T := vr_in 142 (by decide +kernel) (by decide +kernel)
theorem wf_X9_274 : Cond.fieldLink RX9 274 "VillageRounds$Hill" "year" "I" ∈ vr_T := vr_in 143 (by decide +kernel) (by decide +kernel)
theorem wl_X8_18 : Cond.classLink RX8 18 RX3 ∈ vr_T := vr_in 164 (by decide +kernel) (by decide +kernel)
theorem wn_X3 : Cond.instantiable RX3 10 ∈ vr_T := vr_in 165 (by decide +kernel) (by decide +kernel)
theorem wm_X8_20 : Cond.methodLink RX8 20 yX3_init ∈ vr_T := vr_in 166 (by decide +kernel) (by decide +kernel)
theorem wi_yX3_init : Cond.instanceMethod yX3_init ∈ vr_T := vr_in 167 (by decide +kernel) (by decide +kernel)
theorem wc_yX3_init : Cond.code yX3_init cX3_init 1 (Option.none : Option Jvm.ClassFile.FieldType) ∈ vr_T := vr_in 168 (by decide +kernel) (by decide +kernel)
theorem wm_X3_24 : Cond.methodLink RX3 24 yX3_clear ∈ vr_T := vr_in 170 (by decide +kernel) (by decide +kernel)
theorem wi_yX3_clear : Cond.instanceMethod yX3_clear ∈ vr_T := vr_in 171 (by decide +kernel) (by decide +kernel)
theorem ws_yX3_clear : Cond.selects RX3 yX3_clear yX3_clear ∈ vr_T := vr_in 172 (by decide +kernel) (by decide +kernel)
theorem wc_yX3_clear : Cond.code yX3_clear cX3_clear 1 (Option.none : Option Jvm.ClassFile.FieldType) ∈ vr_T := vr_in 173 (by decide +kernel) (by decide +kernel)
theorem wf_X3_9 : Cond.fieldLink RX3 9 "VillageRounds$Land" "gives" "[I" ∈ vr_T := vr_in 174 (by decide +kernel) (by decide +kernel)
theorem wf_X3_15 : Cond.fieldLink RX3 15 "VillageRounds$Land" "ends" "[I" ∈ vr_T := vr_in 175 (by decide +kernel) (by decide +kernel)
theorem wf_X3_18 : Cond.fieldLink RX3 18 "VillageRounds$Land" "steps" "[I" ∈ vr_T := vr_in 176 (by decide +kernel) (by decide +kernel)
theorem wf_X3_27 : Cond.fieldLink RX3 27 "VillageRounds$Land" "clauses" "I" ∈ vr_T := vr_in 177 (by decide +kernel) (by decide +kernel)
theorem wf_X3_31 : Cond.fieldLink RX3 31 "VillageRounds$Land" "used" "I" ∈ vr_T := vr_in 178 (by decide +kernel) (by decide +kernel)
theorem wf_X3_34 : Cond.fieldLink RX3 34 "VillageRounds$Land" "walk" "I" ∈ vr_T := vr_in 179 (by decide +kernel) (by decide +kernel)
theorem wf_X0_67 : Cond.fieldLink RX0 67 "VillageRounds$Land" "walk" "I" ∈ vr_T := vr_in 180 (by decide +kernel) (by decide +kernel)
theorem wf_X9_140 : Cond.fieldLink RX9 140 "VillageRounds$Land" "walk" "I" ∈ vr_T := vr_in 181 (by decide +kernel) (by decide +kernel)
theorem wf_X3_37 : Cond.fieldLink RX3 37 "VillageRounds$Land" "move" "I" ∈ vr_T := vr_in 182 (by decide +kernel) (by decide +kernel)
theorem wf_X7_61 : Cond.fieldLink RX7 61 "VillageRounds$Land" "move" "I" ∈ vr_T := vr_in 183 (by decide +kernel) (by decide +kernel)
theorem wf_X0_90 : Cond.fieldLink RX0 90 "VillageRounds$Land" "move" "I" ∈ vr_T := vr_in 184 (by decide +kernel) (by decide +kernel)
theorem wf_X3_40 : Cond.fieldLink RX3 40 "VillageRounds$Land" "grow" "I" ∈ vr_T := vr_in 185 (by decide +kernel) (by decide +kernel)
theorem wf_X7_87 : Cond.fieldLink RX7 87 "VillageRounds$Land" "grow" "I" ∈ vr_T := vr_in 186 (by decide +kernel) (by decide +kernel)
theorem wf_X3_43 : Cond.fieldLink RX3 43 "VillageRounds$Land" "dry" "I" ∈ vr_T := vr_in 187 (by decide +kernel) (by decide +kernel)
theorem wf_X7_106 : Cond.fieldLink RX7 106 "VillageRounds$Land" "dry" "I" ∈ vr_T := vr_in 188 (by decide +kernel) (by decide +kernel)
theorem wf_X3_21 : Cond.fieldLink RX3 21 "VillageRounds$Land" "seen" "[I" ∈ vr_T := vr_in 189 (by decide +kernel) (by decide +kernel)
theorem wl_X8_25 : Cond.classLink RX8 25 RX4 ∈ vr_T := vr_in 211 (by decide +kernel) (by decide +kernel)
theorem wn_X4 : Cond.instantiable RX4 2 ∈ vr_T := vr_in 212 (by decide +kernel) (by decide +kernel)
theorem wm_X8_27 : Cond.methodLink RX8 27 yX4_init ∈ vr_T := vr_in 213 (by decide +kernel) (by decide +kernel)
theorem wi_yX4_init : Cond.instanceMethod yX4_init ∈ vr_T := vr_in 214 (by decide +kernel) (by decide +kernel)
theorem wc_yX4_init : Cond.code yX4_init cX4_init 2 (Option.none : Option Jvm.ClassFile.FieldType) ∈ vr_T := vr_in 215 (by decide +kernel) (by decide +kernel)
theorem wm_X4_7 : Cond.methodLink RX4 7 yJ9_max_7cf53 ∈ vr_T := vr_in 217 (by decide +kernel) (by decide +kernel)
theorem wt_yJ9_max_7cf53 : Cond.static yJ9_max_7cf53 ∈ vr_T := vr_in 218 (by decide +kernel) (by decide +kernel)
theorem wc_yJ9_max_7cf53 : Cond.code yJ9_max_7cf53 cJ9_max_7cf53 2 (Option.some Jvm.ClassFile.FieldType.int) ∈ vr_T := vr_in 219 (by decide +kernel) (by decide +kernel)
theorem wf_X4_13 : Cond.fieldLink RX4 13 "VillageRounds$Numbers" "items" "[I" ∈ vr_T := vr_in 220 (by decide +kernel) (by decide +kernel)
theorem wf_X4_19 : Cond.fieldLink RX4 19 "VillageRounds$Numbers" "size" "I" ∈ vr_T := vr_in 221 (by decide +kernel) (by decide +kernel)
theorem wf_X8_46 : Cond.fieldLink RX8 46 "VillageRounds$Numbers" "size" "I" ∈ vr_T := vr_in 222 (by decide +kernel) (by decide +kernel)
theorem wf_X6_32 : Cond.fieldLink RX6 32 "VillageRounds$Numbers" "size" "I" ∈ vr_T := vr_in 223 (by decide +kernel) (by decide +kernel)
theorem wf_X9_104 : Cond.fieldLink RX9 104 "VillageRounds$Numbers" "size" "I" ∈ vr_T := vr_in 224 (by decide +kernel) (by decide +kernel)
theorem wf_X8_12 : Cond.fieldLink RX8 12 "VillageRounds$World" "hill" "LVillageRounds$Hill;" ∈ vr_T := vr_in 230 (by decide +kernel) (by decide +kernel)
theorem wf_X7_18 : Cond.fieldLink RX7 18 "VillageRounds$World" "hill" "LVillageRounds$Hill;" ∈ vr_T := vr_in 231 (by decide +kernel) (by decide +kernel)
theorem wf_X9_70 : Cond.fieldLink RX9 70 "VillageRounds$World" "hill" "LVillageRounds$Hill;" ∈ vr_T := vr_in 232 (by decide +kernel) (by decide +kernel)
theorem wf_X8_21 : Cond.fieldLink RX8 21 "VillageRounds$World" "land" "LVillageRounds$Land;" ∈ vr_T := vr_in 233 (by decide +kernel) (by decide +kernel)
theorem wf_X7_24 : Cond.fieldLink RX7 24 "VillageRounds$World" "land" "LVillageRounds$Land;" ∈ vr_T := vr_in 234 (by decide +kernel) (by decide +kernel)
theorem wf_X9_120 : Cond.fieldLink RX9 120 "VillageRounds$World" "land" "LVillageRounds$Land;" ∈ vr_T := vr_in 235 (by decide +kernel) (by decide +kernel)
theorem wf_X8_30 : Cond.fieldLink RX8 30 "VillageRounds$World" "tape" "LVillageRounds$Numbers;" ∈ vr_T := vr_in 236 (by decide +kernel) (by decide +kernel)
theorem wf_X9_30 : Cond.fieldLink RX9 30 "VillageRounds$World" "tape" "LVillageRounds$Numbers;" ∈ vr_T := vr_in 237 (by decide +kernel) (by decide +kernel)
theorem wf_X8_34 : Cond.fieldLink RX8 34 "VillageRounds$World" "row" "LVillageRounds$Numbers;" ∈ vr_T := vr_in 238 (by decide +kernel) (by decide +kernel)
theorem wf_X9_189 : Cond.fieldLink RX9 189 "VillageRounds$World" "row" "LVillageRounds$Numbers;" ∈ vr_T := vr_in 239 (by decide +kernel) (by decide +kernel)
theorem wf_X8_37 : Cond.fieldLink RX8 37 "VillageRounds$World" "ages" "LVillageRounds$Numbers;" ∈ vr_T := vr_in 240 (by decide +kernel) (by decide +kernel)
theorem wf_X9_243 : Cond.fieldLink RX9 243 "VillageRounds$World" "ages" "LVillageRounds$Numbers;" ∈ vr_T := vr_in 241 (by decide +kernel) (by decide +kernel)
theorem wf_X8_40 : Cond.fieldLink RX8 40 "VillageRounds$World" "kinds" "LVillageRounds$Numbers;" ∈ vr_T := vr_in 242 (by decide +kernel) (by decide +kernel)
theorem wf_X9_163 : Cond.fieldLink RX9 163 "VillageRounds$World" "kinds" "LVillageRounds$Numbers;" ∈ vr_T := vr_in 243 (by decide +kernel) (by decide +kernel)
theorem wf_X8_43 : Cond.fieldLink RX8 43 "VillageRounds$World" "leads" "LVillageRounds$Numbers;" ∈ vr_T := vr_in 244 (by decide +kernel) (by decide +kernel)
theorem wf_X9_166 : Cond.fieldLink RX9 166 "VillageRounds$World" "leads" "LVillageRounds$Numbers;" ∈ vr_T := vr_in 245 (by decide +kernel) (by decide +kernel)
theorem wf_X8_60 : Cond.fieldLink RX8 60 "VillageRounds$World" "lands" "I" ∈ vr_T := vr_in 246 (by decide +kernel) (by decide +kernel)
theorem wf_X9_113 : Cond.fieldLink RX9 113 "VillageRounds$World" "lands" "I" ∈ vr_T := vr_in 247 (by decide +kernel) (by decide +kernel)
theorem wl_X9_21 : Cond.classLink RX9 21 RX3 ∈ vr_T := vr_in 265 (by decide +kernel) (by decide +kernel)
theorem wm_X9_23 : Cond.methodLink RX9 23 yX3_init ∈ vr_T := vr_in 266 (by decide +kernel) (by decide +kernel)
theorem wl_X9_28 : Cond.classLink RX9 28 RX6 ∈ vr_T := vr_in 267 (by decide +kernel) (by decide +kernel)
theorem wn_X6 : Cond.instantiable RX6 3 ∈ vr_T := vr_in 268 (by decide +kernel) (by decide +kernel)
theorem wm_X9_34 : Cond.methodLink RX9 34 yX6_init ∈ vr_T := vr_in 269 (by decide +kernel) (by decide +kernel)
theorem wi_yX6_init : Cond.instanceMethod yX6_init ∈ vr_T := vr_in 270 (by decide +kernel) (by decide +kernel)
theorem wc_yX6_init : Cond.code yX6_init cX6_init 3 (Option.none : Option Jvm.ClassFile.FieldType) ∈ vr_T := vr_in 271 (by decide +kernel) (by decide +kernel)
theorem wf_X6_9 : Cond.fieldLink RX6 9 "VillageRounds$Reader" "tape" "LVillageRounds$Numbers;" ∈ vr_T := vr_in 273 (by decide +kernel) (by decide +kernel)
theorem wf_X6_15 : Cond.fieldLink RX6 15 "VillageRounds$Reader" "land" "LVillageRounds$Land;" ∈ vr_T := vr_in 274 (by decide +kernel) (by decide +kernel)
theorem wf_X6_24 : Cond.fieldLink RX6 24 "VillageRounds$Reader" "at" "I" ∈ vr_T := vr_in 275 (by decide +kernel) (by decide +kernel)
theorem wl_X9_41 : Cond.classLink RX9 41 RX7 ∈ vr_T := vr_in 283 (by decide +kernel) (by decide +kernel)
theorem wn_X7 : Cond.instantiable RX7 11 ∈ vr_T := vr_in 284 (by decide +kernel) (by decide +kernel)
theorem wm_X9_43 : Cond.methodLink RX9 43 yX7_init ∈ vr_T := vr_in 285 (by decide +kernel) (by decide +kernel)
theorem wi_yX7_init : Cond.instanceMethod yX7_init ∈ vr_T := vr_in 286 (by decide +kernel) (by decide +kernel)
theorem wc_yX7_init : Cond.code yX7_init cX7_init 2 (Option.none : Option Jvm.ClassFile.FieldType) ∈ vr_T := vr_in 287 (by decide +kernel) (by decide +kernel)
theorem wl_X7_9 : Cond.classLink RX7 9 RX2 ∈ vr_T := vr_in 289 (by decide +kernel) (by decide +kernel)
theorem wl_X7_29 : Cond.classLink RX7 29 RX0 ∈ vr_T := vr_in 291 (by decide +kernel) (by decide +kernel)
theorem wn_X0 : Cond.instantiable RX0 8 ∈ vr_T := vr_in 292 (by decide +kernel) (by decide +kernel)
theorem wm_X7_31 : Cond.methodLink RX7 31 yX0_init ∈ vr_T := vr_in 293 (by decide +kernel) (by decide +kernel)
theorem wi_yX0_init : Cond.instanceMethod yX0_init ∈ vr_T := vr_in 294 (by decide +kernel) (by decide +kernel)
theorem wc_yX0_init : Cond.code yX0_init cX0_init 3 (Option.none : Option Jvm.ClassFile.FieldType) ∈ vr_T := vr_in 295 (by decide +kernel) (by decide +kernel)
theorem wf_X0_28 : Cond.fieldLink RX0 28 "VillageRounds$Chief" "hill" "LVillageRounds$Hill;" ∈ vr_T := vr_in 297 (by decide +kernel) (by decide +kernel)
theorem wf_X0_32 : Cond.fieldLink RX0 32 "VillageRounds$Chief" "land" "LVillageRounds$Land;" ∈ vr_T := vr_in 298 (by decide +kernel) (by decide +kernel)
theorem wf_X0_36 : Cond.fieldLink RX0 36 "VillageRounds$Chief" "kind" "I" ∈ vr_T := vr_in 299 (by decide +kernel) (by decide +kernel)
theorem wf_X0_9 : Cond.fieldLink RX0 9 "VillageRounds$Chief" "v" "I" ∈ vr_T := vr_in 300 (by decide +kernel) (by decide +kernel)
theorem wf_X0_15 : Cond.fieldLink RX0 15 "VillageRounds$Chief" "ripe" "[I" ∈ vr_T := vr_in 301 (by decide +kernel) (by decide +kernel)
theorem wf_X0_19 : Cond.fieldLink RX0 19 "VillageRounds$Chief" "given" "[I" ∈ vr_T := vr_in 302 (by decide +kernel) (by decide +kernel)
theorem wf_X0_22 : Cond.fieldLink RX0 22 "VillageRounds$Chief" "rank" "[I" ∈ vr_T := vr_in 303 (by decide +kernel) (by decide +kernel)
theorem wf_X0_25 : Cond.fieldLink RX0 25 "VillageRounds$Chief" "sums" "[I" ∈ vr_T := vr_in 304 (by decide +kernel) (by decide +kernel)
theorem wf_X7_21 : Cond.fieldLink RX7 21 "VillageRounds$Trial" "start" "LVillageRounds$Hill;" ∈ vr_T := vr_in 322 (by decide +kernel) (by decide +kernel)
theorem wf_X7_28 : Cond.fieldLink RX7 28 "VillageRounds$Trial" "land" "LVillageRounds$Land;" ∈ vr_T := vr_in 323 (by decide +kernel) (by decide +kernel)
theorem wf_X7_12 : Cond.fieldLink RX7 12 "VillageRounds$Trial" "hill" "LVillageRounds$Hill;" ∈ vr_T := vr_in 324 (by decide +kernel) (by decide +kernel)
theorem wf_X1_62 : Cond.fieldLink RX1 62 "VillageRounds$Trial" "hill" "LVillageRounds$Hill;" ∈ vr_T := vr_in 325 (by decide +kernel) (by decide +kernel)
theorem wf_X9_156 : Cond.fieldLink RX9 156 "VillageRounds$Trial" "hill" "LVillageRounds$Hill;" ∈ vr_T := vr_in 326 (by decide +kernel) (by decide +kernel)
theorem wf_X7_34 : Cond.fieldLink RX7 34 "VillageRounds$Trial" "chief" "LVillageRounds$Chief;" ∈ vr_T := vr_in 327 (by decide +kernel) (by decide +kernel)
theorem wf_X1_74 : Cond.fieldLink RX1 74 "VillageRounds$Trial" "chief" "LVillageRounds$Chief;" ∈ vr_T := vr_in 328 (by decide +kernel) (by decide +kernel)
theorem wf_X9_136 : Cond.fieldLink RX9 136 "VillageRounds$Trial" "chief" "LVillageRounds$Chief;" ∈ vr_T := vr_in 329 (by decide +kernel) (by decide +kernel)
theorem wf_X7_45 : Cond.fieldLink RX7 45 "VillageRounds$Trial" "years" "I" ∈ vr_T := vr_in 330 (by decide +kernel) (by decide +kernel)
theorem wf_X7_49 : Cond.fieldLink RX7 49 "VillageRounds$Trial" "hungers" "I" ∈ vr_T := vr_in 331 (by decide +kernel) (by decide +kernel)
theorem wf_X9_186 : Cond.fieldLink RX9 186 "VillageRounds$Trial" "hungers" "I" ∈ vr_T := vr_in 332 (by decide +kernel) (by decide +kernel)
theorem wf_X7_52 : Cond.fieldLink RX7 52 "VillageRounds$Trial" "firstHunger" "I" ∈ vr_T := vr_in 333 (by decide +kernel) (by decide +kernel)
theorem wf_X9_195 : Cond.fieldLink RX9 195 "VillageRounds$Trial" "firstHunger" "I" ∈ vr_T := vr_in 334 (by decide +kernel) (by decide +kernel)
theorem wf_X7_55 : Cond.fieldLink RX7 55 "VillageRounds$Trial" "travels" "I" ∈ vr_T := vr_in 335 (by decide +kernel) (by decide +kernel)
theorem wf_X9_205 : Cond.fieldLink RX9 205 "VillageRounds$Trial" "travels" "I" ∈ vr_T := vr_in 336 (by decide +kernel) (by decide +kernel)
theorem wf_X1_43 : Cond.fieldLink RX1 43 "VillageRounds$Trial" "harvest" "I" ∈ vr_T := vr_in 337 (by decide +kernel) (by decide +kernel)
theorem wf_X7_70 : Cond.fieldLink RX7 70 "VillageRounds$Trial" "harvest" "I" ∈ vr_T := vr_in 338 (by decide +kernel) (by decide +kernel)
theorem wf_X9_160 : Cond.fieldLink RX9 160 "VillageRounds$Trial" "harvest" "I" ∈ vr_T := vr_in 339 (by decide +kernel) (by decide +kernel)
theorem wf_X7_76 : Cond.fieldLink RX7 76 "VillageRounds$Trial" "fedWet" "Z" ∈ vr_T := vr_in 340 (by decide +kernel) (by decide +kernel)
theorem wf_X7_80 : Cond.fieldLink RX7 80 "VillageRounds$Trial" "fedDry" "Z" ∈ vr_T := vr_in 341 (by decide +kernel) (by decide +kernel)
theorem wl_X9_50 : Cond.classLink RX9 50 RX1 ∈ vr_T := vr_in 365 (by decide +kernel) (by decide +kernel)
theorem wn_X1 : Cond.instantiable RX1 5 ∈ vr_T := vr_in 366 (by decide +kernel) (by decide +kernel)
theorem wm_X9_52 : Cond.methodLink RX9 52 yX1_init ∈ vr_T := vr_in 367 (by decide +kernel) (by decide +kernel)
theorem wi_yX1_init : Cond.instanceMethod yX1_init ∈ vr_T := vr_in 368 (by decide +kernel) (by decide +kernel)
theorem wc_yX1_init : Cond.code yX1_init cX1_init 2 (Option.none : Option Jvm.ClassFile.FieldType) ∈ vr_T := vr_in 369 (by decide +kernel) (by decide +kernel)
theorem wf_X1_18 : Cond.fieldLink RX1 18 "VillageRounds$Circle" "trial" "LVillageRounds$Trial;" ∈ vr_T := vr_in 371 (by decide +kernel) (by decide +kernel)
theorem wf_X1_11 : Cond.fieldLink RX1 11 "VillageRounds$Circle" "states" "[I" ∈ vr_T := vr_in 372 (by decide +kernel) (by decide +kernel)
theorem wf_X1_15 : Cond.fieldLink RX1 15 "VillageRounds$Circle" "harvests" "[I" ∈ vr_T := vr_in 373 (by decide +kernel) (by decide +kernel)
theorem wf_X1_30 : Cond.fieldLink RX1 30 "VillageRounds$Circle" "start" "I" ∈ vr_T := vr_in 374 (by decide +kernel) (by decide +kernel)
theorem wf_X9_215 : Cond.fieldLink RX9 215 "VillageRounds$Circle" "start" "I" ∈ vr_T := vr_in 375 (by decide +kernel) (by decide +kernel)
theorem wf_X1_34 : Cond.fieldLink RX1 34 "VillageRounds$Circle" "end" "I" ∈ vr_T := vr_in 376 (by decide +kernel) (by decide +kernel)
theorem wf_X9_212 : Cond.fieldLink RX9 212 "VillageRounds$Circle" "end" "I" ∈ vr_T := vr_in 377 (by decide +kernel) (by decide +kernel)
theorem wl_X9_59 : Cond.classLink RX9 59 RX5 ∈ vr_T := vr_in 389 (by decide +kernel) (by decide +kernel)
theorem wn_X5 : Cond.instantiable RX5 5 ∈ vr_T := vr_in 390 (by decide +kernel) (by decide +kernel)
theorem wi_yX5_init : Cond.instanceMethod yX5_init ∈ vr_T := vr_in 392 (by decide +kernel) (by decide +kernel)
theorem wc_yX5_init : Cond.code yX5_init cX5_init 1 (Option.none : Option Jvm.ClassFile.FieldType) ∈ vr_T := vr_in 393 (by decide +kernel) (by decide +kernel)
theorem wf_X5_9 : Cond.fieldLink RX5 9 "VillageRounds$Play" "trace" "[I" ∈ vr_T := vr_in 395 (by decide +kernel) (by decide +kernel)
theorem wf_X9_262 : Cond.fieldLink RX9 262 "VillageRounds$Play" "trace" "[I" ∈ vr_T := vr_in 396 (by decide +kernel) (by decide +kernel)
theorem wf_X5_15 : Cond.fieldLink RX5 15 "VillageRounds$Play" "ran" "I" ∈ vr_T := vr_in 397 (by decide +kernel) (by decide +kernel)
theorem wf_X9_250 : Cond.fieldLink RX9 250 "VillageRounds$Play" "ran" "I" ∈ vr_T := vr_in 398 (by decide +kernel) (by decide +kernel)
theorem wf_X5_19 : Cond.fieldLink RX5 19 "VillageRounds$Play" "kind" "I" ∈ vr_T := vr_in 399 (by decide +kernel) (by decide +kernel)
theorem wf_X5_22 : Cond.fieldLink RX5 22 "VillageRounds$Play" "v" "I" ∈ vr_T := vr_in 400 (by decide +kernel) (by decide +kernel)
theorem wf_X5_25 : Cond.fieldLink RX5 25 "VillageRounds$Play" "number" "I" ∈ vr_T := vr_in 401 (by decide +kernel) (by decide +kernel)
theorem wf_X9_12 : Cond.fieldLink RX9 12 "VillageRounds" "now" "LVillageRounds$World;" ∈ vr_T := vr_in 413 (by decide +kernel) (by decide +kernel)
theorem wf_X9_18 : Cond.fieldLink RX9 18 "VillageRounds" "kept" "LVillageRounds$World;" ∈ vr_T := vr_in 414 (by decide +kernel) (by decide +kernel)
theorem wf_X9_270 : Cond.fieldLink RX9 270 "VillageRounds" "hasImage" "Z" ∈ vr_T := vr_in 415 (by decide +kernel) (by decide +kernel)
theorem wf_X9_24 : Cond.fieldLink RX9 24 "VillageRounds" "draft" "LVillageRounds$Land;" ∈ vr_T := vr_in 416 (by decide +kernel) (by decide +kernel)
theorem wf_X9_37 : Cond.fieldLink RX9 37 "VillageRounds" "reader" "LVillageRounds$Reader;" ∈ vr_T := vr_in 417 (by decide +kernel) (by decide +kernel)
theorem wf_X9_46 : Cond.fieldLink RX9 46 "VillageRounds" "trial" "LVillageRounds$Trial;" ∈ vr_T := vr_in 418 (by decide +kernel) (by decide +kernel)
theorem wf_X9_55 : Cond.fieldLink RX9 55 "VillageRounds" "circle" "LVillageRounds$Circle;" ∈ vr_T := vr_in 419 (by decide +kernel) (by decide +kernel)
theorem wf_X9_62 : Cond.fieldLink RX9 62 "VillageRounds" "play" "LVillageRounds$Play;" ∈ vr_T := vr_in 420 (by decide +kernel) (by decide +kernel)
theorem wm_L_13 : Cond.methodLink RL 13 yX9_plot ∈ vr_T := vr_in 438 (by decide +kernel) (by decide +kernel)
theorem wi_yX9_plot : Cond.instanceMethod yX9_plot ∈ vr_T := vr_in 439 (by decide +kernel) (by decide +kernel)
theorem ws_yX9_plot : Cond.selects RX9 yX9_plot yX9_plot ∈ vr_T := vr_in 440 (by decide +kernel) (by decide +kernel)
theorem wc_yX9_plot : Cond.code yX9_plot cX9_plot 3 (Option.some Jvm.ClassFile.FieldType.int) ∈ vr_T := vr_in 441 (by decide +kernel) (by decide +kernel)
theorem wm_X9_66 : Cond.methodLink RX9 66 yX9_within ∈ vr_T := vr_in 442 (by decide +kernel) (by decide +kernel)
theorem wt_yX9_within : Cond.static yX9_within ∈ vr_T := vr_in 443 (by decide +kernel) (by decide +kernel)
theorem wc_yX9_within : Cond.code yX9_within cX9_within 3 (Option.some Jvm.ClassFile.FieldType.boolean) ∈ vr_T := vr_in 444 (by decide +kernel) (by decide +kernel)
theorem wm_X9_80 : Cond.methodLink RX9 80 yX2_add ∈ vr_T := vr_in 445 (by decide +kernel) (by decide +kernel)
theorem wi_yX2_add : Cond.instanceMethod yX2_add ∈ vr_T := vr_in 446 (by decide +kernel) (by decide +kernel)
theorem ws_yX2_add : Cond.selects RX2 yX2_add yX2_add ∈ vr_T := vr_in 447 (by decide +kernel) (by decide +kernel)
theorem wc_yX2_add : Cond.code yX2_add cX2_add 4 (Option.some Jvm.ClassFile.FieldType.int) ∈ vr_T := vr_in 448 (by decide +kernel) (by decide +kernel)
theorem wm_L_18 : Cond.methodLink RL 18 yX9_of ∈ vr_T := vr_in 449 (by decide +kernel) (by decide +kernel)
theorem wi_yX9_of : Cond.instanceMethod yX9_of ∈ vr_T := vr_in 450 (by decide +kernel) (by decide +kernel)
theorem ws_yX9_of : Cond.selects RX9 yX9_of yX9_of ∈ vr_T := vr_in 451 (by decide +kernel) (by decide +kernel)
theorem wc_yX9_of : Cond.code yX9_of cX9_of 3 (Option.some Jvm.ClassFile.FieldType.int) ∈ vr_T := vr_in 452 (by decide +kernel) (by decide +kernel)
theorem wm_X9_84 : Cond.methodLink RX9 84 yX2_has ∈ vr_T := vr_in 453 (by decide +kernel) (by decide +kernel)
theorem wi_yX2_has : Cond.instanceMethod yX2_has ∈ vr_T := vr_in 454 (by decide +kernel) (by decide +kernel)
theorem ws_yX2_has : Cond.selects RX2 yX2_has yX2_has ∈ vr_T := vr_in 455 (by decide +kernel) (by decide +kernel)
theorem wc_yX2_has : Cond.code yX2_has cX2_has 2 (Option.some Jvm.ClassFile.FieldType.boolean) ∈ vr_T := vr_in 456 (by decide +kernel) (by decide +kernel)
theorem wm_L_22 : Cond.methodLink RL 22 yX9_lies ∈ vr_T := vr_in 457 (by decide +kernel) (by decide +kernel)
theorem wi_yX9_lies : Cond.instanceMethod yX9_lies ∈ vr_T := vr_in 458 (by decide +kernel) (by decide +kernel)
theorem ws_yX9_lies : Cond.selects RX9 yX9_lies yX9_lies ∈ vr_T := vr_in 459 (by decide +kernel) (by decide +kernel)
theorem wc_yX9_lies : Cond.code yX9_lies cX9_lies 4 (Option.some Jvm.ClassFile.FieldType.int) ∈ vr_T := vr_in 460 (by decide +kernel) (by decide +kernel)
theorem wm_L_28 : Cond.methodLink RL 28 yX9_feed ∈ vr_T := vr_in 461 (by decide +kernel) (by decide +kernel)
theorem wi_yX9_feed : Cond.instanceMethod yX9_feed ∈ vr_T := vr_in 462 (by decide +kernel) (by decide +kernel)
theorem ws_yX9_feed : Cond.selects RX9 yX9_feed yX9_feed ∈ vr_T := vr_in 463 (by decide +kernel) (by decide +kernel)
theorem wc_yX9_feed : Cond.code yX9_feed cX9_feed 5 (Option.some Jvm.ClassFile.FieldType.int) ∈ vr_T := vr_in 464 (by decide +kernel) (by decide +kernel)
theorem wm_X9_109 : Cond.methodLink RX9 109 yX4_put ∈ vr_T := vr_in 465 (by decide +kernel) (by decide +kernel)
theorem wi_yX4_put : Cond.instanceMethod yX4_put ∈ vr_T := vr_in 466 (by decide +kernel) (by decide +kernel)
theorem ws_yX4_put : Cond.selects RX4 yX4_put yX4_put ∈ vr_T := vr_in 467 (by decide +kernel) (by decide +kernel)
theorem wc_yX4_put : Cond.code yX4_put cX4_put 2 (Option.some Jvm.ClassFile.FieldType.int) ∈ vr_T := vr_in 468 (by decide +kernel) (by decide +kernel)
theorem wm_L_33 : Cond.methodLink RL 33 yX9_land ∈ vr_T := vr_in 469 (by decide +kernel) (by decide +kernel)
theorem wi_yX9_land : Cond.instanceMethod yX9_land ∈ vr_T := vr_in 470 (by decide +kernel) (by decide +kernel)
theorem ws_yX9_land : Cond.selects RX9 yX9_land yX9_land ∈ vr_T := vr_in 471 (by decide +kernel) (by decide +kernel)
theorem wc_yX9_land : Cond.code yX9_land cX9_land 2 (Option.some Jvm.ClassFile.FieldType.int) ∈ vr_T := vr_in 472 (by decide +kernel) (by decide +kernel)
theorem wm_X9_116 : Cond.methodLink RX9 116 yX6_fault ∈ vr_T := vr_in 473 (by decide +kernel) (by decide +kernel)
theorem wi_yX6_fault : Cond.instanceMethod yX6_fault ∈ vr_T := vr_in 474 (by decide +kernel) (by decide +kernel)
theorem ws_yX6_fault : Cond.selects RX6 yX6_fault yX6_fault ∈ vr_T := vr_in 475 (by decide +kernel) (by decide +kernel)
theorem wc_yX6_fault : Cond.code yX6_fault cX6_fault 2 (Option.some Jvm.ClassFile.FieldType.int) ∈ vr_T := vr_in 476 (by decide +kernel) (by decide +kernel)
theorem wm_X6_19 : Cond.methodLink RX6 19 yX3_clear ∈ vr_T := vr_in 477 (by decide +kernel) (by decide +kernel)
theorem wm_X6_28 : Cond.methodLink RX6 28 yX6_readClause ∈ vr_T := vr_in 478 (by decide +kernel) (by decide +kernel)
theorem wi_yX6_readClause : Cond.instanceMethod yX6_readClause ∈ vr_T := vr_in 480 (by decide +kernel) (by decide +kernel)
theorem wc_yX6_readClause : Cond.code yX6_readClause cX6_readClause 4 (Option.some Jvm.ClassFile.FieldType.boolean) ∈ vr_T := vr_in 481 (by decide +kernel) (by decide +kernel)
theorem wm_X6_41 : Cond.methodLink RX6 41 yX6_readWord ∈ vr_T := vr_in 482 (by decide +kernel) (by decide +kernel)
theorem wi_yX6_readWord : Cond.instanceMethod yX6_readWord ∈ vr_T := vr_in 484 (by decide +kernel) (by decide +kernel)
theorem wc_yX6_readWord : Cond.code yX6_readWord cX6_readWord 5 (Option.some Jvm.ClassFile.FieldType.int) ∈ vr_T := vr_in 485 (by decide +kernel) (by decide +kernel)
theorem wm_X6_75 : Cond.methodLink RX6 75 yX6_spelt ∈ vr_T := vr_in 486 (by decide +kernel) (by decide +kernel)
theorem wt_yX6_spelt : Cond.static yX6_spelt ∈ vr_T := vr_in 487 (by decide +kernel) (by decide +kernel)
theorem wc_yX6_spelt : Cond.code yX6_spelt cX6_spelt 1 (Option.some (Jvm.ClassFile.FieldType.object "java/lang/String")) ∈ vr_T := vr_in 488 (by decide +kernel) (by decide +kernel)
theorem wm_X6_79 : Cond.methodLink RX6 79 yX6_sameBytes ∈ vr_T := vr_in 495 (by decide +kernel) (by decide +kernel)
theorem wi_yX6_sameBytes : Cond.instanceMethod yX6_sameBytes ∈ vr_T := vr_in 497 (by decide +kernel) (by decide +kernel)
theorem wc_yX6_sameBytes : Cond.code yX6_sameBytes cX6_sameBytes 3 (Option.some Jvm.ClassFile.FieldType.int) ∈ vr_T := vr_in 498 (by decide +kernel) (by decide +kernel)
theorem wm_X6_83 : Cond.methodLink RX6 83 yJ0_length_8abf5 ∈ vr_T := vr_in 499 (by decide +kernel) (by decide +kernel)
theorem wi_yJ0_length_8abf5 : Cond.instanceMethod yJ0_length_8abf5 ∈ vr_T := vr_in 500 (by decide +kernel) (by decide +kernel)
theorem ws_yJ0_length_8abf5 : Cond.selects RJ0 yJ0_length_8abf5 yJ0_length_8abf5 ∈ vr_T := vr_in 501 (by decide +kernel) (by decide +kernel)
theorem wc_yJ0_length_8abf5 : Cond.code yJ0_length_8abf5 cJ0_length_8abf5 1 (Option.some Jvm.ClassFile.FieldType.int) ∈ vr_T := vr_in 502 (by decide +kernel) (by decide +kernel)
theorem wm_J0_335 : Cond.methodLink RJ0 335 yJ0_coder_7d493 ∈ vr_T := vr_in 503 (by decide +kernel) (by decide +kernel)
theorem wi_yJ0_coder_7d493 : Cond.instanceMethod yJ0_coder_7d493 ∈ vr_T := vr_in 504 (by decide +kernel) (by decide +kernel)
theorem ws_yJ0_coder_7d493 : Cond.selects RJ0 yJ0_coder_7d493 yJ0_coder_7d493 ∈ vr_T := vr_in 505 (by decide +kernel) (by decide +kernel)
theorem wc_yJ0_coder_7d493 : Cond.code yJ0_coder_7d493 cJ0_coder_7d493 1 (Option.some Jvm.ClassFile.FieldType.byte) ∈ vr_T := vr_in 506 (by decide +kernel) (by decide +kernel)
theorem wf_J0_38 : Cond.fieldLink RJ0 38 "java/lang/String" "COMPACT_STRINGS" "Z" ∈ vr_T := vr_in 507 (by decide +kernel) (by decide +kernel)
theorem wm_X6_94 : Cond.methodLink RX6 94 yX4_at ∈ vr_T := vr_in 509 (by decide +kernel) (by decide +kernel)
theorem wi_yX4_at : Cond.instanceMethod yX4_at ∈ vr_T := vr_in 510 (by decide +kernel) (by decide +kernel)
theorem ws_yX4_at : Cond.selects RX4 yX4_at yX4_at ∈ vr_T := vr_in 511 (by decide +kernel) (by decide +kernel)
theorem wc_yX4_at : Cond.code yX4_at cX4_at 2 (Option.some Jvm.ClassFile.FieldType.int) ∈ vr_T := vr_in 512 (by decide +kernel) (by decide +kernel)
theorem wm_X6_97 : Cond.methodLink RX6 97 yJ0_charAt_5068e ∈ vr_T := vr_in 513 (by decide +kernel) (by decide +kernel)
theorem wi_yJ0_charAt_5068e : Cond.instanceMethod yJ0_charAt_5068e ∈ vr_T := vr_in 514 (by decide +kernel) (by decide +kernel)
theorem ws_yJ0_charAt_5068e : Cond.selects RJ0 yJ0_charAt_5068e yJ0_charAt_5068e ∈ vr_T := vr_in 515 (by decide +kernel) (by decide +kernel)
theorem wc_yJ0_charAt_5068e : Cond.code yJ0_charAt_5068e cJ0_charAt_5068e 2 (Option.some Jvm.ClassFile.FieldType.char) ∈ vr_T := vr_in 516 (by decide +kernel) (by decide +kernel)
theorem wm_J0_492 : Cond.methodLink RJ0 492 yJ0_isLatin1_aae02 ∈ vr_T := vr_in 517 (by decide +kernel) (by decide +kernel)
theorem wi_yJ0_isLatin1_aae02 : Cond.instanceMethod yJ0_isLatin1_aae02 ∈ vr_T := vr_in 518 (by decide +kernel) (by decide +kernel)
theorem ws_yJ0_isLatin1_aae02 : Cond.selects RJ0 yJ0_isLatin1_aae02 yJ0_isLatin1_aae02 ∈ vr_T := vr_in 519 (by decide +kernel) (by decide +kernel)
theorem wc_yJ0_isLatin1_aae02 : Cond.code yJ0_isLatin1_aae02 cJ0_isLatin1_aae02 1 (Option.some Jvm.ClassFile.FieldType.boolean) ∈ vr_T := vr_in 520 (by decide +kernel) (by decide +kernel)
theorem wm_J0_495 : Cond.methodLink RJ0 495 yJ1_charAt_3b067 ∈ vr_T := vr_in 521 (by decide +kernel) (by decide +kernel)
theorem wt_yJ1_charAt_3b067 : Cond.static yJ1_charAt_3b067 ∈ vr_T := vr_in 522 (by decide +kernel) (by decide +kernel)
theorem wc_yJ1_charAt_3b067 : Cond.code yJ1_charAt_3b067 cJ1_charAt_3b067 2 (Option.some Jvm.ClassFile.FieldType.char) ∈ vr_T := vr_in 523 (by decide +kernel) (by decide +kernel)
theorem wm_J1_9 : Cond.methodLink RJ1 9 yJ0_checkIndex_df160 ∈ vr_T := vr_in 524 (by decide +kernel) (by decide +kernel)
theorem wt_yJ0_checkIndex_df160 : Cond.static yJ0_checkIndex_df160 ∈ vr_T := vr_in 525 (by decide +kernel) (by decide +kernel)
theorem wc_yJ0_checkIndex_df160 : Cond.code yJ0_checkIndex_df160 cJ0_checkIndex_df160 2 (Option.none : Option Jvm.ClassFile.FieldType) ∈ vr_T := vr_in 526 (by decide +kernel) (by decide +kernel)
theorem wf_J0_1053 : Cond.fieldLink RJ0 1053 "jdk/internal/util/Preconditions" "SIOOBE_FORMATTER" "Ljava/util/function/BiFunction;" ∈ vr_T := vr_in 527 (by decide +kernel) (by decide +kernel)
theorem wm_J0_1059 : Cond.methodLink RJ0 1059 yJ3_checkIndex_8e157 ∈ vr_T := vr_in 529 (by decide +kernel) (by decide +kernel)
theorem wt_yJ3_checkIndex_8e157 : Cond.static yJ3_checkIndex_8e157 ∈ vr_T := vr_in 530 (by decide +kernel) (by decide +kernel)
theorem wc_yJ3_checkIndex_8e157 : Cond.code yJ3_checkIndex_8e157 cJ3_checkIndex_8e157 3 (Option.some Jvm.ClassFile.FieldType.int) ∈ vr_T := vr_in 531 (by decide +kernel) (by decide +kernel)
theorem wm_J0_498 : Cond.methodLink RJ0 498 yJ2_charAt_3b067 ∈ vr_T := vr_in 532 (by decide +kernel) (by decide +kernel)
theorem wt_yJ2_charAt_3b067 : Cond.static yJ2_charAt_3b067 ∈ vr_T := vr_in 533 (by decide +kernel) (by decide +kernel)
theorem wc_yJ2_charAt_3b067 : Cond.code yJ2_charAt_3b067 cJ2_charAt_3b067 2 (Option.some Jvm.ClassFile.FieldType.char) ∈ vr_T := vr_in 534 (by decide +kernel) (by decide +kernel)
theorem wm_J2_67 : Cond.methodLink RJ2 67 yJ2_checkIndex_2214a ∈ vr_T := vr_in 535 (by decide +kernel) (by decide +kernel)
theorem wt_yJ2_checkIndex_2214a : Cond.static yJ2_checkIndex_2214a ∈ vr_T := vr_in 536 (by decide +kernel) (by decide +kernel)
theorem wc_yJ2_checkIndex_2214a : Cond.code yJ2_checkIndex_2214a cJ2_checkIndex_2214a 2 (Option.none : Option Jvm.ClassFile.FieldType) ∈ vr_T := vr_in 537 (by decide +kernel) (by decide +kernel)
theorem wm_J2_48 : Cond.methodLink RJ2 48 yJ2_length_9d52b ∈ vr_T := vr_in 538 (by decide +kernel) (by decide +kernel)
theorem wt_yJ2_length_9d52b : Cond.static yJ2_length_9d52b ∈ vr_T := vr_in 539 (by decide +kernel) (by decide +kernel)
theorem wc_yJ2_length_9d52b : Cond.code yJ2_length_9d52b cJ2_length_9d52b 1 (Option.some Jvm.ClassFile.FieldType.int) ∈ vr_T := vr_in 540 (by decide +kernel) (by decide +kernel)
theorem wm_J2_414 : Cond.methodLink RJ2 414 yJ0_checkIndex_df160 ∈ vr_T := vr_in 541 (by decide +kernel) (by decide +kernel)
theorem wm_J2_71 : Cond.methodLink RJ2 71 yJ2_getChar_3b067 ∈ vr_T := vr_in 542 (by decide +kernel) (by decide +kernel)
theorem wt_yJ2_getChar_3b067 : Cond.static yJ2_getChar_3b067 ∈ vr_T := vr_in 543 (by decide +kernel) (by decide +kernel)
theorem wc_yJ2_getChar_3b067 : Cond.code yJ2_getChar_3b067 cJ2_getChar_3b067 2 (Option.some Jvm.ClassFile.FieldType.char) ∈ vr_T := vr_in 544 (by decide +kernel) (by decide +kernel)
theorem wf_J2_44 : Cond.fieldLink RJ2 44 "java/lang/StringUTF16" "$assertionsDisabled" "Z" ∈ vr_T := vr_in 545 (by decide +kernel) (by decide +kernel)
theorem wf_J2_59 : Cond.fieldLink RJ2 59 "java/lang/StringUTF16" "HI_BYTE_SHIFT" "I" ∈ vr_T := vr_in 547 (by decide +kernel) (by decide +kernel)
theorem wf_J2_63 : Cond.fieldLink RJ2 63 "java/lang/StringUTF16" "LO_BYTE_SHIFT" "I" ∈ vr_T := vr_in 549 (by decide +kernel) (by decide +kernel)
theorem wm_X6_88 : Cond.methodLink RX6 88 yJ9_max_7cf53 ∈ vr_T := vr_in 551 (by decide +kernel) (by decide +kernel)
theorem wm_X6_45 : Cond.methodLink RX6 45 yX6_readAny ∈ vr_T := vr_in 552 (by decide +kernel) (by decide +kernel)
theorem wi_yX6_readAny : Cond.instanceMethod yX6_readAny ∈ vr_T := vr_in 554 (by decide +kernel) (by decide +kernel)
theorem wc_yX6_readAny : Cond.code yX6_readAny cX6_readAny 6 (Option.some Jvm.ClassFile.FieldType.boolean) ∈ vr_T := vr_in 555 (by decide +kernel) (by decide +kernel)
theorem wm_X6_109 : Cond.methodLink RX6 109 yX6_readOne ∈ vr_T := vr_in 556 (by decide +kernel) (by decide +kernel)
theorem wi_yX6_readOne : Cond.instanceMethod yX6_readOne ∈ vr_T := vr_in 558 (by decide +kernel) (by decide +kernel)
theorem wc_yX6_readOne : Cond.code yX6_readOne cX6_readOne 5 (Option.some Jvm.ClassFile.FieldType.boolean) ∈ vr_T := vr_in 559 (by decide +kernel) (by decide +kernel)
theorem wm_X6_112 : Cond.methodLink RX6 112 yX6_sees ∈ vr_T := vr_in 560 (by decide +kernel) (by decide +kernel)
theorem wi_yX6_sees : Cond.instanceMethod yX6_sees ∈ vr_T := vr_in 562 (by decide +kernel) (by decide +kernel)
theorem wc_yX6_sees : Cond.code yX6_sees cX6_sees 2 (Option.some Jvm.ClassFile.FieldType.boolean) ∈ vr_T := vr_in 563 (by decide +kernel) (by decide +kernel)
theorem wm_X6_118 : Cond.methodLink RX6 118 yX6_readOpen ∈ vr_T := vr_in 564 (by decide +kernel) (by decide +kernel)
theorem wi_yX6_readOpen : Cond.instanceMethod yX6_readOpen ∈ vr_T := vr_in 566 (by decide +kernel) (by decide +kernel)
theorem wc_yX6_readOpen : Cond.code yX6_readOpen cX6_readOpen 3 (Option.some Jvm.ClassFile.FieldType.boolean) ∈ vr_T := vr_in 567 (by decide +kernel) (by decide +kernel)
theorem wm_X6_37 : Cond.methodLink RX6 37 yX6_take ∈ vr_T := vr_in 568 (by decide +kernel) (by decide +kernel)
theorem wi_yX6_take : Cond.instanceMethod yX6_take ∈ vr_T := vr_in 570 (by decide +kernel) (by decide +kernel)
theorem wc_yX6_take : Cond.code yX6_take cX6_take 2 (Option.some Jvm.ClassFile.FieldType.boolean) ∈ vr_T := vr_in 571 (by decide +kernel) (by decide +kernel)
theorem wm_X6_115 : Cond.methodLink RX6 115 yX3_putStep ∈ vr_T := vr_in 572 (by decide +kernel) (by decide +kernel)
theorem wi_yX3_putStep : Cond.instanceMethod yX3_putStep ∈ vr_T := vr_in 573 (by decide +kernel) (by decide +kernel)
theorem ws_yX3_putStep : Cond.selects RX3 yX3_putStep yX3_putStep ∈ vr_T := vr_in 574 (by decide +kernel) (by decide +kernel)
theorem wc_yX3_putStep : Cond.code yX3_putStep cX3_putStep 2 (Option.none : Option Jvm.ClassFile.FieldType) ∈ vr_T := vr_in 575 (by decide +kernel) (by decide +kernel)
theorem wm_X6_106 : Cond.methodLink RX6 106 yX6_takeOf ∈ vr_T := vr_in 577 (by decide +kernel) (by decide +kernel)
theorem wi_yX6_takeOf : Cond.instanceMethod yX6_takeOf ∈ vr_T := vr_in 579 (by decide +kernel) (by decide +kernel)
theorem wc_yX6_takeOf : Cond.code yX6_takeOf cX6_takeOf 3 (Option.some Jvm.ClassFile.FieldType.int) ∈ vr_T := vr_in 580 (by decide +kernel) (by decide +kernel)
theorem wm_X6_101 : Cond.methodLink RX6 101 yJ0_indexOf_0f7a4 ∈ vr_T := vr_in 581 (by decide +kernel) (by decide +kernel)
theorem wi_yJ0_indexOf_0f7a4 : Cond.instanceMethod yJ0_indexOf_0f7a4 ∈ vr_T := vr_in 582 (by decide +kernel) (by decide +kernel)
theorem ws_yJ0_indexOf_0f7a4 : Cond.selects RJ0 yJ0_indexOf_0f7a4 yJ0_indexOf_0f7a4 ∈ vr_T := vr_in 583 (by decide +kernel) (by decide +kernel)
theorem wc_yJ0_indexOf_0f7a4 : Cond.code yJ0_indexOf_0f7a4 cJ0_indexOf_0f7a4 2 (Option.some Jvm.ClassFile.FieldType.int) ∈ vr_T := vr_in 584 (by decide +kernel) (by decide +kernel)
theorem wm_J0_633 : Cond.methodLink RJ0 633 yJ0_indexOf_7cf53 ∈ vr_T := vr_in 585 (by decide +kernel) (by decide +kernel)
theorem wi_yJ0_indexOf_7cf53 : Cond.instanceMethod yJ0_indexOf_7cf53 ∈ vr_T := vr_in 586 (by decide +kernel) (by decide +kernel)
theorem ws_yJ0_indexOf_7cf53 : Cond.selects RJ0 yJ0_indexOf_7cf53 yJ0_indexOf_7cf53 ∈ vr_T := vr_in 587 (by decide +kernel) (by decide +kernel)
theorem wc_yJ0_indexOf_7cf53 : Cond.code yJ0_indexOf_7cf53 cJ0_indexOf_7cf53 3 (Option.some Jvm.ClassFile.FieldType.int) ∈ vr_T := vr_in 588 (by decide +kernel) (by decide +kernel)
theorem wm_J0_505 : Cond.methodLink RJ0 505 yJ0_length_8abf5 ∈ vr_T := vr_in 589 (by decide +kernel) (by decide +kernel)
theorem wm_J0_637 : Cond.methodLink RJ0 637 yJ1_indexOf_4cfef ∈ vr_T := vr_in 590 (by decide +kernel) (by decide +kernel)
theorem wt_yJ1_indexOf_4cfef : Cond.static yJ1_indexOf_4cfef ∈ vr_T := vr_in 591 (by decide +kernel) (by decide +kernel)
theorem wc_yJ1_indexOf_4cfef : Cond.code yJ1_indexOf_4cfef cJ1_indexOf_4cfef 4 (Option.some Jvm.ClassFile.FieldType.int) ∈ vr_T := vr_in 592 (by decide +kernel) (by decide +kernel)
theorem wm_J1_88 : Cond.methodLink RJ1 88 yJ1_canEncode_9a6ad ∈ vr_T := vr_in 593 (by decide +kernel) (by decide +kernel)
theorem wt_yJ1_canEncode_9a6ad : Cond.static yJ1_canEncode_9a6ad ∈ vr_T := vr_in 594 (by decide +kernel) (by decide +kernel)
theorem wc_yJ1_canEncode_9a6ad : Cond.code yJ1_canEncode_9a6ad cJ1_canEncode_9a6ad 1 (Option.some Jvm.ClassFile.FieldType.boolean) ∈ vr_T := vr_in 595 (by decide +kernel) (by decide +kernel)
theorem wm_J1_92 : Cond.methodLink RJ1 92 yJ9_max_7cf53 ∈ vr_T := vr_in 596 (by decide +kernel) (by decide +kernel)
theorem wm_J1_38 : Cond.methodLink RJ1 38 yJ9_min_7cf53 ∈ vr_T := vr_in 597 (by decide +kernel) (by decide +kernel)
theorem wt_yJ9_min_7cf53 : Cond.static yJ9_min_7cf53 ∈ vr_T := vr_in 598 (by decide +kernel) (by decide +kernel)
theorem wc_yJ9_min_7cf53 : Cond.code yJ9_min_7cf53 cJ9_min_7cf53 2 (Option.some Jvm.ClassFile.FieldType.int) ∈ vr_T := vr_in 599 (by decide +kernel) (by decide +kernel)
theorem wm_J1_95 : Cond.methodLink RJ1 95 yJ1_indexOfChar_4cfef ∈ vr_T := vr_in 600 (by decide +kernel) (by decide +kernel)
theorem wt_yJ1_indexOfChar_4cfef : Cond.static yJ1_indexOfChar_4cfef ∈ vr_T := vr_in 601 (by decide +kernel) (by decide +kernel)
theorem wc_yJ1_indexOfChar_4cfef : Cond.code yJ1_indexOfChar_4cfef cJ1_indexOfChar_4cfef 6 (Option.some Jvm.ClassFile.FieldType.int) ∈ vr_T := vr_in 602 (by decide +kernel) (by decide +kernel)
theorem wm_J0_640 : Cond.methodLink RJ0 640 yJ2_indexOf_4cfef ∈ vr_T := vr_in 603 (by decide +kernel) (by decide +kernel)
theorem wt_yJ2_indexOf_4cfef : Cond.static yJ2_indexOf_4cfef ∈ vr_T := vr_in 604 (by decide +kernel) (by decide +kernel)
theorem wc_yJ2_indexOf_4cfef : Cond.code yJ2_indexOf_4cfef cJ2_indexOf_4cfef 4 (Option.some Jvm.ClassFile.FieldType.int) ∈ vr_T := vr_in 605 (by decide +kernel) (by decide +kernel)
theorem wm_J2_224 : Cond.methodLink RJ2 224 yJ9_max_7cf53 ∈ vr_T := vr_in 606 (by decide +kernel) (by decide +kernel)
theorem wm_J2_183 : Cond.methodLink RJ2 183 yJ9_min_7cf53 ∈ vr_T := vr_in 607 (by decide +kernel) (by decide +kernel)
theorem wk_J2_227 : Cond.constant RJ2 227 (65536) ∈ vr_T := vr_in 608 (by decide +kernel) (by decide +kernel)
theorem wm_J2_228 : Cond.methodLink RJ2 228 yJ2_indexOfChar_4cfef ∈ vr_T := vr_in 609 (by decide +kernel) (by decide +kernel)
theorem wt_yJ2_indexOfChar_4cfef : Cond.static yJ2_indexOfChar_4cfef ∈ vr_T := vr_in 610 (by decide +kernel) (by decide +kernel)
theorem wc_yJ2_indexOfChar_4cfef : Cond.code yJ2_indexOfChar_4cfef cJ2_indexOfChar_4cfef 4 (Option.some Jvm.ClassFile.FieldType.int) ∈ vr_T := vr_in 611 (by decide +kernel) (by decide +kernel)
theorem wm_J2_96 : Cond.methodLink RJ2 96 yJ2_checkBoundsBeginEnd_d044e ∈ vr_T := vr_in 612 (by decide +kernel) (by decide +kernel)
theorem wt_yJ2_checkBoundsBeginEnd_d044e : Cond.static yJ2_checkBoundsBeginEnd_d044e ∈ vr_T := vr_in 613 (by decide +kernel) (by decide +kernel)
theorem wc_yJ2_checkBoundsBeginEnd_d044e : Cond.code yJ2_checkBoundsBeginEnd_d044e cJ2_checkBoundsBeginEnd_d044e 3 (Option.none : Option Jvm.ClassFile.FieldType) ∈ vr_T := vr_in 614 (by decide +kernel) (by decide +kernel)
theorem wm_J2_241 : Cond.methodLink RJ2 241 yJ0_checkBoundsBeginEnd_23922 ∈ vr_T := vr_in 615 (by decide +kernel) (by decide +kernel)
theorem wt_yJ0_checkBoundsBeginEnd_23922 : Cond.static yJ0_checkBoundsBeginEnd_23922 ∈ vr_T := vr_in 616 (by decide +kernel) (by decide +kernel)
theorem wc_yJ0_checkBoundsBeginEnd_23922 : Cond.code yJ0_checkBoundsBeginEnd_23922 cJ0_checkBoundsBeginEnd_23922 3 (Option.none : Option Jvm.ClassFile.FieldType) ∈ vr_T := vr_in 617 (by decide +kernel) (by decide +kernel)
theorem wm_J0_1062 : Cond.methodLink RJ0 1062 yJ3_checkFromToIndex_8c36e ∈ vr_T := vr_in 618 (by decide +kernel) (by decide +kernel)
theorem wt_yJ3_checkFromToIndex_8c36e : Cond.static yJ3_checkFromToIndex_8c36e ∈ vr_T := vr_in 619 (by decide +kernel) (by decide +kernel)
theorem wc_yJ3_checkFromToIndex_8c36e : Cond.code yJ3_checkFromToIndex_8c36e cJ3_checkFromToIndex_8c36e 4 (Option.some Jvm.ClassFile.FieldType.int) ∈ vr_T := vr_in 620 (by decide +kernel) (by decide +kernel)
theorem wm_J2_244 : Cond.methodLink RJ2 244 yJ2_indexOfCharUnsafe_4cfef ∈ vr_T := vr_in 621 (by decide +kernel) (by decide +kernel)
theorem wt_yJ2_indexOfCharUnsafe_4cfef : Cond.static yJ2_indexOfCharUnsafe_4cfef ∈ vr_T := vr_in 622 (by decide +kernel) (by decide +kernel)
theorem wc_yJ2_indexOfCharUnsafe_4cfef : Cond.code yJ2_indexOfCharUnsafe_4cfef cJ2_indexOfCharUnsafe_4cfef 5 (Option.some Jvm.ClassFile.FieldType.int) ∈ vr_T := vr_in 623 (by decide +kernel) (by decide +kernel)
theorem wm_J2_232 : Cond.methodLink RJ2 232 yJ2_indexOfSupplementary_4cfef ∈ vr_T := vr_in 624 (by decide +kernel) (by decide +kernel)
theorem wt_yJ2_indexOfSupplementary_4cfef : Cond.static yJ2_indexOfSupplementary_4cfef ∈ vr_T := vr_in 625 (by decide +kernel) (by decide +kernel)
theorem wc_yJ2_indexOfSupplementary_4cfef : Cond.code yJ2_indexOfSupplementary_4cfef cJ2_indexOfSupplementary_4cfef 7 (Option.some Jvm.ClassFile.FieldType.int) ∈ vr_T := vr_in 626 (by decide +kernel) (by decide +kernel)
theorem wm_J2_164 : Cond.methodLink RJ2 164 yJ11_isValidCodePoint_9a6ad ∈ vr_T := vr_in 627 (by decide +kernel) (by decide +kernel)
theorem wt_yJ11_isValidCodePoint_9a6ad : Cond.static yJ11_isValidCodePoint_9a6ad ∈ vr_T := vr_in 628 (by decide +kernel) (by decide +kernel)
theorem wc_yJ11_isValidCodePoint_9a6ad : Cond.code yJ11_isValidCodePoint_9a6ad cJ11_isValidCodePoint_9a6ad 2 (Option.some Jvm.ClassFile.FieldType.boolean) ∈ vr_T := vr_in 629 (by decide +kernel) (by decide +kernel)
theorem wm_J2_157 : Cond.methodLink RJ2 157 yJ11_highSurrogate_5068e ∈ vr_T := vr_in 630 (by decide +kernel) (by decide +kernel)
theorem wt_yJ11_highSurrogate_5068e : Cond.static yJ11_highSurrogate_5068e ∈ vr_T := vr_in 631 (by decide +kernel) (by decide +kernel)
theorem wc_yJ11_highSurrogate_5068e : Cond.code yJ11_highSurrogate_5068e cJ11_highSurrogate_5068e 1 (Option.some Jvm.ClassFile.FieldType.char) ∈ vr_T := vr_in 632 (by decide +kernel) (by decide +kernel)
theorem wk_J11_110 : Cond.constant RJ11 110 (55232) ∈ vr_T := vr_in 633 (by decide +kernel) (by decide +kernel)
theorem wm_J2_161 : Cond.methodLink RJ2 161 yJ11_lowSurrogate_5068e ∈ vr_T := vr_in 634 (by decide +kernel) (by decide +kernel)
theorem wt_yJ11_lowSurrogate_5068e : Cond.static yJ11_lowSurrogate_5068e ∈ vr_T := vr_in 635 (by decide +kernel) (by decide +kernel)
theorem wc_yJ11_lowSurrogate_5068e : Cond.code yJ11_lowSurrogate_5068e cJ11_lowSurrogate_5068e 1 (Option.some Jvm.ClassFile.FieldType.char) ∈ vr_T := vr_in 636 (by decide +kernel) (by decide +kernel)
theorem wk_J11_76 : Cond.constant RJ11 76 (56320) ∈ vr_T := vr_in 637 (by decide +kernel) (by decide +kernel)
theorem wm_X6_52 : Cond.methodLink RX6 52 yX6_readNumber ∈ vr_T := vr_in 639 (by decide +kernel) (by decide +kernel)
theorem wi_yX6_readNumber : Cond.instanceMethod yX6_readNumber ∈ vr_T := vr_in 641 (by decide +kernel) (by decide +kernel)
theorem wc_yX6_readNumber : Cond.code yX6_readNumber cX6_readNumber 3 (Option.some Jvm.ClassFile.FieldType.int) ∈ vr_T := vr_in 642 (by decide +kernel) (by decide +kernel)
theorem wm_X6_125 : Cond.methodLink RX6 125 yX3_testStep ∈ vr_T := vr_in 644 (by decide +kernel) (by decide +kernel)
theorem wt_yX3_testStep : Cond.static yX3_testStep ∈ vr_T := vr_in 645 (by decide +kernel) (by decide +kernel)
theorem wc_yX3_testStep : Cond.code yX3_testStep cX3_testStep 3 (Option.some Jvm.ClassFile.FieldType.int) ∈ vr_T := vr_in 646 (by decide +kernel) (by decide +kernel)
theorem wm_X6_49 : Cond.methodLink RX6 49 yX3_putWear ∈ vr_T := vr_in 647 (by decide +kernel) (by decide +kernel)
theorem wi_yX3_putWear : Cond.instanceMethod yX3_putWear ∈ vr_T := vr_in 648 (by decide +kernel) (by decide +kernel)
theorem ws_yX3_putWear : Cond.selects RX3 yX3_putWear yX3_putWear ∈ vr_T := vr_in 649 (by decide +kernel) (by decide +kernel)
theorem wc_yX3_putWear : Cond.code yX3_putWear cX3_putWear 1 (Option.none : Option Jvm.ClassFile.FieldType) ∈ vr_T := vr_in 650 (by decide +kernel) (by decide +kernel)
theorem wm_X3_46 : Cond.methodLink RX3 46 yX3_putGive ∈ vr_T := vr_in 651 (by decide +kernel) (by decide +kernel)
theorem wi_yX3_putGive : Cond.instanceMethod yX3_putGive ∈ vr_T := vr_in 652 (by decide +kernel) (by decide +kernel)
theorem ws_yX3_putGive : Cond.selects RX3 yX3_putGive yX3_putGive ∈ vr_T := vr_in 653 (by decide +kernel) (by decide +kernel)
theorem wc_yX3_putGive : Cond.code yX3_putGive cX3_putGive 2 (Option.none : Option Jvm.ClassFile.FieldType) ∈ vr_T := vr_in 654 (by decide +kernel) (by decide +kernel)
theorem wm_X6_55 : Cond.methodLink RX6 55 yX3_putNumber ∈ vr_T := vr_in 655 (by decide +kernel) (by decide +kernel)
theorem wi_yX3_putNumber : Cond.instanceMethod yX3_putNumber ∈ vr_T := vr_in 656 (by decide +kernel) (by decide +kernel)
theorem ws_yX3_putNumber : Cond.selects RX3 yX3_putNumber yX3_putNumber ∈ vr_T := vr_in 657 (by decide +kernel) (by decide +kernel)
theorem wc_yX3_putNumber : Cond.code yX3_putNumber cX3_putNumber 3 (Option.none : Option Jvm.ClassFile.FieldType) ∈ vr_T := vr_in 658 (by decide +kernel) (by decide +kernel)
theorem wm_X3_50 : Cond.methodLink RX3 50 yJ9_min_7cf53 ∈ vr_T := vr_in 659 (by decide +kernel) (by decide +kernel)
theorem wm_X6_59 : Cond.methodLink RX6 59 yX3_putGive ∈ vr_T := vr_in 660 (by decide +kernel) (by decide +kernel)
theorem wm_X9_123 : Cond.methodLink RX9 123 yX3_become ∈ vr_T := vr_in 661 (by decide +kernel) (by decide +kernel)
theorem wi_yX3_become : Cond.instanceMethod yX3_become ∈ vr_T := vr_in 662 (by decide +kernel) (by decide +kernel)
theorem ws_yX3_become : Cond.selects RX3 yX3_become yX3_become ∈ vr_T := vr_in 663 (by decide +kernel) (by decide +kernel)
theorem wc_yX3_become : Cond.code yX3_become cX3_become 3 (Option.none : Option Jvm.ClassFile.FieldType) ∈ vr_T := vr_in 664 (by decide +kernel) (by decide +kernel)
theorem wm_L_38 : Cond.methodLink RL 38 yX9_set ∈ vr_T := vr_in 666 (by decide +kernel) (by decide +kernel)
theorem wi_yX9_set : Cond.instanceMethod yX9_set ∈ vr_T := vr_in 667 (by decide +kernel) (by decide +kernel)
theorem ws_yX9_set : Cond.selects RX9 yX9_set yX9_set ∈ vr_T := vr_in 668 (by decide +kernel) (by decide +kernel)
theorem wc_yX9_set : Cond.code yX9_set cX9_set 4 (Option.some Jvm.ClassFile.FieldType.int) ∈ vr_T := vr_in 669 (by decide +kernel) (by decide +kernel)
theorem wm_L_42 : Cond.methodLink RL 42 yX9_gives ∈ vr_T := vr_in 670 (by decide +kernel) (by decide +kernel)
theorem wi_yX9_gives : Cond.instanceMethod yX9_gives ∈ vr_T := vr_in 671 (by decide +kernel) (by decide +kernel)
theorem ws_yX9_gives : Cond.selects RX9 yX9_gives yX9_gives ∈ vr_T := vr_in 672 (by decide +kernel) (by decide +kernel)
theorem wc_yX9_gives : Cond.code yX9_gives cX9_gives 2 (Option.some Jvm.ClassFile.FieldType.int) ∈ vr_T := vr_in 673 (by decide +kernel) (by decide +kernel)
theorem wm_X9_133 : Cond.methodLink RX9 133 yX7_begin ∈ vr_T := vr_in 674 (by decide +kernel) (by decide +kernel)
theorem wi_yX7_begin : Cond.instanceMethod yX7_begin ∈ vr_T := vr_in 675 (by decide +kernel) (by decide +kernel)
theorem ws_yX7_begin : Cond.selects RX7 yX7_begin yX7_begin ∈ vr_T := vr_in 676 (by decide +kernel) (by decide +kernel)
theorem wc_yX7_begin : Cond.code yX7_begin cX7_begin 1 (Option.none : Option Jvm.ClassFile.FieldType) ∈ vr_T := vr_in 677 (by decide +kernel) (by decide +kernel)
theorem wm_X7_38 : Cond.methodLink RX7 38 yX2_become ∈ vr_T := vr_in 678 (by decide +kernel) (by decide +kernel)
theorem wi_yX2_become : Cond.instanceMethod yX2_become ∈ vr_T := vr_in 679 (by decide +kernel) (by decide +kernel)
theorem ws_yX2_become : Cond.selects RX2 yX2_become yX2_become ∈ vr_T := vr_in 680 (by decide +kernel) (by decide +kernel)
theorem wc_yX2_become : Cond.code yX2_become cX2_become 3 (Option.none : Option Jvm.ClassFile.FieldType) ∈ vr_T := vr_in 681 (by decide +kernel) (by decide +kernel)
theorem wm_X7_42 : Cond.methodLink RX7 42 yX0_lookRound ∈ vr_T := vr_in 682 (by decide +kernel) (by decide +kernel)
theorem wi_yX0_lookRound : Cond.instanceMethod yX0_lookRound ∈ vr_T := vr_in 683 (by decide +kernel) (by decide +kernel)
theorem ws_yX0_lookRound : Cond.selects RX0 yX0_lookRound yX0_lookRound ∈ vr_T := vr_in 684 (by decide +kernel) (by decide +kernel)
theorem wc_yX0_lookRound : Cond.code yX0_lookRound cX0_lookRound 2 (Option.none : Option Jvm.ClassFile.FieldType) ∈ vr_T := vr_in 685 (by decide +kernel) (by decide +kernel)
theorem wm_X0_44 : Cond.methodLink RX0 44 yX2_has ∈ vr_T := vr_in 686 (by decide +kernel) (by decide +kernel)
theorem wm_X0_48 : Cond.methodLink RX0 48 yX3_wornWhenBurnt ∈ vr_T := vr_in 687 (by decide +kernel) (by decide +kernel)
theorem wi_yX3_wornWhenBurnt : Cond.instanceMethod yX3_wornWhenBurnt ∈ vr_T := vr_in 688 (by decide +kernel) (by decide +kernel)
theorem ws_yX3_wornWhenBurnt : Cond.selects RX3 yX3_wornWhenBurnt yX3_wornWhenBurnt ∈ vr_T := vr_in 689 (by decide +kernel) (by decide +kernel)
theorem wc_yX3_wornWhenBurnt : Cond.code yX3_wornWhenBurnt cX3_wornWhenBurnt 5 (Option.some Jvm.ClassFile.FieldType.int) ∈ vr_T := vr_in 690 (by decide +kernel) (by decide +kernel)
theorem wm_X3_56 : Cond.methodLink RX3 56 yX2_has ∈ vr_T := vr_in 691 (by decide +kernel) (by decide +kernel)
theorem wm_X3_68 : Cond.methodLink RX3 68 yX3_look ∈ vr_T := vr_in 692 (by decide +kernel) (by decide +kernel)
theorem wi_yX3_look : Cond.instanceMethod yX3_look ∈ vr_T := vr_in 694 (by decide +kernel) (by decide +kernel)
theorem wc_yX3_look : Cond.code yX3_look cX3_look 4 (Option.none : Option Jvm.ClassFile.FieldType) ∈ vr_T := vr_in 695 (by decide +kernel) (by decide +kernel)
theorem wm_X3_72 : Cond.methodLink RX3 72 yX3_holds ∈ vr_T := vr_in 696 (by decide +kernel) (by decide +kernel)
theorem wi_yX3_holds : Cond.instanceMethod yX3_holds ∈ vr_T := vr_in 698 (by decide +kernel) (by decide +kernel)
theorem wc_yX3_holds : Cond.code yX3_holds cX3_holds 6 (Option.some Jvm.ClassFile.FieldType.boolean) ∈ vr_T := vr_in 699 (by decide +kernel) (by decide +kernel)
theorem wm_X3_75 : Cond.methodLink RX3 75 yJ9_max_7cf53 ∈ vr_T := vr_in 700 (by decide +kernel) (by decide +kernel)
theorem wk_X3_87 : Cond.constantLong RX3 87 (-2) ∈ vr_T := vr_in 701 (by decide +kernel) (by decide +kernel)
theorem wm_X3_89 : Cond.methodLink RX3 89 yX3_passes ∈ vr_T := vr_in 702 (by decide +kernel) (by decide +kernel)
theorem wi_yX3_passes : Cond.instanceMethod yX3_passes ∈ vr_T := vr_in 704 (by decide +kernel) (by decide +kernel)
theorem wc_yX3_passes : Cond.code yX3_passes cX3_passes 5 (Option.some Jvm.ClassFile.FieldType.int) ∈ vr_T := vr_in 705 (by decide +kernel) (by decide +kernel)
theorem wm_X0_54 : Cond.methodLink RX0 54 yX3_yields ∈ vr_T := vr_in 706 (by decide +kernel) (by decide +kernel)
theorem wi_yX3_yields : Cond.instanceMethod yX3_yields ∈ vr_T := vr_in 707 (by decide +kernel) (by decide +kernel)
theorem ws_yX3_yields : Cond.selects RX3 yX3_yields yX3_yields ∈ vr_T := vr_in 708 (by decide +kernel) (by decide +kernel)
theorem wc_yX3_yields : Cond.code yX3_yields cX3_yields 6 (Option.some Jvm.ClassFile.FieldType.int) ∈ vr_T := vr_in 709 (by decide +kernel) (by decide +kernel)
theorem wm_X9_143 : Cond.methodLink RX9 143 yX0_gift ∈ vr_T := vr_in 710 (by decide +kernel) (by decide +kernel)
theorem wi_yX0_gift : Cond.instanceMethod yX0_gift ∈ vr_T := vr_in 711 (by decide +kernel) (by decide +kernel)
theorem ws_yX0_gift : Cond.selects RX0 yX0_gift yX0_gift ∈ vr_T := vr_in 712 (by decide +kernel) (by decide +kernel)
theorem wc_yX0_gift : Cond.code yX0_gift cX0_gift 4 (Option.some Jvm.ClassFile.FieldType.int) ∈ vr_T := vr_in 713 (by decide +kernel) (by decide +kernel)
theorem wm_X0_61 : Cond.methodLink RX0 61 yJ9_abs_0f7a4 ∈ vr_T := vr_in 714 (by decide +kernel) (by decide +kernel)
theorem wt_yJ9_abs_0f7a4 : Cond.static yJ9_abs_0f7a4 ∈ vr_T := vr_in 715 (by decide +kernel) (by decide +kernel)
theorem wc_yJ9_abs_0f7a4 : Cond.code yJ9_abs_0f7a4 cJ9_abs_0f7a4 1 (Option.some Jvm.ClassFile.FieldType.int) ∈ vr_T := vr_in 716 (by decide +kernel) (by decide +kernel)
theorem wm_L_47 : Cond.methodLink RL 47 yX9_year ∈ vr_T := vr_in 717 (by decide +kernel) (by decide +kernel)
theorem wi_yX9_year : Cond.instanceMethod yX9_year ∈ vr_T := vr_in 718 (by decide +kernel) (by decide +kernel)
theorem ws_yX9_year : Cond.selects RX9 yX9_year yX9_year ∈ vr_T := vr_in 719 (by decide +kernel) (by decide +kernel)
theorem wc_yX9_year : Cond.code yX9_year cX9_year 3 (Option.some Jvm.ClassFile.FieldType.int) ∈ vr_T := vr_in 720 (by decide +kernel) (by decide +kernel)
theorem wm_X9_149 : Cond.methodLink RX9 149 yX2_all ∈ vr_T := vr_in 721 (by decide +kernel) (by decide +kernel)
theorem wi_yX2_all : Cond.instanceMethod yX2_all ∈ vr_T := vr_in 722 (by decide +kernel) (by decide +kernel)
theorem ws_yX2_all : Cond.selects RX2 yX2_all yX2_all ∈ vr_T := vr_in 723 (by decide +kernel) (by decide +kernel)
theorem wc_yX2_all : Cond.code yX2_all cX2_all 1 (Option.some Jvm.ClassFile.FieldType.int) ∈ vr_T := vr_in 724 (by decide +kernel) (by decide +kernel)
theorem wm_X9_152 : Cond.methodLink RX9 152 yX7_spend ∈ vr_T := vr_in 725 (by decide +kernel) (by decide +kernel)
theorem wi_yX7_spend : Cond.instanceMethod yX7_spend ∈ vr_T := vr_in 726 (by decide +kernel) (by decide +kernel)
theorem ws_yX7_spend : Cond.selects RX7 yX7_spend yX7_spend ∈ vr_T := vr_in 727 (by decide +kernel) (by decide +kernel)
theorem wc_yX7_spend : Cond.code yX7_spend cX7_spend 7 (Option.none : Option Jvm.ClassFile.FieldType) ∈ vr_T := vr_in 728 (by decide +kernel) (by decide +kernel)
theorem wm_X7_66 : Cond.methodLink RX7 66 yX0_giftOf ∈ vr_T := vr_in 729 (by decide +kernel) (by decide +kernel)
theorem wi_yX0_giftOf : Cond.instanceMethod yX0_giftOf ∈ vr_T := vr_in 730 (by decide +kernel) (by decide +kernel)
theorem ws_yX0_giftOf : Cond.selects RX0 yX0_giftOf yX0_giftOf ∈ vr_T := vr_in 731 (by decide +kernel) (by decide +kernel)
theorem wc_yX0_giftOf : Cond.code yX0_giftOf cX0_giftOf 5 (Option.some Jvm.ClassFile.FieldType.int) ∈ vr_T := vr_in 732 (by decide +kernel) (by decide +kernel)
theorem wm_X0_70 : Cond.methodLink RX0 70 yX0_gift ∈ vr_T := vr_in 733 (by decide +kernel) (by decide +kernel)
theorem wm_X7_83 : Cond.methodLink RX7 83 yX2_pass ∈ vr_T := vr_in 734 (by decide +kernel) (by decide +kernel)
theorem wi_yX2_pass : Cond.instanceMethod yX2_pass ∈ vr_T := vr_in 735 (by decide +kernel) (by decide +kernel)
theorem ws_yX2_pass : Cond.selects RX2 yX2_pass yX2_pass ∈ vr_T := vr_in 736 (by decide +kernel) (by decide +kernel)
theorem wc_yX2_pass : Cond.code yX2_pass cX2_pass 5 (Option.none : Option Jvm.ClassFile.FieldType) ∈ vr_T := vr_in 737 (by decide +kernel) (by decide +kernel)
theorem wm_X2_40 : Cond.methodLink RX2 40 yX3_wornWhenBurnt ∈ vr_T := vr_in 738 (by decide +kernel) (by decide +kernel)
theorem wm_X2_46 : Cond.methodLink RX2 46 yJ9_min_7cf53 ∈ vr_T := vr_in 739 (by decide +kernel) (by decide +kernel)
theorem wm_X7_90 : Cond.methodLink RX7 90 yX2_growMouths ∈ vr_T := vr_in 740 (by decide +kernel) (by decide +kernel)
theorem wi_yX2_growMouths : Cond.instanceMethod yX2_growMouths ∈ vr_T := vr_in 741 (by decide +kernel) (by decide +kernel)
theorem ws_yX2_growMouths : Cond.selects RX2 yX2_growMouths yX2_growMouths ∈ vr_T := vr_in 742 (by decide +kernel) (by decide +kernel)
theorem wc_yX2_growMouths : Cond.code yX2_growMouths cX2_growMouths 2 (Option.none : Option Jvm.ClassFile.FieldType) ∈ vr_T := vr_in 743 (by decide +kernel) (by decide +kernel)
theorem wm_X9_157 : Cond.methodLink RX9 157 yX2_become ∈ vr_T := vr_in 744 (by decide +kernel) (by decide +kernel)
theorem wm_L_51 : Cond.methodLink RL 51 yX9_rule ∈ vr_T := vr_in 745 (by decide +kernel) (by decide +kernel)
theorem wi_yX9_rule : Cond.instanceMethod yX9_rule ∈ vr_T := vr_in 746 (by decide +kernel) (by decide +kernel)
theorem ws_yX9_rule : Cond.selects RX9 yX9_rule yX9_rule ∈ vr_T := vr_in 747 (by decide +kernel) (by decide +kernel)
theorem wc_yX9_rule : Cond.code yX9_rule cX9_rule 3 (Option.some Jvm.ClassFile.FieldType.int) ∈ vr_T := vr_in 748 (by decide +kernel) (by decide +kernel)
theorem wm_L_55 : Cond.methodLink RL 55 yX9_burns ∈ vr_T := vr_in 749 (by decide +kernel) (by decide +kernel)
theorem wi_yX9_burns : Cond.instanceMethod yX9_burns ∈ vr_T := vr_in 750 (by decide +kernel) (by decide +kernel)
theorem ws_yX9_burns : Cond.selects RX9 yX9_burns yX9_burns ∈ vr_T := vr_in 751 (by decide +kernel) (by decide +kernel)
theorem wc_yX9_burns : Cond.code yX9_burns cX9_burns 2 (Option.some Jvm.ClassFile.FieldType.int) ∈ vr_T := vr_in 752 (by decide +kernel) (by decide +kernel)
theorem wm_X9_169 : Cond.methodLink RX9 169 yX8_hasRule ∈ vr_T := vr_in 753 (by decide +kernel) (by decide +kernel)
theorem wi_yX8_hasRule : Cond.instanceMethod yX8_hasRule ∈ vr_T := vr_in 754 (by decide +kernel) (by decide +kernel)
theorem ws_yX8_hasRule : Cond.selects RX8 yX8_hasRule yX8_hasRule ∈ vr_T := vr_in 755 (by decide +kernel) (by decide +kernel)
theorem wc_yX8_hasRule : Cond.code yX8_hasRule cX8_hasRule 2 (Option.some Jvm.ClassFile.FieldType.boolean) ∈ vr_T := vr_in 756 (by decide +kernel) (by decide +kernel)
theorem wm_X9_172 : Cond.methodLink RX9 172 yX9_beginRule ∈ vr_T := vr_in 757 (by decide +kernel) (by decide +kernel)
theorem wi_yX9_beginRule : Cond.instanceMethod yX9_beginRule ∈ vr_T := vr_in 759 (by decide +kernel) (by decide +kernel)
theorem wc_yX9_beginRule : Cond.code yX9_beginRule cX9_beginRule 2 (Option.none : Option Jvm.ClassFile.FieldType) ∈ vr_T := vr_in 760 (by decide +kernel) (by decide +kernel)
theorem wm_X9_192 : Cond.methodLink RX9 192 yX4_at ∈ vr_T := vr_in 761 (by decide +kernel) (by decide +kernel)
theorem wm_X9_198 : Cond.methodLink RX9 198 yX0_follow ∈ vr_T := vr_in 762 (by decide +kernel) (by decide +kernel)
theorem wi_yX0_follow : Cond.instanceMethod yX0_follow ∈ vr_T := vr_in 763 (by decide +kernel) (by decide +kernel)
theorem ws_yX0_follow : Cond.selects RX0 yX0_follow yX0_follow ∈ vr_T := vr_in 764 (by decide +kernel) (by decide +kernel)
theorem wc_yX0_follow : Cond.code yX0_follow cX0_follow 3 (Option.none : Option Jvm.ClassFile.FieldType) ∈ vr_T := vr_in 765 (by decide +kernel) (by decide +kernel)
theorem wm_X9_176 : Cond.methodLink RX9 176 yX0_picks ∈ vr_T := vr_in 766 (by decide +kernel) (by decide +kernel)
theorem wi_yX0_picks : Cond.instanceMethod yX0_picks ∈ vr_T := vr_in 767 (by decide +kernel) (by decide +kernel)
theorem ws_yX0_picks : Cond.selects RX0 yX0_picks yX0_picks ∈ vr_T := vr_in 768 (by decide +kernel) (by decide +kernel)
theorem wc_yX0_picks : Cond.code yX0_picks cX0_picks 3 (Option.some Jvm.ClassFile.FieldType.int) ∈ vr_T := vr_in 769 (by decide +kernel) (by decide +kernel)
theorem wm_X0_93 : Cond.methodLink RX0 93 yX0_picksInTurn ∈ vr_T := vr_in 770 (by decide +kernel) (by decide +kernel)
theorem wi_yX0_picksInTurn : Cond.instanceMethod yX0_picksInTurn ∈ vr_T := vr_in 772 (by decide +kernel) (by decide +kernel)
theorem wc_yX0_picksInTurn : Cond.code yX0_picksInTurn cX0_picksInTurn 3 (Option.some Jvm.ClassFile.FieldType.int) ∈ vr_T := vr_in 773 (by decide +kernel) (by decide +kernel)
theorem wm_X0_97 : Cond.methodLink RX0 97 yX0_picksFewest ∈ vr_T := vr_in 774 (by decide +kernel) (by decide +kernel)
theorem wi_yX0_picksFewest : Cond.instanceMethod yX0_picksFewest ∈ vr_T := vr_in 776 (by decide +kernel) (by decide +kernel)
theorem wc_yX0_picksFewest : Cond.code yX0_picksFewest cX0_picksFewest 5 (Option.some Jvm.ClassFile.FieldType.int) ∈ vr_T := vr_in 777 (by decide +kernel) (by decide +kernel)
theorem wm_X0_103 : Cond.methodLink RX0 103 yX2_all ∈ vr_T := vr_in 778 (by decide +kernel) (by decide +kernel)
theorem wm_X0_106 : Cond.methodLink RX0 106 yJ6_numberOfTrailingZeros_0f7a4 ∈ vr_T := vr_in 779 (by decide +kernel) (by decide +kernel)
theorem wt_yJ6_numberOfTrailingZeros_0f7a4 : Cond.static yJ6_numberOfTrailingZeros_0f7a4 ∈ vr_T := vr_in 780 (by decide +kernel) (by decide +kernel)
theorem wc_yJ6_numberOfTrailingZeros_0f7a4 : Cond.code yJ6_numberOfTrailingZeros_0f7a4 cJ6_numberOfTrailingZeros_0f7a4 2 (Option.some Jvm.ClassFile.FieldType.int) ∈ vr_T := vr_in 781 (by decide +kernel) (by decide +kernel)
theorem wk_J6_264 : Cond.constant RJ6 264 (65536) ∈ vr_T := vr_in 782 (by decide +kernel) (by decide +kernel)
theorem wm_X0_111 : Cond.methodLink RX0 111 yX0_isBetter ∈ vr_T := vr_in 783 (by decide +kernel) (by decide +kernel)
theorem wi_yX0_isBetter : Cond.instanceMethod yX0_isBetter ∈ vr_T := vr_in 785 (by decide +kernel) (by decide +kernel)
theorem wc_yX0_isBetter : Cond.code yX0_isBetter cX0_isBetter 4 (Option.some Jvm.ClassFile.FieldType.boolean) ∈ vr_T := vr_in 786 (by decide +kernel) (by decide +kernel)
theorem wm_X0_115 : Cond.methodLink RX0 115 yJ6_bitCount_0f7a4 ∈ vr_T := vr_in 787 (by decide +kernel) (by decide +kernel)
theorem wt_yJ6_bitCount_0f7a4 : Cond.static yJ6_bitCount_0f7a4 ∈ vr_T := vr_in 788 (by decide +kernel) (by decide +kernel)
theorem wc_yJ6_bitCount_0f7a4 : Cond.code yJ6_bitCount_0f7a4 cJ6_bitCount_0f7a4 1 (Option.some Jvm.ClassFile.FieldType.int) ∈ vr_T := vr_in 789 (by decide +kernel) (by decide +kernel)
theorem wk_J6_265 : Cond.constant RJ6 265 (1431655765) ∈ vr_T := vr_in 790 (by decide +kernel) (by decide +kernel)
theorem wk_J6_266 : Cond.constant RJ6 266 (858993459) ∈ vr_T := vr_in 791 (by decide +kernel) (by decide +kernel)
theorem wk_J6_267 : Cond.constant RJ6 267 (252645135) ∈ vr_T := vr_in 792 (by decide +kernel) (by decide +kernel)
theorem wm_X0_100 : Cond.methodLink RX0 100 yX0_picksByRank ∈ vr_T := vr_in 793 (by decide +kernel) (by decide +kernel)
theorem wi_yX0_picksByRank : Cond.instanceMethod yX0_picksByRank ∈ vr_T := vr_in 795 (by decide +kernel) (by decide +kernel)
theorem wc_yX0_picksByRank : Cond.code yX0_picksByRank cX0_picksByRank 6 (Option.some Jvm.ClassFile.FieldType.int) ∈ vr_T := vr_in 796 (by decide +kernel) (by decide +kernel)
theorem wm_X0_118 : Cond.methodLink RX0 118 yX0_rankOf ∈ vr_T := vr_in 797 (by decide +kernel) (by decide +kernel)
theorem wi_yX0_rankOf : Cond.instanceMethod yX0_rankOf ∈ vr_T := vr_in 799 (by decide +kernel) (by decide +kernel)
theorem wc_yX0_rankOf : Cond.code yX0_rankOf cX0_rankOf 6 (Option.some Jvm.ClassFile.FieldType.int) ∈ vr_T := vr_in 800 (by decide +kernel) (by decide +kernel)
theorem wm_X0_121 : Cond.methodLink RX0 121 yX0_firstInRank ∈ vr_T := vr_in 801 (by decide +kernel) (by decide +kernel)
theorem wi_yX0_firstInRank : Cond.instanceMethod yX0_firstInRank ∈ vr_T := vr_in 803 (by decide +kernel) (by decide +kernel)
theorem wc_yX0_firstInRank : Cond.code yX0_firstInRank cX0_firstInRank 3 (Option.some Jvm.ClassFile.FieldType.int) ∈ vr_T := vr_in 804 (by decide +kernel) (by decide +kernel)
theorem wm_L_59 : Cond.methodLink RL 59 yX9_moves ∈ vr_T := vr_in 805 (by decide +kernel) (by decide +kernel)
theorem wi_yX9_moves : Cond.instanceMethod yX9_moves ∈ vr_T := vr_in 806 (by decide +kernel) (by decide +kernel)
theorem ws_yX9_moves : Cond.selects RX9 yX9_moves yX9_moves ∈ vr_T := vr_in 807 (by decide +kernel) (by decide +kernel)
theorem wc_yX9_moves : Cond.code yX9_moves cX9_moves 2 (Option.some Jvm.ClassFile.FieldType.int) ∈ vr_T := vr_in 808 (by decide +kernel) (by decide +kernel)
theorem wm_X9_179 : Cond.methodLink RX9 179 yX0_goal ∈ vr_T := vr_in 809 (by decide +kernel) (by decide +kernel)
theorem wi_yX0_goal : Cond.instanceMethod yX0_goal ∈ vr_T := vr_in 810 (by decide +kernel) (by decide +kernel)
theorem ws_yX0_goal : Cond.selects RX0 yX0_goal yX0_goal ∈ vr_T := vr_in 811 (by decide +kernel) (by decide +kernel)
theorem wc_yX0_goal : Cond.code yX0_goal cX0_goal 7 (Option.some Jvm.ClassFile.FieldType.int) ∈ vr_T := vr_in 812 (by decide +kernel) (by decide +kernel)
theorem wm_X0_77 : Cond.methodLink RX0 77 yX0_picks ∈ vr_T := vr_in 813 (by decide +kernel) (by decide +kernel)
theorem wm_X0_80 : Cond.methodLink RX0 80 yX0_giftOf ∈ vr_T := vr_in 814 (by decide +kernel) (by decide +kernel)
theorem wm_L_63 : Cond.methodLink RL 63 yX9_go ∈ vr_T := vr_in 815 (by decide +kernel) (by decide +kernel)
theorem wi_yX9_go : Cond.instanceMethod yX9_go ∈ vr_T := vr_in 816 (by decide +kernel) (by decide +kernel)
theorem ws_yX9_go : Cond.selects RX9 yX9_go yX9_go ∈ vr_T := vr_in 817 (by decide +kernel) (by decide +kernel)
theorem wc_yX9_go : Cond.code yX9_go cX9_go 3 (Option.some Jvm.ClassFile.FieldType.int) ∈ vr_T := vr_in 818 (by decide +kernel) (by decide +kernel)
theorem wm_X9_182 : Cond.methodLink RX9 182 yX7_spendYears ∈ vr_T := vr_in 819 (by decide +kernel) (by decide +kernel)
theorem wi_yX7_spendYears : Cond.instanceMethod yX7_spendYears ∈ vr_T := vr_in 820 (by decide +kernel) (by decide +kernel)
theorem ws_yX7_spendYears : Cond.selects RX7 yX7_spendYears yX7_spendYears ∈ vr_T := vr_in 821 (by decide +kernel) (by decide +kernel)
theorem wc_yX7_spendYears : Cond.code yX7_spendYears cX7_spendYears 5 (Option.none : Option Jvm.ClassFile.FieldType) ∈ vr_T := vr_in 822 (by decide +kernel) (by decide +kernel)
theorem wm_X7_94 : Cond.methodLink RX7 94 yX0_goal ∈ vr_T := vr_in 823 (by decide +kernel) (by decide +kernel)
theorem wm_X7_98 : Cond.methodLink RX7 98 yX0_picks ∈ vr_T := vr_in 824 (by decide +kernel) (by decide +kernel)
theorem wm_X7_102 : Cond.methodLink RX7 102 yX7_spend ∈ vr_T := vr_in 825 (by decide +kernel) (by decide +kernel)
theorem wm_L_67 : Cond.methodLink RL 67 yX9_row ∈ vr_T := vr_in 826 (by decide +kernel) (by decide +kernel)
theorem wi_yX9_row : Cond.instanceMethod yX9_row ∈ vr_T := vr_in 827 (by decide +kernel) (by decide +kernel)
theorem ws_yX9_row : Cond.selects RX9 yX9_row yX9_row ∈ vr_T := vr_in 828 (by decide +kernel) (by decide +kernel)
theorem wc_yX9_row : Cond.code yX9_row cX9_row 2 (Option.some Jvm.ClassFile.FieldType.int) ∈ vr_T := vr_in 829 (by decide +kernel) (by decide +kernel)
theorem wm_L_71 : Cond.methodLink RL 71 yX9_judged ∈ vr_T := vr_in 830 (by decide +kernel) (by decide +kernel)
theorem wi_yX9_judged : Cond.instanceMethod yX9_judged ∈ vr_T := vr_in 831 (by decide +kernel) (by decide +kernel)
theorem ws_yX9_judged : Cond.selects RX9 yX9_judged yX9_judged ∈ vr_T := vr_in 832 (by decide +kernel) (by decide +kernel)
theorem wc_yX9_judged : Cond.code yX9_judged cX9_judged 2 (Option.some Jvm.ClassFile.FieldType.int) ∈ vr_T := vr_in 833 (by decide +kernel) (by decide +kernel)
theorem wm_L_75 : Cond.methodLink RL 75 yX9_proof ∈ vr_T := vr_in 834 (by decide +kernel) (by decide +kernel)
theorem wi_yX9_proof : Cond.instanceMethod yX9_proof ∈ vr_T := vr_in 835 (by decide +kernel) (by decide +kernel)
theorem ws_yX9_proof : Cond.selects RX9 yX9_proof yX9_proof ∈ vr_T := vr_in 836 (by decide +kernel) (by decide +kernel)
theorem wc_yX9_proof : Cond.code yX9_proof cX9_proof 4 (Option.some Jvm.ClassFile.FieldType.int) ∈ vr_T := vr_in 837 (by decide +kernel) (by decide +kernel)
theorem wm_X9_202 : Cond.methodLink RX9 202 yX9_mostMouths ∈ vr_T := vr_in 838 (by decide +kernel) (by decide +kernel)
theorem wi_yX9_mostMouths : Cond.instanceMethod yX9_mostMouths ∈ vr_T := vr_in 840 (by decide +kernel) (by decide +kernel)
theorem wc_yX9_mostMouths : Cond.code yX9_mostMouths cX9_mostMouths 3 (Option.some Jvm.ClassFile.FieldType.int) ∈ vr_T := vr_in 841 (by decide +kernel) (by decide +kernel)
theorem wm_X9_221 : Cond.methodLink RX9 221 yX7_staysFed ∈ vr_T := vr_in 842 (by decide +kernel) (by decide +kernel)
theorem wi_yX7_staysFed : Cond.instanceMethod yX7_staysFed ∈ vr_T := vr_in 843 (by decide +kernel) (by decide +kernel)
theorem ws_yX7_staysFed : Cond.selects RX7 yX7_staysFed yX7_staysFed ∈ vr_T := vr_in 844 (by decide +kernel) (by decide +kernel)
theorem wc_yX7_staysFed : Cond.code yX7_staysFed cX7_staysFed 5 (Option.some Jvm.ClassFile.FieldType.boolean) ∈ vr_T := vr_in 845 (by decide +kernel) (by decide +kernel)
theorem wm_L_80 : Cond.methodLink RL 80 yX9_ever ∈ vr_T := vr_in 846 (by decide +kernel) (by decide +kernel)
theorem wi_yX9_ever : Cond.instanceMethod yX9_ever ∈ vr_T := vr_in 847 (by decide +kernel) (by decide +kernel)
theorem ws_yX9_ever : Cond.selects RX9 yX9_ever yX9_ever ∈ vr_T := vr_in 848 (by decide +kernel) (by decide +kernel)
theorem wc_yX9_ever : Cond.code yX9_ever cX9_ever 3 (Option.some Jvm.ClassFile.FieldType.int) ∈ vr_T := vr_in 849 (by decide +kernel) (by decide +kernel)
theorem wm_X9_208 : Cond.methodLink RX9 208 yX1_closes ∈ vr_T := vr_in 850 (by decide +kernel) (by decide +kernel)
theorem wi_yX1_closes : Cond.instanceMethod yX1_closes ∈ vr_T := vr_in 851 (by decide +kernel) (by decide +kernel)
theorem ws_yX1_closes : Cond.selects RX1 yX1_closes yX1_closes ∈ vr_T := vr_in 852 (by decide +kernel) (by decide +kernel)
theorem wc_yX1_closes : Cond.code yX1_closes cX1_closes 3 (Option.some Jvm.ClassFile.FieldType.boolean) ∈ vr_T := vr_in 853 (by decide +kernel) (by decide +kernel)
theorem wm_X1_22 : Cond.methodLink RX1 22 yX1_note ∈ vr_T := vr_in 854 (by decide +kernel) (by decide +kernel)
theorem wi_yX1_note : Cond.instanceMethod yX1_note ∈ vr_T := vr_in 856 (by decide +kernel) (by decide +kernel)
theorem wc_yX1_note : Cond.code yX1_note cX1_note 4 (Option.none : Option Jvm.ClassFile.FieldType) ∈ vr_T := vr_in 857 (by decide +kernel) (by decide +kernel)
theorem wm_X1_66 : Cond.methodLink RX1 66 yX2_mark ∈ vr_T := vr_in 858 (by decide +kernel) (by decide +kernel)
theorem wi_yX2_mark : Cond.instanceMethod yX2_mark ∈ vr_T := vr_in 859 (by decide +kernel) (by decide +kernel)
theorem ws_yX2_mark : Cond.selects RX2 yX2_mark yX2_mark ∈ vr_T := vr_in 860 (by decide +kernel) (by decide +kernel)
theorem wc_yX2_mark : Cond.code yX2_mark cX2_mark 2 (Option.some Jvm.ClassFile.FieldType.int) ∈ vr_T := vr_in 861 (by decide +kernel) (by decide +kernel)
theorem wm_X2_52 : Cond.methodLink RX2 52 yX2_has ∈ vr_T := vr_in 862 (by decide +kernel) (by decide +kernel)
theorem wm_X1_78 : Cond.methodLink RX1 78 yX0_turn ∈ vr_T := vr_in 863 (by decide +kernel) (by decide +kernel)
theorem wi_yX0_turn : Cond.instanceMethod yX0_turn ∈ vr_T := vr_in 864 (by decide +kernel) (by decide +kernel)
theorem ws_yX0_turn : Cond.selects RX0 yX0_turn yX0_turn ∈ vr_T := vr_in 865 (by decide +kernel) (by decide +kernel)
theorem wc_yX0_turn : Cond.code yX0_turn cX0_turn 1 (Option.some Jvm.ClassFile.FieldType.int) ∈ vr_T := vr_in 866 (by decide +kernel) (by decide +kernel)
theorem wm_X1_26 : Cond.methodLink RX1 26 yX1_firstLike ∈ vr_T := vr_in 867 (by decide +kernel) (by decide +kernel)
theorem wi_yX1_firstLike : Cond.instanceMethod yX1_firstLike ∈ vr_T := vr_in 869 (by decide +kernel) (by decide +kernel)
theorem wc_yX1_firstLike : Cond.code yX1_firstLike cX1_firstLike 3 (Option.some Jvm.ClassFile.FieldType.int) ∈ vr_T := vr_in 870 (by decide +kernel) (by decide +kernel)
theorem wm_X1_46 : Cond.methodLink RX1 46 yX1_isSame ∈ vr_T := vr_in 871 (by decide +kernel) (by decide +kernel)
theorem wi_yX1_isSame : Cond.instanceMethod yX1_isSame ∈ vr_T := vr_in 873 (by decide +kernel) (by decide +kernel)
theorem wc_yX1_isSame : Cond.code yX1_isSame cX1_isSame 6 (Option.some Jvm.ClassFile.FieldType.boolean) ∈ vr_T := vr_in 874 (by decide +kernel) (by decide +kernel)
theorem wm_X1_37 : Cond.methodLink RX1 37 yX7_spendYears ∈ vr_T := vr_in 875 (by decide +kernel) (by decide +kernel)
theorem wm_X9_218 : Cond.methodLink RX9 218 yX1_leastHarvest ∈ vr_T := vr_in 876 (by decide +kernel) (by decide +kernel)
theorem wi_yX1_leastHarvest : Cond.instanceMethod yX1_leastHarvest ∈ vr_T := vr_in 877 (by decide +kernel) (by decide +kernel)
theorem ws_yX1_leastHarvest : Cond.selects RX1 yX1_leastHarvest yX1_leastHarvest ∈ vr_T := vr_in 878 (by decide +kernel) (by decide +kernel)
theorem wc_yX1_leastHarvest : Cond.code yX1_leastHarvest cX1_leastHarvest 3 (Option.some Jvm.ClassFile.FieldType.int) ∈ vr_T := vr_in 879 (by decide +kernel) (by decide +kernel)
theorem wk_X1_52 : Cond.constant RX1 52 (2147483647) ∈ vr_T := vr_in 880 (by decide +kernel) (by decide +kernel)
theorem wm_X1_53 : Cond.methodLink RX1 53 yJ9_max_7cf53 ∈ vr_T := vr_in 881 (by decide +kernel) (by decide +kernel)
theorem wm_X1_59 : Cond.methodLink RX1 59 yJ9_min_7cf53 ∈ vr_T := vr_in 882 (by decide +kernel) (by decide +kernel)
theorem wm_L_84 : Cond.methodLink RL 84 yX9_less ∈ vr_T := vr_in 883 (by decide +kernel) (by decide +kernel)
theorem wi_yX9_less : Cond.instanceMethod yX9_less ∈ vr_T := vr_in 884 (by decide +kernel) (by decide +kernel)
theorem ws_yX9_less : Cond.selects RX9 yX9_less yX9_less ∈ vr_T := vr_in 885 (by decide +kernel) (by decide +kernel)
theorem wc_yX9_less : Cond.code yX9_less cX9_less 3 (Option.some Jvm.ClassFile.FieldType.int) ∈ vr_T := vr_in 886 (by decide +kernel) (by decide +kernel)
theorem wm_X9_225 : Cond.methodLink RX9 225 yX2_isMoreWornThan ∈ vr_T := vr_in 887 (by decide +kernel) (by decide +kernel)
theorem wi_yX2_isMoreWornThan : Cond.instanceMethod yX2_isMoreWornThan ∈ vr_T := vr_in 888 (by decide +kernel) (by decide +kernel)
theorem ws_yX2_isMoreWornThan : Cond.selects RX2 yX2_isMoreWornThan yX2_isMoreWornThan ∈ vr_T := vr_in 889 (by decide +kernel) (by decide +kernel)
theorem wc_yX2_isMoreWornThan : Cond.code yX2_isMoreWornThan cX2_isMoreWornThan 3 (Option.some Jvm.ClassFile.FieldType.boolean) ∈ vr_T := vr_in 890 (by decide +kernel) (by decide +kernel)
theorem wm_L_88 : Cond.methodLink RL 88 yX9_safe ∈ vr_T := vr_in 891 (by decide +kernel) (by decide +kernel)
theorem wi_yX9_safe : Cond.instanceMethod yX9_safe ∈ vr_T := vr_in 892 (by decide +kernel) (by decide +kernel)
theorem ws_yX9_safe : Cond.selects RX9 yX9_safe yX9_safe ∈ vr_T := vr_in 893 (by decide +kernel) (by decide +kernel)
theorem wc_yX9_safe : Cond.code yX9_safe cX9_safe 10 (Option.some Jvm.ClassFile.FieldType.long) ∈ vr_T := vr_in 894 (by decide +kernel) (by decide +kernel)
theorem wk_X9_229 : Cond.constantLong RX9 229 (-9223372036854775808) ∈ vr_T := vr_in 895 (by decide +kernel) (by decide +kernel)
theorem wm_X9_231 : Cond.methodLink RX9 231 yX7_fedOfTen ∈ vr_T := vr_in 896 (by decide +kernel) (by decide +kernel)
theorem wi_yX7_fedOfTen : Cond.instanceMethod yX7_fedOfTen ∈ vr_T := vr_in 897 (by decide +kernel) (by decide +kernel)
theorem ws_yX7_fedOfTen : Cond.selects RX7 yX7_fedOfTen yX7_fedOfTen ∈ vr_T := vr_in 898 (by decide +kernel) (by decide +kernel)
theorem wc_yX7_fedOfTen : Cond.code yX7_fedOfTen cX7_fedOfTen 1 (Option.some Jvm.ClassFile.FieldType.int) ∈ vr_T := vr_in 899 (by decide +kernel) (by decide +kernel)
theorem wk_X9_234 : Cond.constantLong RX9 234 (10) ∈ vr_T := vr_in 900 (by decide +kernel) (by decide +kernel)
theorem wm_X9_236 : Cond.methodLink RX9 236 yX9_commonDivisor ∈ vr_T := vr_in 901 (by decide +kernel) (by decide +kernel)
theorem wt_yX9_commonDivisor : Cond.static yX9_commonDivisor ∈ vr_T := vr_in 902 (by decide +kernel) (by decide +kernel)
theorem wc_yX9_commonDivisor : Cond.code yX9_commonDivisor cX9_commonDivisor 7 (Option.some Jvm.ClassFile.FieldType.long) ∈ vr_T := vr_in 903 (by decide +kernel) (by decide +kernel)
theorem wm_L_93 : Cond.methodLink RL 93 yX9_two ∈ vr_T := vr_in 904 (by decide +kernel) (by decide +kernel)
theorem wi_yX9_two : Cond.instanceMethod yX9_two ∈ vr_T := vr_in 905 (by decide +kernel) (by decide +kernel)
theorem ws_yX9_two : Cond.selects RX9 yX9_two yX9_two ∈ vr_T := vr_in 906 (by decide +kernel) (by decide +kernel)
theorem wc_yX9_two : Cond.code yX9_two cX9_two 6 (Option.some Jvm.ClassFile.FieldType.int) ∈ vr_T := vr_in 907 (by decide +kernel) (by decide +kernel)
theorem wm_X9_240 : Cond.methodLink RX9 240 yX0_giftOf ∈ vr_T := vr_in 908 (by decide +kernel) (by decide +kernel)
theorem wm_L_97 : Cond.methodLink RL 97 yX9_way ∈ vr_T := vr_in 909 (by decide +kernel) (by decide +kernel)
theorem wi_yX9_way : Cond.instanceMethod yX9_way ∈ vr_T := vr_in 910 (by decide +kernel) (by decide +kernel)
theorem ws_yX9_way : Cond.selects RX9 yX9_way yX9_way ∈ vr_T := vr_in 911 (by decide +kernel) (by decide +kernel)
theorem wc_yX9_way : Cond.code yX9_way cX9_way 4 (Option.some Jvm.ClassFile.FieldType.int) ∈ vr_T := vr_in 912 (by decide +kernel) (by decide +kernel)
theorem wm_L_101 : Cond.methodLink RL 101 yX9_age ∈ vr_T := vr_in 913 (by decide +kernel) (by decide +kernel)
theorem wi_yX9_age : Cond.instanceMethod yX9_age ∈ vr_T := vr_in 914 (by decide +kernel) (by decide +kernel)
theorem ws_yX9_age : Cond.selects RX9 yX9_age yX9_age ∈ vr_T := vr_in 915 (by decide +kernel) (by decide +kernel)
theorem wc_yX9_age : Cond.code yX9_age cX9_age 2 (Option.some Jvm.ClassFile.FieldType.int) ∈ vr_T := vr_in 916 (by decide +kernel) (by decide +kernel)
theorem wm_L_105 : Cond.methodLink RL 105 yX9_round ∈ vr_T := vr_in 917 (by decide +kernel) (by decide +kernel)
theorem wi_yX9_round : Cond.instanceMethod yX9_round ∈ vr_T := vr_in 918 (by decide +kernel) (by decide +kernel)
theorem ws_yX9_round : Cond.selects RX9 yX9_round yX9_round ∈ vr_T := vr_in 919 (by decide +kernel) (by decide +kernel)
theorem wc_yX9_round : Cond.code yX9_round cX9_round 3 (Option.some Jvm.ClassFile.FieldType.int) ∈ vr_T := vr_in 920 (by decide +kernel) (by decide +kernel)
theorem wm_X9_246 : Cond.methodLink RX9 246 yX9_tells ∈ vr_T := vr_in 921 (by decide +kernel) (by decide +kernel)
theorem wi_yX9_tells : Cond.instanceMethod yX9_tells ∈ vr_T := vr_in 923 (by decide +kernel) (by decide +kernel)
theorem wc_yX9_tells : Cond.code yX9_tells cX9_tells 4 (Option.some Jvm.ClassFile.FieldType.boolean) ∈ vr_T := vr_in 924 (by decide +kernel) (by decide +kernel)
theorem wm_X9_277 : Cond.methodLink RX9 277 yX9_offMultiple ∈ vr_T := vr_in 925 (by decide +kernel) (by decide +kernel)
theorem wt_yX9_offMultiple : Cond.static yX9_offMultiple ∈ vr_T := vr_in 926 (by decide +kernel) (by decide +kernel)
theorem wc_yX9_offMultiple : Cond.code yX9_offMultiple cX9_offMultiple 3 (Option.some Jvm.ClassFile.FieldType.int) ∈ vr_T := vr_in 927 (by decide +kernel) (by decide +kernel)
theorem wm_X9_257 : Cond.methodLink RX9 257 yJ9_min_7cf53 ∈ vr_T := vr_in 928 (by decide +kernel) (by decide +kernel)
theorem wm_L_109 : Cond.methodLink RL 109 yX9_act ∈ vr_T := vr_in 929 (by decide +kernel) (by decide +kernel)
theorem wi_yX9_act : Cond.instanceMethod yX9_act ∈ vr_T := vr_in 930 (by decide +kernel) (by decide +kernel)
theorem ws_yX9_act : Cond.selects RX9 yX9_act yX9_act ∈ vr_T := vr_in 931 (by decide +kernel) (by decide +kernel)
theorem wc_yX9_act : Cond.code yX9_act cX9_act 4 (Option.some Jvm.ClassFile.FieldType.int) ∈ vr_T := vr_in 932 (by decide +kernel) (by decide +kernel)
theorem wm_X9_253 : Cond.methodLink RX9 253 yX5_perform ∈ vr_T := vr_in 933 (by decide +kernel) (by decide +kernel)
theorem wi_yX5_perform : Cond.instanceMethod yX5_perform ∈ vr_T := vr_in 934 (by decide +kernel) (by decide +kernel)
theorem ws_yX5_perform : Cond.selects RX5 yX5_perform yX5_perform ∈ vr_T := vr_in 935 (by decide +kernel) (by decide +kernel)
theorem wc_yX5_perform : Cond.code yX5_perform cX5_perform 6 (Option.some Jvm.ClassFile.FieldType.int) ∈ vr_T := vr_in 936 (by decide +kernel) (by decide +kernel)
theorem wm_X5_28 : Cond.methodLink RX5 28 yX5_call ∈ vr_T := vr_in 937 (by decide +kernel) (by decide +kernel)
theorem wi_yX5_call : Cond.instanceMethod yX5_call ∈ vr_T := vr_in 939 (by decide +kernel) (by decide +kernel)
theorem wc_yX5_call : Cond.code yX5_call cX5_call 8 (Option.some Jvm.ClassFile.FieldType.int) ∈ vr_T := vr_in 940 (by decide +kernel) (by decide +kernel)
theorem wm_X5_35 : Cond.methodLink RX5 35 yX5_run ∈ vr_T := vr_in 943 (by decide +kernel) (by decide +kernel)
theorem wi_yX5_run : Cond.instanceMethod yX5_run ∈ vr_T := vr_in 945 (by decide +kernel) (by decide +kernel)
theorem wc_yX5_run : Cond.code yX5_run cX5_run 4 (Option.some Jvm.ClassFile.FieldType.int) ∈ vr_T := vr_in 946 (by decide +kernel) (by decide +kernel)
theorem wm_X5_42 : Cond.methodLink RX5 42 yX5_callAbove ∈ vr_T := vr_in 947 (by decide +kernel) (by decide +kernel)
theorem wi_yX5_callAbove : Cond.instanceMethod yX5_callAbove ∈ vr_T := vr_in 949 (by decide +kernel) (by decide +kernel)
theorem wc_yX5_callAbove : Cond.code yX5_callAbove cX5_callAbove 5 (Option.some Jvm.ClassFile.FieldType.int) ∈ vr_T := vr_in 950 (by decide +kernel) (by decide +kernel)
theorem wm_L_113 : Cond.methodLink RL 113 yX9_trace ∈ vr_T := vr_in 953 (by decide +kernel) (by decide +kernel)
theorem wi_yX9_trace : Cond.instanceMethod yX9_trace ∈ vr_T := vr_in 954 (by decide +kernel) (by decide +kernel)
theorem ws_yX9_trace : Cond.selects RX9 yX9_trace yX9_trace ∈ vr_T := vr_in 955 (by decide +kernel) (by decide +kernel)
theorem wc_yX9_trace : Cond.code yX9_trace cX9_trace 2 (Option.some Jvm.ClassFile.FieldType.int) ∈ vr_T := vr_in 956 (by decide +kernel) (by decide +kernel)
theorem wm_L_117 : Cond.methodLink RL 117 yX9_as ∈ vr_T := vr_in 957 (by decide +kernel) (by decide +kernel)
theorem wi_yX9_as : Cond.instanceMethod yX9_as ∈ vr_T := vr_in 958 (by decide +kernel) (by decide +kernel)
theorem ws_yX9_as : Cond.selects RX9 yX9_as yX9_as ∈ vr_T := vr_in 959 (by decide +kernel) (by decide +kernel)
theorem wc_yX9_as : Cond.code yX9_as cX9_as 5 (Option.some Jvm.ClassFile.FieldType.int) ∈ vr_T := vr_in 960 (by decide +kernel) (by decide +kernel)
theorem wf_X9_265 : Cond.fieldLink RX9 265 "VillageRounds" "ABOVE" "[I" ∈ vr_T := vr_in 961 (by decide +kernel) (by decide +kernel)
theorem wm_L_121 : Cond.methodLink RL 121 yX9_image ∈ vr_T := vr_in 962 (by decide +kernel) (by decide +kernel)
theorem wi_yX9_image : Cond.instanceMethod yX9_image ∈ vr_T := vr_in 963 (by decide +kernel) (by decide +kernel)
theorem ws_yX9_image : Cond.selects RX9 yX9_image yX9_image ∈ vr_T := vr_in 964 (by decide +kernel) (by decide +kernel)
theorem wc_yX9_image : Cond.code yX9_image cX9_image 1 (Option.some Jvm.ClassFile.FieldType.int) ∈ vr_T := vr_in 965 (by decide +kernel) (by decide +kernel)
theorem wm_X9_268 : Cond.methodLink RX9 268 yX8_become ∈ vr_T := vr_in 966 (by decide +kernel) (by decide +kernel)
theorem wi_yX8_become : Cond.instanceMethod yX8_become ∈ vr_T := vr_in 967 (by decide +kernel) (by decide +kernel)
theorem ws_yX8_become : Cond.selects RX8 yX8_become yX8_become ∈ vr_T := vr_in 968 (by decide +kernel) (by decide +kernel)
theorem wc_yX8_become : Cond.code yX8_become cX8_become 2 (Option.none : Option Jvm.ClassFile.FieldType) ∈ vr_T := vr_in 969 (by decide +kernel) (by decide +kernel)
theorem wm_X8_50 : Cond.methodLink RX8 50 yX2_become ∈ vr_T := vr_in 970 (by decide +kernel) (by decide +kernel)
theorem wm_X8_54 : Cond.methodLink RX8 54 yX3_become ∈ vr_T := vr_in 971 (by decide +kernel) (by decide +kernel)
theorem wm_X8_57 : Cond.methodLink RX8 57 yX4_become ∈ vr_T := vr_in 972 (by decide +kernel) (by decide +kernel)
theorem wi_yX4_become : Cond.instanceMethod yX4_become ∈ vr_T := vr_in 973 (by decide +kernel) (by decide +kernel)
theorem ws_yX4_become : Cond.selects RX4 yX4_become yX4_become ∈ vr_T := vr_in 974 (by decide +kernel) (by decide +kernel)
theorem wc_yX4_become : Cond.code yX4_become cX4_become 3 (Option.none : Option Jvm.ClassFile.FieldType) ∈ vr_T := vr_in 975 (by decide +kernel) (by decide +kernel)
theorem wm_X4_23 : Cond.methodLink RX4 23 yX4_at ∈ vr_T := vr_in 976 (by decide +kernel) (by decide +kernel)
theorem wm_X4_27 : Cond.methodLink RX4 27 yX4_put ∈ vr_T := vr_in 977 (by decide +kernel) (by decide +kernel)
theorem wm_L_125 : Cond.methodLink RL 125 yX9_undo ∈ vr_T := vr_in 978 (by decide +kernel) (by decide +kernel)
theorem wi_yX9_undo : Cond.instanceMethod yX9_undo ∈ vr_T := vr_in 979 (by decide +kernel) (by decide +kernel)
theorem ws_yX9_undo : Cond.selects RX9 yX9_undo yX9_undo ∈ vr_T := vr_in 980 (by decide +kernel) (by decide +kernel)
theorem wc_yX9_undo : Cond.code yX9_undo cX9_undo 1 (Option.some Jvm.ClassFile.FieldType.int) ∈ vr_T := vr_in 981 (by decide +kernel) (by decide +kernel)
theorem wm_L_129 : Cond.methodLink RL 129 yX9_count ∈ vr_T := vr_in 982 (by decide +kernel) (by decide +kernel)
theorem wi_yX9_count : Cond.instanceMethod yX9_count ∈ vr_T := vr_in 983 (by decide +kernel) (by decide +kernel)
theorem ws_yX9_count : Cond.selects RX9 yX9_count yX9_count ∈ vr_T := vr_in 984 (by decide +kernel) (by decide +kernel)
theorem wc_yX9_count : Cond.code yX9_count cX9_count 2 (Option.some Jvm.ClassFile.FieldType.int) ∈ vr_T := vr_in 985 (by decide +kernel) (by decide +kernel)
theorem wl_L_10 : Cond.classLink RL 10 RX10 ∈ vr_T := vr_in 986 (by decide +kernel) (by decide +kernel)
theorem wn_X10 : Cond.instantiable RX10 26 ∈ vr_T := vr_in 987 (by decide +kernel) (by decide +kernel)
theorem wm_L_12 : Cond.methodLink RL 12 yX10_init ∈ vr_T := vr_in 988 (by decide +kernel) (by decide +kernel)
theorem wi_yX10_init : Cond.instanceMethod yX10_init ∈ vr_T := vr_in 989 (by decide +kernel) (by decide +kernel)
theorem wc_yX10_init : Cond.code yX10_init cX10_init 1 (Option.none : Option Jvm.ClassFile.FieldType) ∈ vr_T := vr_in 990 (by decide +kernel) (by decide +kernel)
theorem wf_X10_9 : Cond.fieldLink RX10 9 "VillageRoundsModel" "s" "[I" ∈ vr_T := vr_in 992 (by decide +kernel) (by decide +kernel)
theorem wf_X10_15 : Cond.fieldLink RX10 15 "VillageRoundsModel" "image" "[I" ∈ vr_T := vr_in 993 (by decide +kernel) (by decide +kernel)
theorem wf_X10_18 : Cond.fieldLink RX10 18 "VillageRoundsModel" "kept" "[I" ∈ vr_T := vr_in 994 (by decide +kernel) (by decide +kernel)
theorem wf_X10_288 : Cond.fieldLink RX10 288 "VillageRoundsModel" "hasImage" "Z" ∈ vr_T := vr_in 995 (by decide +kernel) (by decide +kernel)
theorem wf_X10_81 : Cond.fieldLink RX10 81 "VillageRoundsModel" "act" "I" ∈ vr_T := vr_in 996 (by decide +kernel) (by decide +kernel)
theorem wf_X10_54 : Cond.fieldLink RX10 54 "VillageRoundsModel" "spot" "I" ∈ vr_T := vr_in 997 (by decide +kernel) (by decide +kernel)
theorem wf_X10_57 : Cond.fieldLink RX10 57 "VillageRoundsModel" "end" "I" ∈ vr_T := vr_in 998 (by decide +kernel) (by decide +kernel)
theorem wf_X10_60 : Cond.fieldLink RX10 60 "VillageRoundsModel" "isWrong" "Z" ∈ vr_T := vr_in 999 (by decide +kernel) (by decide +kernel)
theorem wf_X10_84 : Cond.fieldLink RX10 84 "VillageRoundsModel" "open" "I" ∈ vr_T := vr_in 1000 (by decide +kernel) (by decide +kernel)
theorem wf_X10_21 : Cond.fieldLink RX10 21 "VillageRoundsModel" "by" "[I" ∈ vr_T := vr_in 1001 (by decide +kernel) (by decide +kernel)
theorem wf_X10_24 : Cond.fieldLink RX10 24 "VillageRoundsModel" "truths" "[Z" ∈ vr_T := vr_in 1002 (by decide +kernel) (by decide +kernel)
theorem wf_X10_133 : Cond.fieldLink RX10 133 "VillageRoundsModel" "giving" "I" ∈ vr_T := vr_in 1003 (by decide +kernel) (by decide +kernel)
theorem wf_X10_136 : Cond.fieldLink RX10 136 "VillageRoundsModel" "wears" "Z" ∈ vr_T := vr_in 1004 (by decide +kernel) (by decide +kernel)
theorem wf_X10_28 : Cond.fieldLink RX10 28 "VillageRoundsModel" "now" "[I" ∈ vr_T := vr_in 1005 (by decide +kernel) (by decide +kernel)
theorem wf_X10_211 : Cond.fieldLink RX10 211 "VillageRoundsModel" "wasHungry" "Z" ∈ vr_T := vr_in 1006 (by decide +kernel) (by decide +kernel)
theorem wf_X10_202 : Cond.fieldLink RX10 202 "VillageRoundsModel" "hasMoved" "Z" ∈ vr_T := vr_in 1007 (by decide +kernel) (by decide +kernel)
theorem wf_X10_208 : Cond.fieldLink RX10 208 "VillageRoundsModel" "gaveAll" "I" ∈ vr_T := vr_in 1008 (by decide +kernel) (by decide +kernel)
theorem wf_X10_205 : Cond.fieldLink RX10 205 "VillageRoundsModel" "mouthsThen" "I" ∈ vr_T := vr_in 1009 (by decide +kernel) (by decide +kernel)
theorem wf_X10_31 : Cond.fieldLink RX10 31 "VillageRoundsModel" "states" "[I" ∈ vr_T := vr_in 1010 (by decide +kernel) (by decide +kernel)
theorem wf_X10_34 : Cond.fieldLink RX10 34 "VillageRoundsModel" "harvests" "[I" ∈ vr_T := vr_in 1011 (by decide +kernel) (by decide +kernel)
theorem wf_X10_37 : Cond.fieldLink RX10 37 "VillageRoundsModel" "bodies" "[I" ∈ vr_T := vr_in 1012 (by decide +kernel) (by decide +kernel)
theorem wf_X10_245 : Cond.fieldLink RX10 245 "VillageRoundsModel" "ran" "I" ∈ vr_T := vr_in 1013 (by decide +kernel) (by decide +kernel)
theorem wf_X10_254 : Cond.fieldLink RX10 254 "VillageRoundsModel" "kindNow" "I" ∈ vr_T := vr_in 1014 (by decide +kernel) (by decide +kernel)
theorem wf_X10_251 : Cond.fieldLink RX10 251 "VillageRoundsModel" "number" "I" ∈ vr_T := vr_in 1015 (by decide +kernel) (by decide +kernel)
theorem wf_X10_263 : Cond.fieldLink RX10 263 "VillageRoundsModel" "tellsV" "I" ∈ vr_T := vr_in 1016 (by decide +kernel) (by decide +kernel)
theorem wm_L_17 : Cond.methodLink RL 17 yX10_plot ∈ vr_T := vr_in 1071 (by decide +kernel) (by decide +kernel)
theorem wi_yX10_plot : Cond.instanceMethod yX10_plot ∈ vr_T := vr_in 1072 (by decide +kernel) (by decide +kernel)
theorem ws_yX10_plot : Cond.selects RX10 yX10_plot yX10_plot ∈ vr_T := vr_in 1073 (by decide +kernel) (by decide +kernel)
theorem wc_yX10_plot : Cond.code yX10_plot cX10_plot 4 (Option.some Jvm.ClassFile.FieldType.int) ∈ vr_T := vr_in 1074 (by decide +kernel) (by decide +kernel)
theorem wm_X10_44 : Cond.methodLink RX10 44 yX10_in ∈ vr_T := vr_in 1075 (by decide +kernel) (by decide +kernel)
theorem wt_yX10_in : Cond.static yX10_in ∈ vr_T := vr_in 1076 (by decide +kernel) (by decide +kernel)
theorem wc_yX10_in : Cond.code yX10_in cX10_in 3 (Option.some Jvm.ClassFile.FieldType.boolean) ∈ vr_T := vr_in 1077 (by decide +kernel) (by decide +kernel)
theorem wm_L_21 : Cond.methodLink RL 21 yX10_of ∈ vr_T := vr_in 1078 (by decide +kernel) (by decide +kernel)
theorem wi_yX10_of : Cond.instanceMethod yX10_of ∈ vr_T := vr_in 1079 (by decide +kernel) (by decide +kernel)
theorem ws_yX10_of : Cond.selects RX10 yX10_of yX10_of ∈ vr_T := vr_in 1080 (by decide +kernel) (by decide +kernel)
theorem wc_yX10_of : Cond.code yX10_of cX10_of 3 (Option.some Jvm.ClassFile.FieldType.int) ∈ vr_T := vr_in 1081 (by decide +kernel) (by decide +kernel)
theorem wm_X10_48 : Cond.methodLink RX10 48 yX10_isPlot ∈ vr_T := vr_in 1082 (by decide +kernel) (by decide +kernel)
theorem wi_yX10_isPlot : Cond.instanceMethod yX10_isPlot ∈ vr_T := vr_in 1084 (by decide +kernel) (by decide +kernel)
theorem wc_yX10_isPlot : Cond.code yX10_isPlot cX10_isPlot 2 (Option.some Jvm.ClassFile.FieldType.boolean) ∈ vr_T := vr_in 1085 (by decide +kernel) (by decide +kernel)
theorem wm_L_25 : Cond.methodLink RL 25 yX10_lies ∈ vr_T := vr_in 1086 (by decide +kernel) (by decide +kernel)
theorem wi_yX10_lies : Cond.instanceMethod yX10_lies ∈ vr_T := vr_in 1087 (by decide +kernel) (by decide +kernel)
theorem ws_yX10_lies : Cond.selects RX10 yX10_lies yX10_lies ∈ vr_T := vr_in 1088 (by decide +kernel) (by decide +kernel)
theorem wc_yX10_lies : Cond.code yX10_lies cX10_lies 4 (Option.some Jvm.ClassFile.FieldType.int) ∈ vr_T := vr_in 1089 (by decide +kernel) (by decide +kernel)
theorem wm_L_41 : Cond.methodLink RL 41 yX10_set ∈ vr_T := vr_in 1090 (by decide +kernel) (by decide +kernel)
theorem wi_yX10_set : Cond.instanceMethod yX10_set ∈ vr_T := vr_in 1091 (by decide +kernel) (by decide +kernel)
theorem ws_yX10_set : Cond.selects RX10 yX10_set yX10_set ∈ vr_T := vr_in 1092 (by decide +kernel) (by decide +kernel)
theorem wc_yX10_set : Cond.code yX10_set cX10_set 4 (Option.some Jvm.ClassFile.FieldType.int) ∈ vr_T := vr_in 1093 (by decide +kernel) (by decide +kernel)
theorem wm_L_32 : Cond.methodLink RL 32 yX10_feed ∈ vr_T := vr_in 1094 (by decide +kernel) (by decide +kernel)
theorem wi_yX10_feed : Cond.instanceMethod yX10_feed ∈ vr_T := vr_in 1095 (by decide +kernel) (by decide +kernel)
theorem ws_yX10_feed : Cond.selects RX10 yX10_feed yX10_feed ∈ vr_T := vr_in 1096 (by decide +kernel) (by decide +kernel)
theorem wc_yX10_feed : Cond.code yX10_feed cX10_feed 5 (Option.some Jvm.ClassFile.FieldType.int) ∈ vr_T := vr_in 1097 (by decide +kernel) (by decide +kernel)
theorem wk_X10_52 : Cond.constantLong RX10 52 (255) ∈ vr_T := vr_in 1098 (by decide +kernel) (by decide +kernel)
theorem wm_L_37 : Cond.methodLink RL 37 yX10_land ∈ vr_T := vr_in 1099 (by decide +kernel) (by decide +kernel)
theorem wi_yX10_land : Cond.instanceMethod yX10_land ∈ vr_T := vr_in 1100 (by decide +kernel) (by decide +kernel)
theorem ws_yX10_land : Cond.selects RX10 yX10_land yX10_land ∈ vr_T := vr_in 1101 (by decide +kernel) (by decide +kernel)
theorem wc_yX10_land : Cond.code yX10_land cX10_land 2 (Option.some Jvm.ClassFile.FieldType.int) ∈ vr_T := vr_in 1102 (by decide +kernel) (by decide +kernel)
theorem wm_X10_130 : Cond.methodLink RX10 130 yX10_clauseHere ∈ vr_T := vr_in 1103 (by decide +kernel) (by decide +kernel)
theorem wi_yX10_clauseHere : Cond.instanceMethod yX10_clauseHere ∈ vr_T := vr_in 1105 (by decide +kernel) (by decide +kernel)
theorem wc_yX10_clauseHere : Cond.code yX10_clauseHere cX10_clauseHere 2 (Option.none : Option Jvm.ClassFile.FieldType) ∈ vr_T := vr_in 1106 (by decide +kernel) (by decide +kernel)
theorem wm_X10_64 : Cond.methodLink RX10 64 yX10_here ∈ vr_T := vr_in 1107 (by decide +kernel) (by decide +kernel)
theorem wi_yX10_here : Cond.instanceMethod yX10_here ∈ vr_T := vr_in 1109 (by decide +kernel) (by decide +kernel)
theorem wc_yX10_here : Cond.code yX10_here cX10_here 1 (Option.some Jvm.ClassFile.FieldType.int) ∈ vr_T := vr_in 1110 (by decide +kernel) (by decide +kernel)
theorem wm_X10_77 : Cond.methodLink RX10 77 yX10_must ∈ vr_T := vr_in 1111 (by decide +kernel) (by decide +kernel)
theorem wi_yX10_must : Cond.instanceMethod yX10_must ∈ vr_T := vr_in 1113 (by decide +kernel) (by decide +kernel)
theorem wc_yX10_must : Cond.code yX10_must cX10_must 2 (Option.none : Option Jvm.ClassFile.FieldType) ∈ vr_T := vr_in 1114 (by decide +kernel) (by decide +kernel)
theorem wm_X10_116 : Cond.methodLink RX10 116 yX10_tellsHere ∈ vr_T := vr_in 1116 (by decide +kernel) (by decide +kernel)
theorem wi_yX10_tellsHere : Cond.instanceMethod yX10_tellsHere ∈ vr_T := vr_in 1118 (by decide +kernel) (by decide +kernel)
theorem wc_yX10_tellsHere : Cond.code yX10_tellsHere cX10_tellsHere 5 (Option.none : Option Jvm.ClassFile.FieldType) ∈ vr_T := vr_in 1119 (by decide +kernel) (by decide +kernel)
theorem wm_X10_110 : Cond.methodLink RX10 110 yX10_spells ∈ vr_T := vr_in 1120 (by decide +kernel) (by decide +kernel)
theorem wi_yX10_spells : Cond.instanceMethod yX10_spells ∈ vr_T := vr_in 1122 (by decide +kernel) (by decide +kernel)
theorem wc_yX10_spells : Cond.code yX10_spells cX10_spells 3 (Option.none : Option Jvm.ClassFile.FieldType) ∈ vr_T := vr_in 1123 (by decide +kernel) (by decide +kernel)
theorem wm_X10_68 : Cond.methodLink RX10 68 yJ0_length_8abf5 ∈ vr_T := vr_in 1124 (by decide +kernel) (by decide +kernel)
theorem wm_X10_73 : Cond.methodLink RX10 73 yJ0_charAt_5068e ∈ vr_T := vr_in 1125 (by decide +kernel) (by decide +kernel)
theorem wm_X10_104 : Cond.methodLink RX10 104 yX10_figures ∈ vr_T := vr_in 1126 (by decide +kernel) (by decide +kernel)
theorem wi_yX10_figures : Cond.instanceMethod yX10_figures ∈ vr_T := vr_in 1128 (by decide +kernel) (by decide +kernel)
theorem wc_yX10_figures : Cond.code yX10_figures cX10_figures 3 (Option.some Jvm.ClassFile.FieldType.int) ∈ vr_T := vr_in 1129 (by decide +kernel) (by decide +kernel)
theorem wm_X10_93 : Cond.methodLink RX10 93 yX10_some ∈ vr_T := vr_in 1131 (by decide +kernel) (by decide +kernel)
theorem wi_yX10_some : Cond.instanceMethod yX10_some ∈ vr_T := vr_in 1133 (by decide +kernel) (by decide +kernel)
theorem wc_yX10_some : Cond.code yX10_some cX10_some 1 (Option.none : Option Jvm.ClassFile.FieldType) ∈ vr_T := vr_in 1134 (by decide +kernel) (by decide +kernel)
theorem wm_X10_107 : Cond.methodLink RX10 107 yX10_every ∈ vr_T := vr_in 1135 (by decide +kernel) (by decide +kernel)
theorem wi_yX10_every : Cond.instanceMethod yX10_every ∈ vr_T := vr_in 1137 (by decide +kernel) (by decide +kernel)
theorem wc_yX10_every : Cond.code yX10_every cX10_every 1 (Option.none : Option Jvm.ClassFile.FieldType) ∈ vr_T := vr_in 1138 (by decide +kernel) (by decide +kernel)
theorem wm_X10_87 : Cond.methodLink RX10 87 yX10_factor ∈ vr_T := vr_in 1139 (by decide +kernel) (by decide +kernel)
theorem wi_yX10_factor : Cond.instanceMethod yX10_factor ∈ vr_T := vr_in 1141 (by decide +kernel) (by decide +kernel)
theorem wc_yX10_factor : Cond.code yX10_factor cX10_factor 5 (Option.none : Option Jvm.ClassFile.FieldType) ∈ vr_T := vr_in 1142 (by decide +kernel) (by decide +kernel)
theorem wm_X10_90 : Cond.methodLink RX10 90 yX10_emits ∈ vr_T := vr_in 1143 (by decide +kernel) (by decide +kernel)
theorem wi_yX10_emits : Cond.instanceMethod yX10_emits ∈ vr_T := vr_in 1145 (by decide +kernel) (by decide +kernel)
theorem wc_yX10_emits : Cond.code yX10_emits cX10_emits 2 (Option.none : Option Jvm.ClassFile.FieldType) ∈ vr_T := vr_in 1146 (by decide +kernel) (by decide +kernel)
theorem wm_X10_98 : Cond.methodLink RX10 98 yX10_among ∈ vr_T := vr_in 1148 (by decide +kernel) (by decide +kernel)
theorem wi_yX10_among : Cond.instanceMethod yX10_among ∈ vr_T := vr_in 1150 (by decide +kernel) (by decide +kernel)
theorem wc_yX10_among : Cond.code yX10_among cX10_among 3 (Option.some Jvm.ClassFile.FieldType.int) ∈ vr_T := vr_in 1151 (by decide +kernel) (by decide +kernel)
theorem wm_L_46 : Cond.methodLink RL 46 yX10_gives ∈ vr_T := vr_in 1157 (by decide +kernel) (by decide +kernel)
theorem wi_yX10_gives : Cond.instanceMethod yX10_gives ∈ vr_T := vr_in 1158 (by decide +kernel) (by decide +kernel)
theorem ws_yX10_gives : Cond.selects RX10 yX10_gives yX10_gives ∈ vr_T := vr_in 1159 (by decide +kernel) (by decide +kernel)
theorem wc_yX10_gives : Cond.code yX10_gives cX10_gives 2 (Option.some Jvm.ClassFile.FieldType.int) ∈ vr_T := vr_in 1160 (by decide +kernel) (by decide +kernel)
theorem wm_X10_154 : Cond.methodLink RX10 154 yX10_walk ∈ vr_T := vr_in 1161 (by decide +kernel) (by decide +kernel)
theorem wi_yX10_walk : Cond.instanceMethod yX10_walk ∈ vr_T := vr_in 1163 (by decide +kernel) (by decide +kernel)
theorem wc_yX10_walk : Cond.code yX10_walk cX10_walk 1 (Option.some Jvm.ClassFile.FieldType.int) ∈ vr_T := vr_in 1164 (by decide +kernel) (by decide +kernel)
theorem wm_X10_139 : Cond.methodLink RX10 139 yX10_tellsOf ∈ vr_T := vr_in 1165 (by decide +kernel) (by decide +kernel)
theorem wi_yX10_tellsOf : Cond.instanceMethod yX10_tellsOf ∈ vr_T := vr_in 1167 (by decide +kernel) (by decide +kernel)
theorem wc_yX10_tellsOf : Cond.code yX10_tellsOf cX10_tellsOf 3 (Option.some Jvm.ClassFile.FieldType.int) ∈ vr_T := vr_in 1168 (by decide +kernel) (by decide +kernel)
theorem wm_X10_157 : Cond.methodLink RX10 157 yX10_givesOf ∈ vr_T := vr_in 1169 (by decide +kernel) (by decide +kernel)
theorem wi_yX10_givesOf : Cond.instanceMethod yX10_givesOf ∈ vr_T := vr_in 1171 (by decide +kernel) (by decide +kernel)
theorem wc_yX10_givesOf : Cond.code yX10_givesOf cX10_givesOf 5 (Option.some Jvm.ClassFile.FieldType.int) ∈ vr_T := vr_in 1172 (by decide +kernel) (by decide +kernel)
theorem wm_X10_147 : Cond.methodLink RX10 147 yX10_size ∈ vr_T := vr_in 1173 (by decide +kernel) (by decide +kernel)
theorem wt_yX10_size : Cond.static yX10_size ∈ vr_T := vr_in 1174 (by decide +kernel) (by decide +kernel)
theorem wc_yX10_size : Cond.code yX10_size cX10_size 1 (Option.some Jvm.ClassFile.FieldType.int) ∈ vr_T := vr_in 1175 (by decide +kernel) (by decide +kernel)
theorem wm_X10_151 : Cond.methodLink RX10 151 yX10_wornThen ∈ vr_T := vr_in 1176 (by decide +kernel) (by decide +kernel)
theorem wi_yX10_wornThen : Cond.instanceMethod yX10_wornThen ∈ vr_T := vr_in 1178 (by decide +kernel) (by decide +kernel)
theorem wc_yX10_wornThen : Cond.code yX10_wornThen cX10_wornThen 2 (Option.some Jvm.ClassFile.FieldType.int) ∈ vr_T := vr_in 1179 (by decide +kernel) (by decide +kernel)
theorem wm_X10_143 : Cond.methodLink RX10 143 yX10_looks ∈ vr_T := vr_in 1180 (by decide +kernel) (by decide +kernel)
theorem wi_yX10_looks : Cond.instanceMethod yX10_looks ∈ vr_T := vr_in 1182 (by decide +kernel) (by decide +kernel)
theorem wc_yX10_looks : Cond.code yX10_looks cX10_looks 12 (Option.none : Option Jvm.ClassFile.FieldType) ∈ vr_T := vr_in 1183 (by decide +kernel) (by decide +kernel)
theorem wm_L_50 : Cond.methodLink RL 50 yX10_year ∈ vr_T := vr_in 1184 (by decide +kernel) (by decide +kernel)
theorem wi_yX10_year : Cond.instanceMethod yX10_year ∈ vr_T := vr_in 1185 (by decide +kernel) (by decide +kernel)
theorem ws_yX10_year : Cond.selects RX10 yX10_year yX10_year ∈ vr_T := vr_in 1186 (by decide +kernel) (by decide +kernel)
theorem wc_yX10_year : Cond.code yX10_year cX10_year 3 (Option.some Jvm.ClassFile.FieldType.int) ∈ vr_T := vr_in 1187 (by decide +kernel) (by decide +kernel)
theorem wm_X10_164 : Cond.methodLink RX10 164 yX10_goesBy ∈ vr_T := vr_in 1188 (by decide +kernel) (by decide +kernel)
theorem wi_yX10_goesBy : Cond.instanceMethod yX10_goesBy ∈ vr_T := vr_in 1190 (by decide +kernel) (by decide +kernel)
theorem wc_yX10_goesBy : Cond.code yX10_goesBy cX10_goesBy 7 (Option.some Jvm.ClassFile.FieldType.int) ∈ vr_T := vr_in 1191 (by decide +kernel) (by decide +kernel)
theorem wm_X10_161 : Cond.methodLink RX10 161 yX10_sumOf ∈ vr_T := vr_in 1192 (by decide +kernel) (by decide +kernel)
theorem wi_yX10_sumOf : Cond.instanceMethod yX10_sumOf ∈ vr_T := vr_in 1194 (by decide +kernel) (by decide +kernel)
theorem wc_yX10_sumOf : Cond.code yX10_sumOf cX10_sumOf 5 (Option.some Jvm.ClassFile.FieldType.int) ∈ vr_T := vr_in 1195 (by decide +kernel) (by decide +kernel)
theorem wm_L_54 : Cond.methodLink RL 54 yX10_rule ∈ vr_T := vr_in 1196 (by decide +kernel) (by decide +kernel)
theorem wi_yX10_rule : Cond.instanceMethod yX10_rule ∈ vr_T := vr_in 1197 (by decide +kernel) (by decide +kernel)
theorem ws_yX10_rule : Cond.selects RX10 yX10_rule yX10_rule ∈ vr_T := vr_in 1198 (by decide +kernel) (by decide +kernel)
theorem wc_yX10_rule : Cond.code yX10_rule cX10_rule 3 (Option.some Jvm.ClassFile.FieldType.int) ∈ vr_T := vr_in 1199 (by decide +kernel) (by decide +kernel)
theorem wm_L_58 : Cond.methodLink RL 58 yX10_burns ∈ vr_T := vr_in 1200 (by decide +kernel) (by decide +kernel)
theorem wi_yX10_burns : Cond.instanceMethod yX10_burns ∈ vr_T := vr_in 1201 (by decide +kernel) (by decide +kernel)
theorem ws_yX10_burns : Cond.selects RX10 yX10_burns yX10_burns ∈ vr_T := vr_in 1202 (by decide +kernel) (by decide +kernel)
theorem wc_yX10_burns : Cond.code yX10_burns cX10_burns 2 (Option.some Jvm.ClassFile.FieldType.int) ∈ vr_T := vr_in 1203 (by decide +kernel) (by decide +kernel)
theorem wm_X10_190 : Cond.methodLink RX10 190 yX10_isRule ∈ vr_T := vr_in 1204 (by decide +kernel) (by decide +kernel)
theorem wi_yX10_isRule : Cond.instanceMethod yX10_isRule ∈ vr_T := vr_in 1206 (by decide +kernel) (by decide +kernel)
theorem wc_yX10_isRule : Cond.code yX10_isRule cX10_isRule 2 (Option.some Jvm.ClassFile.FieldType.boolean) ∈ vr_T := vr_in 1207 (by decide +kernel) (by decide +kernel)
theorem wm_X10_193 : Cond.methodLink RX10 193 yX10_burntBy ∈ vr_T := vr_in 1208 (by decide +kernel) (by decide +kernel)
theorem wi_yX10_burntBy : Cond.instanceMethod yX10_burntBy ∈ vr_T := vr_in 1210 (by decide +kernel) (by decide +kernel)
theorem wc_yX10_burntBy : Cond.code yX10_burntBy cX10_burntBy 6 (Option.some Jvm.ClassFile.FieldType.int) ∈ vr_T := vr_in 1211 (by decide +kernel) (by decide +kernel)
theorem wm_X10_181 : Cond.methodLink RX10 181 yX10_looksAt ∈ vr_T := vr_in 1212 (by decide +kernel) (by decide +kernel)
theorem wi_yX10_looksAt : Cond.instanceMethod yX10_looksAt ∈ vr_T := vr_in 1214 (by decide +kernel) (by decide +kernel)
theorem wc_yX10_looksAt : Cond.code yX10_looksAt cX10_looksAt 3 (Option.none : Option Jvm.ClassFile.FieldType) ∈ vr_T := vr_in 1215 (by decide +kernel) (by decide +kernel)
theorem wm_X10_184 : Cond.methodLink RX10 184 yX10_bestSet ∈ vr_T := vr_in 1216 (by decide +kernel) (by decide +kernel)
theorem wi_yX10_bestSet : Cond.instanceMethod yX10_bestSet ∈ vr_T := vr_in 1218 (by decide +kernel) (by decide +kernel)
theorem wc_yX10_bestSet : Cond.code yX10_bestSet cX10_bestSet 8 (Option.some Jvm.ClassFile.FieldType.int) ∈ vr_T := vr_in 1219 (by decide +kernel) (by decide +kernel)
theorem wm_X10_178 : Cond.methodLink RX10 178 yX10_count1 ∈ vr_T := vr_in 1220 (by decide +kernel) (by decide +kernel)
theorem wt_yX10_count1 : Cond.static yX10_count1 ∈ vr_T := vr_in 1221 (by decide +kernel) (by decide +kernel)
theorem wc_yX10_count1 : Cond.code yX10_count1 cX10_count1 3 (Option.some Jvm.ClassFile.FieldType.int) ∈ vr_T := vr_in 1222 (by decide +kernel) (by decide +kernel)
theorem wm_X10_187 : Cond.methodLink RX10 187 yX10_oneByOne ∈ vr_T := vr_in 1223 (by decide +kernel) (by decide +kernel)
theorem wi_yX10_oneByOne : Cond.instanceMethod yX10_oneByOne ∈ vr_T := vr_in 1225 (by decide +kernel) (by decide +kernel)
theorem wc_yX10_oneByOne : Cond.code yX10_oneByOne cX10_oneByOne 9 (Option.some Jvm.ClassFile.FieldType.int) ∈ vr_T := vr_in 1226 (by decide +kernel) (by decide +kernel)
theorem wm_X10_171 : Cond.methodLink RX10 171 yX10_isLeftOut ∈ vr_T := vr_in 1227 (by decide +kernel) (by decide +kernel)
theorem wi_yX10_isLeftOut : Cond.instanceMethod yX10_isLeftOut ∈ vr_T := vr_in 1229 (by decide +kernel) (by decide +kernel)
theorem wc_yX10_isLeftOut : Cond.code yX10_isLeftOut cX10_isLeftOut 6 (Option.some Jvm.ClassFile.FieldType.boolean) ∈ vr_T := vr_in 1230 (by decide +kernel) (by decide +kernel)
theorem wm_X10_168 : Cond.methodLink RX10 168 yX10_isResting ∈ vr_T := vr_in 1231 (by decide +kernel) (by decide +kernel)
theorem wt_yX10_isResting : Cond.static yX10_isResting ∈ vr_T := vr_in 1232 (by decide +kernel) (by decide +kernel)
theorem wc_yX10_isResting : Cond.code yX10_isResting cX10_isResting 1 (Option.some Jvm.ClassFile.FieldType.boolean) ∈ vr_T := vr_in 1233 (by decide +kernel) (by decide +kernel)
theorem wm_X10_175 : Cond.methodLink RX10 175 yX10_isAhead ∈ vr_T := vr_in 1234 (by decide +kernel) (by decide +kernel)
theorem wi_yX10_isAhead : Cond.instanceMethod yX10_isAhead ∈ vr_T := vr_in 1236 (by decide +kernel) (by decide +kernel)
theorem wc_yX10_isAhead : Cond.code yX10_isAhead cX10_isAhead 8 (Option.some Jvm.ClassFile.FieldType.boolean) ∈ vr_T := vr_in 1237 (by decide +kernel) (by decide +kernel)
theorem wm_L_62 : Cond.methodLink RL 62 yX10_moves ∈ vr_T := vr_in 1238 (by decide +kernel) (by decide +kernel)
theorem wi_yX10_moves : Cond.instanceMethod yX10_moves ∈ vr_T := vr_in 1239 (by decide +kernel) (by decide +kernel)
theorem ws_yX10_moves : Cond.selects RX10 yX10_moves yX10_moves ∈ vr_T := vr_in 1240 (by decide +kernel) (by decide +kernel)
theorem wc_yX10_moves : Cond.code yX10_moves cX10_moves 2 (Option.some Jvm.ClassFile.FieldType.int) ∈ vr_T := vr_in 1241 (by decide +kernel) (by decide +kernel)
theorem wm_X10_199 : Cond.methodLink RX10 199 yX10_movesTo ∈ vr_T := vr_in 1242 (by decide +kernel) (by decide +kernel)
theorem wi_yX10_movesTo : Cond.instanceMethod yX10_movesTo ∈ vr_T := vr_in 1244 (by decide +kernel) (by decide +kernel)
theorem wc_yX10_movesTo : Cond.code yX10_movesTo cX10_movesTo 8 (Option.some Jvm.ClassFile.FieldType.int) ∈ vr_T := vr_in 1245 (by decide +kernel) (by decide +kernel)
theorem wm_X10_196 : Cond.methodLink RX10 196 yX10_harvestAt ∈ vr_T := vr_in 1246 (by decide +kernel) (by decide +kernel)
theorem wi_yX10_harvestAt : Cond.instanceMethod yX10_harvestAt ∈ vr_T := vr_in 1248 (by decide +kernel) (by decide +kernel)
theorem wc_yX10_harvestAt : Cond.code yX10_harvestAt cX10_harvestAt 5 (Option.some Jvm.ClassFile.FieldType.int) ∈ vr_T := vr_in 1249 (by decide +kernel) (by decide +kernel)
theorem wm_L_66 : Cond.methodLink RL 66 yX10_go ∈ vr_T := vr_in 1250 (by decide +kernel) (by decide +kernel)
theorem wi_yX10_go : Cond.instanceMethod yX10_go ∈ vr_T := vr_in 1251 (by decide +kernel) (by decide +kernel)
theorem ws_yX10_go : Cond.selects RX10 yX10_go yX10_go ∈ vr_T := vr_in 1252 (by decide +kernel) (by decide +kernel)
theorem wc_yX10_go : Cond.code yX10_go cX10_go 6 (Option.some Jvm.ClassFile.FieldType.int) ∈ vr_T := vr_in 1253 (by decide +kernel) (by decide +kernel)
theorem wm_X10_214 : Cond.methodLink RX10 214 yX10_yearBy ∈ vr_T := vr_in 1254 (by decide +kernel) (by decide +kernel)
theorem wi_yX10_yearBy : Cond.instanceMethod yX10_yearBy ∈ vr_T := vr_in 1256 (by decide +kernel) (by decide +kernel)
theorem wc_yX10_yearBy : Cond.code yX10_yearBy cX10_yearBy 7 (Option.some Jvm.ClassFile.FieldType.int) ∈ vr_T := vr_in 1257 (by decide +kernel) (by decide +kernel)
theorem wm_L_70 : Cond.methodLink RL 70 yX10_row ∈ vr_T := vr_in 1258 (by decide +kernel) (by decide +kernel)
theorem wi_yX10_row : Cond.instanceMethod yX10_row ∈ vr_T := vr_in 1259 (by decide +kernel) (by decide +kernel)
theorem ws_yX10_row : Cond.selects RX10 yX10_row yX10_row ∈ vr_T := vr_in 1260 (by decide +kernel) (by decide +kernel)
theorem wc_yX10_row : Cond.code yX10_row cX10_row 2 (Option.some Jvm.ClassFile.FieldType.int) ∈ vr_T := vr_in 1261 (by decide +kernel) (by decide +kernel)
theorem wm_L_74 : Cond.methodLink RL 74 yX10_judged ∈ vr_T := vr_in 1262 (by decide +kernel) (by decide +kernel)
theorem wi_yX10_judged : Cond.instanceMethod yX10_judged ∈ vr_T := vr_in 1263 (by decide +kernel) (by decide +kernel)
theorem ws_yX10_judged : Cond.selects RX10 yX10_judged yX10_judged ∈ vr_T := vr_in 1264 (by decide +kernel) (by decide +kernel)
theorem wc_yX10_judged : Cond.code yX10_judged cX10_judged 5 (Option.some Jvm.ClassFile.FieldType.int) ∈ vr_T := vr_in 1265 (by decide +kernel) (by decide +kernel)
theorem wm_X10_217 : Cond.methodLink RX10 217 yX10_keeps ∈ vr_T := vr_in 1266 (by decide +kernel) (by decide +kernel)
theorem wi_yX10_keeps : Cond.instanceMethod yX10_keeps ∈ vr_T := vr_in 1268 (by decide +kernel) (by decide +kernel)
theorem wc_yX10_keeps : Cond.code yX10_keeps cX10_keeps 2 (Option.none : Option Jvm.ClassFile.FieldType) ∈ vr_T := vr_in 1269 (by decide +kernel) (by decide +kernel)
theorem wm_X10_220 : Cond.methodLink RX10 220 yX10_putsBack ∈ vr_T := vr_in 1270 (by decide +kernel) (by decide +kernel)
theorem wi_yX10_putsBack : Cond.instanceMethod yX10_putsBack ∈ vr_T := vr_in 1272 (by decide +kernel) (by decide +kernel)
theorem wc_yX10_putsBack : Cond.code yX10_putsBack cX10_putsBack 2 (Option.none : Option Jvm.ClassFile.FieldType) ∈ vr_T := vr_in 1273 (by decide +kernel) (by decide +kernel)
theorem wm_L_79 : Cond.methodLink RL 79 yX10_proof ∈ vr_T := vr_in 1274 (by decide +kernel) (by decide +kernel)
theorem wi_yX10_proof : Cond.instanceMethod yX10_proof ∈ vr_T := vr_in 1275 (by decide +kernel) (by decide +kernel)
theorem ws_yX10_proof : Cond.selects RX10 yX10_proof yX10_proof ∈ vr_T := vr_in 1276 (by decide +kernel) (by decide +kernel)
theorem wc_yX10_proof : Cond.code yX10_proof cX10_proof 10 (Option.some Jvm.ClassFile.FieldType.int) ∈ vr_T := vr_in 1277 (by decide +kernel) (by decide +kernel)
theorem wm_X10_227 : Cond.methodLink RX10 227 yX10_mostMouths ∈ vr_T := vr_in 1278 (by decide +kernel) (by decide +kernel)
theorem wi_yX10_mostMouths : Cond.instanceMethod yX10_mostMouths ∈ vr_T := vr_in 1280 (by decide +kernel) (by decide +kernel)
theorem wc_yX10_mostMouths : Cond.code yX10_mostMouths cX10_mostMouths 6 (Option.some Jvm.ClassFile.FieldType.int) ∈ vr_T := vr_in 1281 (by decide +kernel) (by decide +kernel)
theorem wm_X10_223 : Cond.methodLink RX10 223 yX10_firstHungry ∈ vr_T := vr_in 1282 (by decide +kernel) (by decide +kernel)
theorem wi_yX10_firstHungry : Cond.instanceMethod yX10_firstHungry ∈ vr_T := vr_in 1284 (by decide +kernel) (by decide +kernel)
theorem wc_yX10_firstHungry : Cond.code yX10_firstHungry cX10_firstHungry 7 (Option.some Jvm.ClassFile.FieldType.int) ∈ vr_T := vr_in 1285 (by decide +kernel) (by decide +kernel)
theorem wm_L_83 : Cond.methodLink RL 83 yX10_ever ∈ vr_T := vr_in 1286 (by decide +kernel) (by decide +kernel)
theorem wi_yX10_ever : Cond.instanceMethod yX10_ever ∈ vr_T := vr_in 1287 (by decide +kernel) (by decide +kernel)
theorem ws_yX10_ever : Cond.selects RX10 yX10_ever yX10_ever ∈ vr_T := vr_in 1288 (by decide +kernel) (by decide +kernel)
theorem wc_yX10_ever : Cond.code yX10_ever cX10_ever 10 (Option.some Jvm.ClassFile.FieldType.int) ∈ vr_T := vr_in 1289 (by decide +kernel) (by decide +kernel)
theorem wm_X10_230 : Cond.methodLink RX10 230 yX10_notes ∈ vr_T := vr_in 1290 (by decide +kernel) (by decide +kernel)
theorem wi_yX10_notes : Cond.instanceMethod yX10_notes ∈ vr_T := vr_in 1292 (by decide +kernel) (by decide +kernel)
theorem wc_yX10_notes : Cond.code yX10_notes cX10_notes 4 (Option.none : Option Jvm.ClassFile.FieldType) ∈ vr_T := vr_in 1293 (by decide +kernel) (by decide +kernel)
theorem wm_X10_234 : Cond.methodLink RX10 234 yX10_formerOf ∈ vr_T := vr_in 1294 (by decide +kernel) (by decide +kernel)
theorem wi_yX10_formerOf : Cond.instanceMethod yX10_formerOf ∈ vr_T := vr_in 1296 (by decide +kernel) (by decide +kernel)
theorem wc_yX10_formerOf : Cond.code yX10_formerOf cX10_formerOf 5 (Option.some Jvm.ClassFile.FieldType.int) ∈ vr_T := vr_in 1297 (by decide +kernel) (by decide +kernel)
theorem wm_L_87 : Cond.methodLink RL 87 yX10_less ∈ vr_T := vr_in 1298 (by decide +kernel) (by decide +kernel)
theorem wi_yX10_less : Cond.instanceMethod yX10_less ∈ vr_T := vr_in 1299 (by decide +kernel) (by decide +kernel)
theorem ws_yX10_less : Cond.selects RX10 yX10_less yX10_less ∈ vr_T := vr_in 1300 (by decide +kernel) (by decide +kernel)
theorem wc_yX10_less : Cond.code yX10_less cX10_less 5 (Option.some Jvm.ClassFile.FieldType.int) ∈ vr_T := vr_in 1301 (by decide +kernel) (by decide +kernel)
theorem wm_L_92 : Cond.methodLink RL 92 yX10_safe ∈ vr_T := vr_in 1302 (by decide +kernel) (by decide +kernel)
theorem wi_yX10_safe : Cond.instanceMethod yX10_safe ∈ vr_T := vr_in 1303 (by decide +kernel) (by decide +kernel)
theorem ws_yX10_safe : Cond.selects RX10 yX10_safe yX10_safe ∈ vr_T := vr_in 1304 (by decide +kernel) (by decide +kernel)
theorem wc_yX10_safe : Cond.code yX10_safe cX10_safe 12 (Option.some Jvm.ClassFile.FieldType.long) ∈ vr_T := vr_in 1305 (by decide +kernel) (by decide +kernel)
theorem wk_X10_237 : Cond.constantLong RX10 237 (-9223372036854775808) ∈ vr_T := vr_in 1306 (by decide +kernel) (by decide +kernel)
theorem wk_X10_239 : Cond.constantLong RX10 239 (10) ∈ vr_T := vr_in 1307 (by decide +kernel) (by decide +kernel)
theorem wm_X10_241 : Cond.methodLink RX10 241 yX10_divisor ∈ vr_T := vr_in 1308 (by decide +kernel) (by decide +kernel)
theorem wt_yX10_divisor : Cond.static yX10_divisor ∈ vr_T := vr_in 1309 (by decide +kernel) (by decide +kernel)
theorem wc_yX10_divisor : Cond.code yX10_divisor cX10_divisor 10 (Option.some Jvm.ClassFile.FieldType.long) ∈ vr_T := vr_in 1310 (by decide +kernel) (by decide +kernel)
theorem wm_L_96 : Cond.methodLink RL 96 yX10_two ∈ vr_T := vr_in 1311 (by decide +kernel) (by decide +kernel)
theorem wi_yX10_two : Cond.instanceMethod yX10_two ∈ vr_T := vr_in 1312 (by decide +kernel) (by decide +kernel)
theorem ws_yX10_two : Cond.selects RX10 yX10_two yX10_two ∈ vr_T := vr_in 1313 (by decide +kernel) (by decide +kernel)
theorem wc_yX10_two : Cond.code yX10_two cX10_two 6 (Option.some Jvm.ClassFile.FieldType.int) ∈ vr_T := vr_in 1314 (by decide +kernel) (by decide +kernel)
theorem wm_L_100 : Cond.methodLink RL 100 yX10_way ∈ vr_T := vr_in 1315 (by decide +kernel) (by decide +kernel)
theorem wi_yX10_way : Cond.instanceMethod yX10_way ∈ vr_T := vr_in 1316 (by decide +kernel) (by decide +kernel)
theorem ws_yX10_way : Cond.selects RX10 yX10_way yX10_way ∈ vr_T := vr_in 1317 (by decide +kernel) (by decide +kernel)
theorem wc_yX10_way : Cond.code yX10_way cX10_way 4 (Option.some Jvm.ClassFile.FieldType.int) ∈ vr_T := vr_in 1318 (by decide +kernel) (by decide +kernel)
theorem wm_L_104 : Cond.methodLink RL 104 yX10_age ∈ vr_T := vr_in 1319 (by decide +kernel) (by decide +kernel)
theorem wi_yX10_age : Cond.instanceMethod yX10_age ∈ vr_T := vr_in 1320 (by decide +kernel) (by decide +kernel)
theorem ws_yX10_age : Cond.selects RX10 yX10_age yX10_age ∈ vr_T := vr_in 1321 (by decide +kernel) (by decide +kernel)
theorem wc_yX10_age : Cond.code yX10_age cX10_age 2 (Option.some Jvm.ClassFile.FieldType.int) ∈ vr_T := vr_in 1322 (by decide +kernel) (by decide +kernel)
theorem wm_L_108 : Cond.methodLink RL 108 yX10_round ∈ vr_T := vr_in 1323 (by decide +kernel) (by decide +kernel)
theorem wi_yX10_round : Cond.instanceMethod yX10_round ∈ vr_T := vr_in 1324 (by decide +kernel) (by decide +kernel)
theorem ws_yX10_round : Cond.selects RX10 yX10_round yX10_round ∈ vr_T := vr_in 1325 (by decide +kernel) (by decide +kernel)
theorem wc_yX10_round : Cond.code yX10_round cX10_round 6 (Option.some Jvm.ClassFile.FieldType.int) ∈ vr_T := vr_in 1326 (by decide +kernel) (by decide +kernel)
theorem wm_L_112 : Cond.methodLink RL 112 yX10_act ∈ vr_T := vr_in 1327 (by decide +kernel) (by decide +kernel)
theorem wi_yX10_act : Cond.instanceMethod yX10_act ∈ vr_T := vr_in 1328 (by decide +kernel) (by decide +kernel)
theorem ws_yX10_act : Cond.selects RX10 yX10_act yX10_act ∈ vr_T := vr_in 1329 (by decide +kernel) (by decide +kernel)
theorem wc_yX10_act : Cond.code yX10_act cX10_act 4 (Option.some Jvm.ClassFile.FieldType.int) ∈ vr_T := vr_in 1330 (by decide +kernel) (by decide +kernel)
theorem wm_X10_260 : Cond.methodLink RX10 260 yX10_burnsActs ∈ vr_T := vr_in 1331 (by decide +kernel) (by decide +kernel)
theorem wi_yX10_burnsActs : Cond.instanceMethod yX10_burnsActs ∈ vr_T := vr_in 1333 (by decide +kernel) (by decide +kernel)
theorem wc_yX10_burnsActs : Cond.code yX10_burnsActs cX10_burnsActs 2 (Option.some Jvm.ClassFile.FieldType.int) ∈ vr_T := vr_in 1334 (by decide +kernel) (by decide +kernel)
theorem wm_X10_248 : Cond.methodLink RX10 248 yX10_runs ∈ vr_T := vr_in 1335 (by decide +kernel) (by decide +kernel)
theorem wi_yX10_runs : Cond.instanceMethod yX10_runs ∈ vr_T := vr_in 1337 (by decide +kernel) (by decide +kernel)
theorem wc_yX10_runs : Cond.code yX10_runs cX10_runs 2 (Option.none : Option Jvm.ClassFile.FieldType) ∈ vr_T := vr_in 1338 (by decide +kernel) (by decide +kernel)
theorem wm_X10_257 : Cond.methodLink RX10 257 yX10_plainBurns ∈ vr_T := vr_in 1339 (by decide +kernel) (by decide +kernel)
theorem wi_yX10_plainBurns : Cond.instanceMethod yX10_plainBurns ∈ vr_T := vr_in 1341 (by decide +kernel) (by decide +kernel)
theorem wc_yX10_plainBurns : Cond.code yX10_plainBurns cX10_plainBurns 2 (Option.some Jvm.ClassFile.FieldType.int) ∈ vr_T := vr_in 1342 (by decide +kernel) (by decide +kernel)
theorem wm_X10_276 : Cond.methodLink RX10 276 yX10_restsActs ∈ vr_T := vr_in 1343 (by decide +kernel) (by decide +kernel)
theorem wi_yX10_restsActs : Cond.instanceMethod yX10_restsActs ∈ vr_T := vr_in 1345 (by decide +kernel) (by decide +kernel)
theorem wc_yX10_restsActs : Cond.code yX10_restsActs cX10_restsActs 2 (Option.some Jvm.ClassFile.FieldType.int) ∈ vr_T := vr_in 1346 (by decide +kernel) (by decide +kernel)
theorem wm_X10_269 : Cond.methodLink RX10 269 yX10_restRests ∈ vr_T := vr_in 1347 (by decide +kernel) (by decide +kernel)
theorem wi_yX10_restRests : Cond.instanceMethod yX10_restRests ∈ vr_T := vr_in 1349 (by decide +kernel) (by decide +kernel)
theorem wc_yX10_restRests : Cond.code yX10_restRests cX10_restRests 2 (Option.some Jvm.ClassFile.FieldType.int) ∈ vr_T := vr_in 1350 (by decide +kernel) (by decide +kernel)
theorem wm_X10_266 : Cond.methodLink RX10 266 yX10_plainRests ∈ vr_T := vr_in 1351 (by decide +kernel) (by decide +kernel)
theorem wi_yX10_plainRests : Cond.instanceMethod yX10_plainRests ∈ vr_T := vr_in 1353 (by decide +kernel) (by decide +kernel)
theorem wc_yX10_plainRests : Cond.code yX10_plainRests cX10_plainRests 2 (Option.some Jvm.ClassFile.FieldType.int) ∈ vr_T := vr_in 1354 (by decide +kernel) (by decide +kernel)
theorem wm_X10_272 : Cond.methodLink RX10 272 yX10_isUnder ∈ vr_T := vr_in 1355 (by decide +kernel) (by decide +kernel)
theorem wt_yX10_isUnder : Cond.static yX10_isUnder ∈ vr_T := vr_in 1356 (by decide +kernel) (by decide +kernel)
theorem wc_yX10_isUnder : Cond.code yX10_isUnder cX10_isUnder 2 (Option.some Jvm.ClassFile.FieldType.boolean) ∈ vr_T := vr_in 1357 (by decide +kernel) (by decide +kernel)
theorem wm_X10_285 : Cond.methodLink RX10 285 yX10_tellsActs ∈ vr_T := vr_in 1358 (by decide +kernel) (by decide +kernel)
theorem wi_yX10_tellsActs : Cond.instanceMethod yX10_tellsActs ∈ vr_T := vr_in 1360 (by decide +kernel) (by decide +kernel)
theorem wc_yX10_tellsActs : Cond.code yX10_tellsActs cX10_tellsActs 3 (Option.some Jvm.ClassFile.FieldType.int) ∈ vr_T := vr_in 1361 (by decide +kernel) (by decide +kernel)
theorem wm_X10_282 : Cond.methodLink RX10 282 yX10_nearTells ∈ vr_T := vr_in 1362 (by decide +kernel) (by decide +kernel)
theorem wi_yX10_nearTells : Cond.instanceMethod yX10_nearTells ∈ vr_T := vr_in 1364 (by decide +kernel) (by decide +kernel)
theorem wc_yX10_nearTells : Cond.code yX10_nearTells cX10_nearTells 2 (Option.some Jvm.ClassFile.FieldType.int) ∈ vr_T := vr_in 1365 (by decide +kernel) (by decide +kernel)
theorem wm_X10_279 : Cond.methodLink RX10 279 yX10_plainTells ∈ vr_T := vr_in 1366 (by decide +kernel) (by decide +kernel)
theorem wi_yX10_plainTells : Cond.instanceMethod yX10_plainTells ∈ vr_T := vr_in 1368 (by decide +kernel) (by decide +kernel)
theorem wc_yX10_plainTells : Cond.code yX10_plainTells cX10_plainTells 2 (Option.some Jvm.ClassFile.FieldType.int) ∈ vr_T := vr_in 1369 (by decide +kernel) (by decide +kernel)
theorem wm_L_116 : Cond.methodLink RL 116 yX10_trace ∈ vr_T := vr_in 1370 (by decide +kernel) (by decide +kernel)
theorem wi_yX10_trace : Cond.instanceMethod yX10_trace ∈ vr_T := vr_in 1371 (by decide +kernel) (by decide +kernel)
theorem ws_yX10_trace : Cond.selects RX10 yX10_trace yX10_trace ∈ vr_T := vr_in 1372 (by decide +kernel) (by decide +kernel)
theorem wc_yX10_trace : Cond.code yX10_trace cX10_trace 2 (Option.some Jvm.ClassFile.FieldType.int) ∈ vr_T := vr_in 1373 (by decide +kernel) (by decide +kernel)
theorem wm_L_120 : Cond.methodLink RL 120 yX10_as ∈ vr_T := vr_in 1374 (by decide +kernel) (by decide +kernel)
theorem wi_yX10_as : Cond.instanceMethod yX10_as ∈ vr_T := vr_in 1375 (by decide +kernel) (by decide +kernel)
theorem ws_yX10_as : Cond.selects RX10 yX10_as yX10_as ∈ vr_T := vr_in 1376 (by decide +kernel) (by decide +kernel)
theorem wc_yX10_as : Cond.code yX10_as cX10_as 3 (Option.some Jvm.ClassFile.FieldType.int) ∈ vr_T := vr_in 1377 (by decide +kernel) (by decide +kernel)
theorem wm_L_124 : Cond.methodLink RL 124 yX10_image ∈ vr_T := vr_in 1378 (by decide +kernel) (by decide +kernel)
theorem wi_yX10_image : Cond.instanceMethod yX10_image ∈ vr_T := vr_in 1379 (by decide +kernel) (by decide +kernel)
theorem ws_yX10_image : Cond.selects RX10 yX10_image yX10_image ∈ vr_T := vr_in 1380 (by decide +kernel) (by decide +kernel)
theorem wc_yX10_image : Cond.code yX10_image cX10_image 2 (Option.some Jvm.ClassFile.FieldType.int) ∈ vr_T := vr_in 1381 (by decide +kernel) (by decide +kernel)
theorem wm_L_128 : Cond.methodLink RL 128 yX10_undo ∈ vr_T := vr_in 1382 (by decide +kernel) (by decide +kernel)
theorem wi_yX10_undo : Cond.instanceMethod yX10_undo ∈ vr_T := vr_in 1383 (by decide +kernel) (by decide +kernel)
theorem ws_yX10_undo : Cond.selects RX10 yX10_undo yX10_undo ∈ vr_T := vr_in 1384 (by decide +kernel) (by decide +kernel)
theorem wc_yX10_undo : Cond.code yX10_undo cX10_undo 2 (Option.some Jvm.ClassFile.FieldType.int) ∈ vr_T := vr_in 1385 (by decide +kernel) (by decide +kernel)
theorem wm_L_132 : Cond.methodLink RL 132 yX10_count ∈ vr_T := vr_in 1386 (by decide +kernel) (by decide +kernel)
theorem wi_yX10_count : Cond.instanceMethod yX10_count ∈ vr_T := vr_in 1387 (by decide +kernel) (by decide +kernel)
theorem ws_yX10_count : Cond.selects RX10 yX10_count yX10_count ∈ vr_T := vr_in 1388 (by decide +kernel) (by decide +kernel)
theorem wc_yX10_count : Cond.code yX10_count cX10_count 2 (Option.some Jvm.ClassFile.FieldType.int) ∈ vr_T := vr_in 1389 (by decide +kernel) (by decide +kernel)
theorem wk_L_26 : Cond.constantLong RL 26 (4294967295) ∈ vr_T := vr_in 1390 (by decide +kernel) (by decide +kernel)
theorem wf_J0_9 : Cond.fieldLink RJ0 9 "java/lang/String" "value" "[B" ∈ vr_T := vr_in 1391 (by decide +kernel) (by decide +kernel)
theorem wf_J0_15 : Cond.fieldLink RJ0 15 "java/lang/String" "coder" "B" ∈ vr_T := vr_in 1392 (by decide +kernel) (by decide +kernel)
theorem wx_X0 : ∀ w ∈ u_ws RX0 TX0 8, w ∈ vr_T := by decide +kernel
theorem wx_X1 : ∀ w ∈ u_ws RX1 TX1 5, w ∈ vr_T := by decide +kernel
theorem wx_X2 : ∀ w ∈ u_ws RX2 TX2 9, w ∈ vr_T := by decide +kernel
theorem wx_X3 : ∀ w ∈ u_ws RX3 TX3 10, w ∈ vr_T := by decide +kernel
theorem wx_X4 : ∀ w ∈ u_ws RX4 TX4 2, w ∈ vr_T := by decide +kernel
theorem wx_X5 : ∀ w ∈ u_ws RX5 TX5 5, w ∈ vr_T := by decide +kernel
theorem wx_X6 : ∀ w ∈ u_ws RX6 TX6 3, w ∈ vr_T := by decide +kernel
theorem wx_X7 : ∀ w ∈ u_ws RX7 TX7 11, w ∈ vr_T := by decide +kernel
theorem wx_X8 : ∀ w ∈ u_ws RX8 TX8 8, w ∈ vr_T := by decide +kernel
theorem wx_X9 : ∀ w ∈ u_ws RX9 TX9 8, w ∈ vr_T := by decide +kernel
theorem wx_X10 : ∀ w ∈ u_ws RX10 TX10 26, w ∈ vr_T := by decide +kernel
end
section
abbrev vr_M : Type := Nat → Nat → Int
def vr_I (e : Int) : Int32 := Int32.ofInt e
abbrev vr_R (e : Int) : Prop := -2147483648 ≤ e ∧ e < 2147483648
def vr_gd {α : Type} (c : Prop) [Decidable c] (P : Option α) : Option α := if c then P else none
def vr_u (μ : vr_M) (k j : Nat) (v : Int) : vr_M := fun a b => if a = k ∧ b = j then v else μ a b
/-- the cells: kind (0..10: the class's place in vwCl; 11: ints; 12: booleans), length -/
def vr_lay : List (Nat × Nat) := [(9,0),
  (8,0),(2,0),(11,8),(11,8),(11,8),(11,8),(11,8),(3,0),(11,10),(11,10),(11,120),(11,5),(4,0),(11,120),(4,0),(11,12),(4,0),(11,10),(4,0),(11,8),(4,0),(11,8),
  (8,0),(2,0),(11,8),(11,8),(11,8),(11,8),(11,8),(3,0),(11,10),(11,10),(11,120),(11,5),(4,0),(11,120),(4,0),(11,12),(4,0),(11,10),(4,0),(11,8),(4,0),(11,8),
  (3,0),(11,10),(11,10),(11,120),(11,5),
  (6,0),
  (7,0),(2,0),(11,8),(11,8),(11,8),(11,8),(11,8),(0,0),(11,8),(11,8),(11,8),(11,256),
  (1,0),(11,1809),(11,200),
  (5,0),(11,20),
  (10,0),(11,933),(11,933),(11,933),(11,5),(12,64),(11,8),(11,5226),(11,201),(11,20)]
def vr_kd (k : Nat) : Nat := (vr_lay.getD k (99, 0)).1
def vr_ln (k : Nat) : Nat := (vr_lay.getD k (99, 0)).2
def vr_fl (kd k : Nat) : List (Option Nat) := match kd with
  | 0 => [some 52, some 8, none, none, some 59, some 60, some 61, some 62]
  | 1 => [some 51, some 64, some 65, none, none]
  | 2 => [some (k+1), some (k+2), some (k+3), some (k+4), some (k+5), none, none, none, none]
  | 3 => [some (k+1), some (k+2), some (k+3), none, none, none, none, none, none, some (k+4)]
  | 4 => [some (k+1), none]
  | 5 => [some 67, none, none, none, none]
  | 6 => [some 13, some 45, none]
  | 7 => [some 2, some 8, some 52, some 58, none, none, none, none, none, none, none]
  | 8 => [some (k+1), some (k+7), some (k+12), some (k+14), some (k+16), some (k+18), some (k+20), none]
  | 9 => [some 1, some 23, none, some 45, some 50, some 51, some 63, some 66]
  | _ => [none, some 69, some 70, some 71, none, none, none, none, none, none, some 72, some 73, none, none, some 74, none, none, none, none, some 75, some 76, some 77, none, none, none, none]
/-- ad, D, the classes of int[] and boolean[], the static rows' addresses, Strings' and their bytes' addresses, where the new cells begin -/
abbrev vr_G : Type := (Nat → Nat) × va_G × (ClassId × ClassId) × (Nat → Nat) × ((Nat → Nat) × (Nat → Nat)) × Nat
abbrev vr_ad (G : vr_G) : Nat → Nat := G.1
abbrev vr_DD (G : vr_G) : va_G := G.2.1
abbrev vr_cI (G : vr_G) : ClassId := G.2.2.1.1
abbrev vr_cZ (G : vr_G) : ClassId := G.2.2.1.2
abbrev vr_sa (G : vr_G) : Nat → Nat := G.2.2.2.1
abbrev vr_ak (G : vr_G) : Nat → Nat := G.2.2.2.2.1.1
abbrev vr_av (G : vr_G) : Nat → Nat := G.2.2.2.2.1.2
abbrev vr_x0 (G : vr_G) : Nat := G.2.2.2.2.2
def vr_A (G : vr_G) : Nat → Prop := fun q => vr_x0 G ≤ q
def vr_vs (ad : Nat → Nat) (f : Nat → Int) : List (Option Nat) → Nat → List Value
  | [], _ => []
  | some j :: t, i => .ref (ad j) :: vr_vs ad f t (i + 1)
  | none :: t, i => .int (vr_I (f i)) :: vr_vs ad f t (i + 1)
def vr_cell (G : vr_G) (μ : vr_M) (k : Nat) : va_E :=
  if vr_kd k = 11 then .inl (vr_cI G, vr_ln k, .inl (fun j => vr_I (μ k j)))
  else if vr_kd k = 12 then .inl (vr_cZ G, vr_ln k, .inl (fun j => vr_I (μ k j)))
  else .inr (vr_kd k, vr_vs (vr_ad G) (μ k) (vr_fl (vr_kd k) k) 0)
def vr_ws (G : vr_G) (μ : vr_M) : va_W := (List.range 78).map (fun k => (vr_ad G k, vr_cell G μ k))
theorem vr_ws_at {G : vr_G} {μ : vr_M} {k : Nat} (h : k < 78) : (vr_ws G μ)[k]? = some (vr_ad G k, vr_cell G μ k) := by
  simp [vr_ws, List.getElem?_map, List.getElem?_range h]
theorem vr_vs_len (ad : Nat → Nat) (f : Nat → Int) : ∀ (l : List (Option Nat)) (i : Nat), (vr_vs ad f l i).length = l.length
  | [], _ => rfl
  | some j :: t, i => by simp [vr_vs, vr_vs_len ad f t]
  | none :: t, i => by simp [vr_vs, vr_vs_len ad f t]
theorem vr_vs_get (ad : Nat → Nat) (f : Nat → Int) : ∀ (l : List (Option Nat)) (o i : Nat) (x : Option Nat), l[i]? = some x → (vr_vs ad f l o)[i]? = some (match x with | some j => Value.ref (ad j) | none => Value.int (vr_I (f (o + i))))
  | [], _, _, _, h => by simp at h
  | y :: t, o, 0, x, h => by
    simp at h; subst h
    cases y <;> simp [vr_vs]
  | y :: t, o, i + 1, x, h => by
    have h' : t[i]? = some x := by simpa using h
    have e : o + (i + 1) = o + 1 + i := by omega
    cases y <;> simp [vr_vs, vr_vs_get ad f t (o + 1) i x h', e]
theorem vr_vs_set (ad : Nat → Nat) (f : Nat → Int) (v : Int) : ∀ (l : List (Option Nat)) (o i : Nat), l[i]? = some none → vr_vs ad (fun b => if b = o + i then v else f b) l o = (vr_vs ad f l o).set i (.int (vr_I v))
  | [], _, _, h => by simp at h
  | y :: t, o, 0, h => by
    simp at h; subst h
    have : ∀ (t : List (Option Nat)) (q : Nat), o < q → vr_vs ad (fun b => if b = o + 0 then v else f b) t q = vr_vs ad f t q := by
      intro t
      induction t with
      | nil => intro q _; rfl
      | cons z t ih =>
        intro q hq
        have h1 : ¬ q = o := by omega
        cases z <;> simp [vr_vs, h1] <;> exact ih _ (by omega)
    simp [vr_vs]
    exact this t (o + 1) (by omega)
  | y :: t, o, i + 1, h => by
    have h' : t[i]? = some none := by simpa using h
    have e : o + (i + 1) = o + 1 + i := by omega
    have h1 : ¬ o = o + 1 + i := by omega
    cases y <;> simp [vr_vs, e, h1, vr_vs_set ad f v t (o + 1) i h']
theorem vr_u_other {μ : vr_M} {k j a : Nat} {v : Int} (h : a ≠ k) : vr_u μ k j v a = μ a := by
  funext b; simp [vr_u, h]
theorem vr_cell_other {G : vr_G} {μ : vr_M} {k j a : Nat} {v : Int} (h : a ≠ k) : vr_cell G (vr_u μ k j v) a = vr_cell G μ a := by
  unfold vr_cell; rw [vr_u_other h]
theorem vr_ws_set {G : vr_G} {μ : vr_M} {k j : Nat} {v : Int} (h : k < 78) : (vr_ws G μ).set k (vr_ad G k, vr_cell G (vr_u μ k j v) k) = vr_ws G (vr_u μ k j v) := by
  apply List.ext_getElem?
  intro i
  by_cases hi : i < 78
  · rw [vr_ws_at hi, List.getElem?_set]
    by_cases e : k = i
    · subst e
      have : k < (vr_ws G μ).length := by simp [vr_ws]; exact h
      simp [this]
    · simp only [e, if_false]
      rw [vr_ws_at hi, vr_cell_other (fun q => e q.symm)]
  · have h1 : (vr_ws G (vr_u μ k j v)).length = 78 := by simp [vr_ws]
    have h2 : ((vr_ws G μ).set k (vr_ad G k, vr_cell G (vr_u μ k j v) k)).length = 78 := by simp [vr_ws]
    rw [List.getElem?_eq_none (by omega), List.getElem?_eq_none (by omega)]
theorem vr_cell_obj {G : vr_G} {μ : vr_M} {k ci : Nat} (h : vr_kd k = ci) (hc : ci < 11) : vr_cell G μ k = .inr (ci, vr_vs (vr_ad G) (μ k) (vr_fl ci k) 0) := by
  unfold vr_cell; rw [h, if_neg (by omega), if_neg (by omega)]
theorem vr_cell_arr {G : vr_G} {μ : vr_M} {k n : Nat} (h : vr_kd k = 11) (hn : vr_ln k = n) : vr_cell G μ k = .inl (vr_cI G, n, .inl (fun j => vr_I (μ k j))) := by
  unfold vr_cell; rw [if_pos h, hn]
theorem vr_cell_arz {G : vr_G} {μ : vr_M} {k n : Nat} (h : vr_kd k = 12) (hn : vr_ln k = n) : vr_cell G μ k = .inl (vr_cZ G, n, .inl (fun j => vr_I (μ k j))) := by
  unfold vr_cell; rw [if_neg (by omega), if_pos h, hn]
/-! numbers -/
theorem vr_toInt {e : Int} (h : vr_R e) : (vr_I e).toInt = e := Int32.toInt_ofInt_of_le h.1 h.2
theorem vr_lt {a b : Int} (ha : vr_R a) (hb : vr_R b) : vr_I a < vr_I b ↔ a < b := by rw [Int32.lt_iff_toInt_lt, vr_toInt ha, vr_toInt hb]
theorem vr_le {a b : Int} (ha : vr_R a) (hb : vr_R b) : vr_I a ≤ vr_I b ↔ a ≤ b := by rw [Int32.le_iff_toInt_le, vr_toInt ha, vr_toInt hb]
theorem vr_eq {a b : Int} (ha : vr_R a) (hb : vr_R b) : vr_I a = vr_I b ↔ a = b := by rw [← Int32.toInt_inj, vr_toInt ha, vr_toInt hb]
theorem vr_cl {e : Int} (h0 : 0 ≤ e) (h : e < 2147483648) : (vr_I e).toNatClampNeg = e.toNat := Int32.toNatClampNeg_ofInt_of_le (by omega) h
theorem vr_in' {e : Int} {n : Nat} (h : 0 ≤ e ∧ e < n) (hn : n < 2147483648) : vp_in (vr_I e) n := by
  have hR : vr_R e := ⟨by omega, by omega⟩
  unfold vp_in
  rw [vr_cl h.1 (by omega), show (0 : Int32) = vr_I 0 from rfl, vr_lt hR ⟨by decide, by decide⟩]
  omega
theorem vr_ln_lt (k : Nat) : vr_ln k < 2147483648 := by
  have h : ∀ q ∈ vr_lay, q.2 < 2147483648 := by decide +kernel
  unfold vr_ln
  rw [List.getD_eq_getElem?_getD]
  rcases e : vr_lay[k]? with _ | q
  · decide
  · exact h q (List.mem_of_getElem? e)
theorem vr_add (a b : Int) : vr_I a + vr_I b = vr_I (a + b) := (Int32.ofInt_add a b).symm
theorem vr_sub (a b : Int) : vr_I a - vr_I b = vr_I (a - b) := (Int32.ofInt_sub a b).symm
theorem vr_mul (a b : Int) : vr_I a * vr_I b = vr_I (a * b) := (Int32.ofInt_mul a b).symm
theorem vr_neg (a : Int) : - vr_I a = vr_I (-a) := Int32.neg_ofInt
theorem vr_div {a b : Int} (ha : vr_R a) (hb : vr_R b) : vr_I a / vr_I b = vr_I (a.tdiv b) := by
  apply Int32.toInt_inj.mp
  rw [Int32.toInt_div, vr_toInt ha, vr_toInt hb]
  show _ = (Int32.ofInt (a.tdiv b)).toInt
  rw [Int32.toInt_ofInt]
theorem vr_rem {a b : Int} (ha : vr_R a) (hb : vr_R b) : vr_I a - vr_I a / vr_I b * vr_I b = vr_I (a.tmod b) := by
  rw [vr_div ha hb, vr_mul, vr_sub]
  congr 1
  have h1 := Int.tmod_def a b
  have h2 := Int.mul_comm b (a.tdiv b)
  omega
end
section

/-- what stays through all calls: the classes, the nest's links, the static rows, the Strings -/
def vr_StrTab : List (String × Nat × String × List Int32) := [
  ("VillageRounds$Reader", 63, "give ", [103, 105, 118, 101, 32]), ("VillageRounds$Reader", 65, "wear ", [119, 101, 97, 114, 32]),
  ("VillageRounds$Reader", 67, "walk ", [119, 97, 108, 107, 32]), ("VillageRounds$Reader", 69, "move ", [109, 111, 118, 101, 32]),
  ("VillageRounds$Reader", 71, "grow ", [103, 114, 111, 119, 32]), ("VillageRounds$Reader", 73, "dry ", [100, 114, 121, 32]),
  ("VillageRounds$Reader", 121, "cyswp", [99, 121, 115, 119, 112]), ("VillageRounds$Reader", 123, "<=>", [60, 61, 62]),
  ("VillageRounds$Reader", 104, "0123456789", [48, 49, 50, 51, 52, 53, 54, 55, 56, 57]),
  ("VillageRoundsModel", 114, "row ", [114, 111, 119, 32]), ("VillageRoundsModel", 120, "ive ", [105, 118, 101, 32]),
  ("VillageRoundsModel", 96, "cyswp", [99, 121, 115, 119, 112]), ("VillageRoundsModel", 102, "<=>", [60, 61, 62]),
  ("VillageRoundsModel", 122, "alk ", [97, 108, 107, 32]), ("VillageRoundsModel", 124, "ear ", [101, 97, 114, 32]),
  ("VillageRoundsModel", 126, "move ", [109, 111, 118, 101, 32]), ("VillageRoundsModel", 128, "dry ", [100, 114, 121, 32])]
def vr_Str (i : Nat) : String × Nat × String × List Int32 := vr_StrTab.getD i ("", 0, "", [])
def vr_by (i : Nat) : List Int32 := (vr_Str i).2.2.2
def vr_ABOVE : List Int := [-1, 0, 0, 0, 3, 2, 2]
def vr_BODIES : List Int := [1, 2, 3, 11, 0, 0, 0, 21, 0, 0, 0, 31, 0, 0, 41, 51, 0, 0, 0, 61, 0]
def vr_St (G : vr_G) (U : State) (H : Heap) (i : Nat) : Prop := va_O "java/lang/String" (vr_ak G i) (vr_A G) U H ∧ va_OF "java/lang/String" "coder" "B" (.int 0) (vr_ak G i) (vr_A G) U H ∧ va_OF "java/lang/String" "value" "[B" (.ref (vr_av G i)) (vr_ak G i) (vr_A G) U H ∧ va_T .byte (vr_av G i) (vr_by i).length (fun j => .int ((vr_by i).getD j 0)) (vr_A G) U H
def vr_Ev (G : vr_G) (U : State) (H : Heap) : Prop :=
  va_K (vr_DD G) vwCl [(vr_cI G, .int), (vr_cZ G, .boolean)] U
  ∧ ((∀ i j, i < 78 → j < 78 → vr_ad G i = vr_ad G j → i = j) ∧ ∀ i, i < 78 → vr_x0 G ≤ vr_ad G i)
  ∧ (va_Nw (.fieldLinkNest RX5 32 "VillageRounds" "BODIES" "[I" "VillageRounds") U ∧ va_Nw (.fieldLinkNest RX5 39 "VillageRounds" "ABOVE" "[I" "VillageRounds") U)
  ∧ (va_Z "VillageRounds" "ABOVE" "[I" (.ref (vr_sa G 0)) (vr_A G) U H ∧ va_T .int (vr_sa G 0) 7 (fun j => .int (vr_I (vr_ABOVE.getD j 0))) (vr_A G) U H)
  ∧ (va_Z "VillageRounds" "BODIES" "[I" (.ref (vr_sa G 1)) (vr_A G) U H ∧ va_T .int (vr_sa G 1) 21 (fun j => .int (vr_I (vr_BODIES.getD j 0))) (vr_A G) U H)
  ∧ (va_Z "java/lang/String" "COMPACT_STRINGS" "Z" (.int 1) (vr_A G) U H ∧ ∃ q, va_Z "jdk/internal/util/Preconditions" "SIOOBE_FORMATTER" "Ljava/util/function/BiFunction;" q (vr_A G) U H ∧ q.category = 1)
  ∧ (∀ i, i < 17 → vr_St G U H i)
  ∧ ∀ i, i < 17 → vk_R (vr_Str i).1 (vr_Str i).2.1 (vr_Str i).2.2.1 (vr_ak G i) U
theorem vr_St.keep {G : vr_G} {u U : State} {H H1 : Heap} {i : Nat} (h : vr_St G u H i) (hv : u.vm.Alike U.vm) (hk : ∀ a : Nat, a < H.size → ¬ vr_A G a → H1[a]? = H[a]?) : vr_St G U H1 i :=
  ⟨(h.1.moved hv).kept hk, (h.2.1.moved hv).kept hk, (h.2.2.1.moved hv).kept hk, (h.2.2.2.moved hv).kept hk⟩
theorem vr_Ev.warm {G : vr_G} {s U : State} {H H1 : Heap} (h : vr_Ev G s H) (hW : s.WarmedH U.vm) (hk : ∀ a : Nat, a < H.size → ¬ vr_A G a → H1[a]? = H[a]?) : vr_Ev G U H1 := by
  obtain ⟨h1, h2, ⟨h3, h4⟩, ⟨h5, h6⟩, ⟨h7, h8⟩, ⟨h9, q, h10, hq⟩, h11, h12⟩ := h
  have hv := hW.alike
  exact ⟨va_K.moved hv h1, h2, ⟨h3.warmF hW, h4.warmF hW⟩, ⟨(h5.moved hv).kept hk, (h6.moved hv).kept hk⟩, ⟨(h7.moved hv).kept hk, (h8.moved hv).kept hk⟩, ⟨(h9.moved hv).kept hk, q, (h10.moved hv).kept hk, hq⟩, fun i hi => (h11 i hi).keep hv hk, fun i hi => (h12 i hi).warm hW⟩
theorem vr_Ev.same {G : vr_G} {s U : State} {H : Heap} (h : vr_Ev G s H) (hv : s.vm = U.vm) : vr_Ev G U H := by
  obtain ⟨h1, h2, ⟨h3, h4⟩, ⟨h5, h6⟩, ⟨h7, h8⟩, ⟨h9, q, h10, hq⟩, h11, h12⟩ := h
  have ha : s.vm.Alike U.vm := by rw [hv]; exact Vm.Alike.refl _
  have hk : ∀ a : Nat, a < H.size → ¬ vr_A G a → H[a]? = H[a]? := fun _ _ _ => rfl
  exact ⟨va_K.moved ha h1, h2, ⟨va_Nw.same rfl hv h3, va_Nw.same rfl hv h4⟩, ⟨h5.moved ha, h6.moved ha⟩, ⟨h7.moved ha, h8.moved ha⟩, ⟨h9.moved ha, q, h10.moved ha, hq⟩, fun i hi => (h11 i hi).keep ha hk, fun i hi => (h12 i hi).same hv.symm⟩
theorem vr_dis {G : vr_G} {U : State} {H : Heap} (h : vr_Ev G U H) (μ : vr_M) : va_D (vr_A G) (vr_ws G μ) := by
  have at' : ∀ (i : Nat) (q : Nat × va_E), (vr_ws G μ)[i]? = some q → i < 78 ∧ q.1 = vr_ad G i := by
    intro i q hq
    have hl : i < (vr_ws G μ).length := (List.getElem?_eq_some_iff.mp hq).1
    have hi : i < 78 := by simpa [vr_ws] using hl
    rw [vr_ws_at hi] at hq
    cases hq
    exact ⟨hi, rfl⟩
  refine ⟨fun i j p q hp hq e => ?_, fun i q hq => ?_⟩
  · obtain ⟨a1, a2⟩ := at' i p hp
    obtain ⟨b1, b2⟩ := at' j q hq
    exact h.2.1.1 i j a1 b1 (by rw [← a2, ← b2, e])
  · obtain ⟨a1, a2⟩ := at' i q hq
    rw [a2]
    exact h.2.1.2 i a1
def vr_Cx (p : Program) (s : State) (m : MethodId) (args : Array Value) (meth : Method) (c : Code) (own : String) (cc : ByteArray) (nL : Nat) (ret : Option FieldType) (G : vr_G) : Prop :=
  p.tables.exec = Jvm.exec ∧ c.code = cc ∧ c.maxLocals = nL ∧ s.vm.findClass own = some m.cls ∧ (∀ w ∈ vr_T, w.before args s = true) ∧ vr_Ev G s s.heap ∧ meth.sig.returnType = ret ∧ meth.locks = false
def vr_J {ρ : Type} (p : Program) (l : Launch) (e : Env) (R : Room) (s : State) (m : MethodId) (args : Array Value) (below : List Frame) (meth : Method) (c : Code) (nL : Nat) (G : vr_G) (Z : ρ → State → Prop) (pc : Nat) (lv : List (Nat × Value)) (st : List Value) (μ : vr_M) (P : Option ρ) : Prop :=
  ∀ r : ρ, P = some r → ∀ (H : Heap) (locs : List Loc) (ls : Array Slot), va_P (vr_DD G) vwCl (vr_ws G μ) H → va_S (vr_A G) s.heap H locs → lv_has ls nL lv → W p l e R s m args below meth c H locs 0 0 (Z r) (F0 m pc ls st)
def vr_QI (G : vr_G) (r : Int × vr_M) : Array Value → State → Outcome → State → Prop := va_Qi (fun (v : Int32) (_ : Unit) => v = vr_I r.1 ∧ vr_R r.1) (fun _ t => va_P (vr_DD G) vwCl (vr_ws G r.2) t.heap) (vr_A G)
def vr_QV (G : vr_G) (r : Int × vr_M) : Array Value → State → Outcome → State → Prop := va_Qv (fun (_ : Unit) => True) (fun _ t => va_P (vr_DD G) vwCl (vr_ws G r.2) t.heap) (vr_A G)
def vr_QL (G : vr_G) (r : Int64 × vr_M) : Array Value → State → Outcome → State → Prop := va_Ql (fun (v : Int64) (_ : Unit) => v = r.1) (fun _ t => va_P (vr_DD G) vwCl (vr_ws G r.2) t.heap) (vr_A G)
def vr_QS (G : vr_G) (r : Nat × vr_M) : Array Value → State → Outcome → State → Prop := va_Qr (fun (_ : Unit) => True) (fun _ a t => a = vr_ak G r.1 ∧ va_P (vr_DD G) vwCl (vr_ws G r.2) t.heap) (vr_A G)
def vr_Z {ρ : Type} (Q : ρ → Array Value → State → Outcome → State → Prop) (G : vr_G) (args : Array Value) (s : State) (below : List Frame) (r : ρ) : State → Prop := MQ below (Q r) args s 0 0 (vr_A G)
def vr_C {ρ : Type} (Q : ρ → Array Value → State → Outcome → State → Prop) (l : Launch) (y : MethodName) (bytes : ByteArray) (maxL : Nat) (ret : Option FieldType) (rm : Room) (G : vr_G) (av : List Value) (μ : vr_M) (P : Option ρ) : Prop :=
  ∀ r : ρ, P = some r → Met l y (.code y bytes maxL ret :: vr_T) rm (va_Pc av (fun U => va_P (vr_DD G) vwCl (vr_ws G μ) U.heap ∧ vr_Ev G U U.heap)) (Q r) 0 0 (vr_A G)
abbrev vr_CI (l : Launch) (y : MethodName) (bytes : ByteArray) (maxL : Nat) (ret : Option FieldType) (rm : Room) (G : vr_G) (av : List Value) (μ : vr_M) (P : Option (Int × vr_M)) : Prop := vr_C (vr_QI G) l y bytes maxL ret rm G av μ P
abbrev vr_CV (l : Launch) (y : MethodName) (bytes : ByteArray) (maxL : Nat) (ret : Option FieldType) (rm : Room) (G : vr_G) (av : List Value) (μ : vr_M) (P : Option (Int × vr_M)) : Prop := vr_C (vr_QV G) l y bytes maxL ret rm G av μ P
abbrev vr_CL (l : Launch) (y : MethodName) (bytes : ByteArray) (maxL : Nat) (ret : Option FieldType) (rm : Room) (G : vr_G) (av : List Value) (μ : vr_M) (P : Option (Int64 × vr_M)) : Prop := vr_C (vr_QL G) l y bytes maxL ret rm G av μ P
abbrev vr_CS (l : Launch) (y : MethodName) (bytes : ByteArray) (maxL : Nat) (ret : Option FieldType) (rm : Room) (G : vr_G) (av : List Value) (μ : vr_M) (P : Option (Nat × vr_M)) : Prop := vr_C (vr_QS G) l y bytes maxL ret rm G av μ P
theorem vr_start {ρ : Type} {Q : ρ → Array Value → State → Outcome → State → Prop} {l : Launch} {y : MethodName} {own : String} {bytes : ByteArray} {maxL : Nat} {ret : Option FieldType} {rm : Room} {G : vr_G} {av : List Value} {μ : vr_M} {P : Option ρ} (hy : plainName y.cls = true) (hown : y.cls = own) (hlen : (lg_sl av).length ≤ maxL)
    (body : ∀ (p : Program) (e : Env) (s : State) (m : MethodId) (args : Array Value) (below : List Frame) (meth : Method) (c : Code), vr_Cx p s m args meth c own bytes maxL ret G → vr_J p l e rm s m args below meth c maxL G (vr_Z Q G args s below) 0 (lv_args 0 av) [] μ P) : vr_C Q l y bytes maxL ret rm G av μ P := by
  intro r hr
  refine Met.ofW (cc := bytes) (maxL := maxL) (ret := ret) hy rfl ?_
  intro p e s m args below meth c s₁ B hml hv
  obtain ⟨rfl, hP, hE⟩ := hv
  have hts := atoms_spec (ws := .code y bytes maxL ret :: vr_T) B.pre
  have ho : s.vm.findClass own = some m.cls := by rw [← hown]; exact findClass_of_methodNamed B.named
  have K := body p e s m av.toArray below meth c ⟨B.exec, B.bytes, hml, ho, fun w hw => hts w (List.mem_cons_of_mem _ hw), hE, B.returns, B.notSynchronized⟩ r hr s.heap [] _ hP va_S.rf (lv_entry av hlen)
  rw [lg_entry_eq]
  exact K
/-- what a call of y needs of the tables -/
def vr_Mi (C : String) (y : MethodName) (bytes : ByteArray) (maxL : Nat) (ret : Option FieldType) (n : Nat) : Prop := (Cond.instanceMethod y ∈ vr_T ∧ Cond.selects C y y ∈ vr_T ∧ Cond.initialized C ∈ vr_T ∧ Cond.code y bytes maxL ret ∈ vr_T) ∧ y.cls = C ∧ y.cls ≠ "java/lang/invoke/MethodHandle" ∧ y.cls ≠ "java/lang/invoke/VarHandle" ∧ (parseMethodDescriptor y.desc).map (fun d => d.parameters.length) = some n
def vr_Ms (y : MethodName) (bytes : ByteArray) (maxL : Nat) (ret : Option FieldType) (n : Nat) : Prop := (Cond.static y ∈ vr_T ∧ Cond.initialized y.cls ∈ vr_T ∧ Cond.code y bytes maxL ret ∈ vr_T) ∧ y.cls ≠ "java/lang/invoke/MethodHandle" ∧ y.cls ≠ "java/lang/invoke/VarHandle" ∧ (parseMethodDescriptor y.desc).map (fun d => d.parameters.length) = some n
theorem vr_gV {own C : String} {index : Nat} {y : MethodName} {bytes : ByteArray} {maxL : Nat} {ret : Option FieldType} (hl : Cond.methodLink own index y ∈ vr_T) (h : Cond.instanceMethod y ∈ vr_T ∧ Cond.selects C y y ∈ vr_T ∧ Cond.initialized C ∈ vr_T ∧ Cond.code y bytes maxL ret ∈ vr_T) : GoodIn vr_T (wsV own index C y (.code y bytes maxL ret :: vr_T)) := by
  intro w hw
  rcases List.mem_append.mp hw with q | q
  · have h9 : w ∈ vr_T := by
      simp only [List.mem_cons, List.not_mem_nil, or_false] at q
      rcases q with rfl | rfl | rfl | rfl
      · exact hl
      · exact h.1
      · exact h.2.1
      · exact h.2.2.1
    exact ⟨h9, vr_good h9⟩
  · exact vr_GTT h.2.2.2 w q
theorem vr_gS {own : String} {index : Nat} {y : MethodName} {bytes : ByteArray} {maxL : Nat} {ret : Option FieldType} (hl : Cond.methodLink own index y ∈ vr_T) (h : Cond.static y ∈ vr_T ∧ Cond.initialized y.cls ∈ vr_T ∧ Cond.code y bytes maxL ret ∈ vr_T) : GoodIn vr_T (va_wsS own index y (.code y bytes maxL ret :: vr_T)) := by
  intro w hw
  rcases List.mem_append.mp hw with q | q
  · have h9 : w ∈ vr_T := by
      simp only [List.mem_cons, List.not_mem_nil, or_false] at q
      rcases q with rfl | rfl | rfl
      · exact hl
      · exact h.1
      · exact h.2.1
    exact ⟨h9, vr_good h9⟩
  · exact vr_GTT h.2.2 w q
section VRJ
variable {ρ : Type} {p : Program} {l : Launch} {e : Env} {R : Room} {s : State} {m : MethodId} {args : Array Value} {below : List Frame} {meth : Method} {c : Code} {nL : Nat} {G : vr_G} {Z : ρ → State → Prop} {pc : Nat} {lv lv' : List (Nat × Value)} {st : List Value} {μ : vr_M} {P P1 P2 : Option ρ} {own : String} {cc : ByteArray} {ret : Option FieldType}

def vr_and (x y : Int) : Int := (vr_I x &&& vr_I y).toInt
def vr_or (x y : Int) : Int := (vr_I x ||| vr_I y).toInt
def vr_xor (x y : Int) : Int := (vr_I x ^^^ vr_I y).toInt
def vr_shl (x y : Int) : Int := (vr_I x <<< (vr_I y &&& 31)).toInt
def vr_shr (x y : Int) : Int := (vr_I x >>> (vr_I y &&& 31)).toInt
def vr_ushr (x y : Int) : Int := ((vr_I x).toUInt32 >>> ((vr_I y).toUInt32 &&& Int32.toUInt32 31)).toInt32.toInt
def vr_i2c (x : Int) : Int := ((vr_I x).toUInt32 % 65536).toInt32.toInt
def vr_i2b (x : Int) : Int := (vr_I x).toInt8.toInt32.toInt
def vr_l2i (x : Int64) : Int := x.toInt32.toInt
def vr_lcmp (x y : Int64) : Int := (lg_cmp x y).toInt
def vr_lrem (x y : Int64) : Int64 := x - x / y * y
def vr_lushr (x : Int64) (y : Int) : Int64 := (x.toUInt64 >>> ((vr_I y).toInt64.toUInt64 &&& Int64.toUInt64 63)).toInt64
def vr_lshl (x : Int64) (y : Int) : Int64 := x <<< ((vr_I y).toInt64 &&& 63)
def vr_lshr (x : Int64) (y : Int) : Int64 := x >>> ((vr_I y).toInt64 &&& 63)
def vr_i2l (x : Int) : Int64 := (vr_I x).toInt64
theorem vr_IT (x : Int32) : vr_I x.toInt = x := Int32.ofInt_toInt x
theorem vr_RT (x : Int32) : vr_R x.toInt := ⟨Int32.le_toInt x, Int32.toInt_lt x⟩
def vr_sw {α : Type} (x lo : Int) (Ps : List (Option α)) (Pd : Option α) : Option α := if lo ≤ x then Ps.getD (x - lo).toNat Pd else Pd
def vr_ls {α : Type} (x : Int) : List (Int × Option α) → Option α → Option α
  | [], Pd => Pd
  | (a, Pa) :: t, Pd => if x = a then Pa else vr_ls x t Pd

theorem jr_gd {q : Prop} [Decidable q] (kk : q → vr_J p l e R s m args below meth c nL G Z pc lv st μ P) : vr_J p l e R s m args below meth c nL G Z pc lv st μ (vr_gd q P) := by
  intro r hr
  unfold vr_gd at hr
  split at hr
  · rename_i h; exact kk h r hr
  · cases hr
theorem jr_none : vr_J p l e R s m args below meth c nL G Z pc lv st μ none := fun r hr => by cases hr
theorem jr_sub (ks : List Nat) (hl : lv_pick lv ks = lv') (kk : vr_J p l e R s m args below meth c nL G Z pc lv' st μ P) : vr_J p l e R s m args below meth c nL G Z pc lv st μ P := fun r hr H locs ls hP hS h => kk r hr H locs ls hP hS (lv_sub h ks hl)
theorem jr_iconst (C0 : vr_Cx p s m args meth c own cc nL ret G) {n : Int} (hdg : decode cc pc = .ok (.iconst n, 1))  (kk : vr_J p l e R s m args below meth c nL G Z (pc + 1) lv (.int (vr_I n) :: st) μ P) : vr_J p l e R s m args below meth c nL G Z pc lv st μ P := fun r hr H locs ls hP hS hl => lv_iconst C0.1 C0.2.1 hdg rfl (kk r hr H locs ls hP hS hl)
theorem jr_bipush (C0 : vr_Cx p s m args meth c own cc nL ret G) {n : Int} (hdg : decode cc pc = .ok (.bipush n, 2)) (hv : (Int8.ofInt n).toInt32 = vr_I n) (kk : vr_J p l e R s m args below meth c nL G Z (pc + 2) lv (.int (vr_I n) :: st) μ P) : vr_J p l e R s m args below meth c nL G Z pc lv st μ P := fun r hr H locs ls hP hS hl => lv_bipush C0.1 C0.2.1 hdg hv (kk r hr H locs ls hP hS hl)
theorem jr_sipush (C0 : vr_Cx p s m args meth c own cc nL ret G) {n : Int} (hdg : decode cc pc = .ok (.sipush n, 3)) (hv : (Int16.ofInt n).toInt32 = vr_I n) (kk : vr_J p l e R s m args below meth c nL G Z (pc + 3) lv (.int (vr_I n) :: st) μ P) : vr_J p l e R s m args below meth c nL G Z pc lv st μ P := fun r hr H locs ls hP hS hl => lv_sipush C0.1 C0.2.1 hdg hv (kk r hr H locs ls hP hS hl)
theorem jr_iload_n (C0 : vr_Cx p s m args meth c own cc nL ret G) {k : Fin 4} {i : Nat} {x : Int} (q : Nat) (hdg : decode cc pc = .ok (.iload_n k, 1)) (hi : (k : Nat) = i) (hq : lv[q]? = some (i, .int (vr_I x))) (kk : vr_J p l e R s m args below meth c nL G Z (pc + 1) lv (.int (vr_I x) :: st) μ P) : vr_J p l e R s m args below meth c nL G Z pc lv st μ P := fun r hr H locs ls hP hS hl => lv_iload_n C0.1 C0.2.1 hdg hi (lv_at hl q hq) (kk r hr H locs ls hP hS hl)
theorem jr_iload (C0 : vr_Cx p s m args meth c own cc nL ret G) {i : Nat} {x : Int} (q : Nat) (hdg : decode cc pc = .ok (.iload i, 2)) (hq : lv[q]? = some (i, .int (vr_I x))) (kk : vr_J p l e R s m args below meth c nL G Z (pc + 2) lv (.int (vr_I x) :: st) μ P) : vr_J p l e R s m args below meth c nL G Z pc lv st μ P := fun r hr H locs ls hP hS hl => lv_iload C0.1 C0.2.1 hdg (lv_at hl q hq) (kk r hr H locs ls hP hS hl)
theorem jr_lload_n (C0 : vr_Cx p s m args meth c own cc nL ret G) {k : Fin 4} {i : Nat} {x : Int64} (q : Nat) (hdg : decode cc pc = .ok (.lload_n k, 1)) (hi : (k : Nat) = i) (hq : lv[q]? = some (i, .long x)) (kk : vr_J p l e R s m args below meth c nL G Z (pc + 1) lv (.long x :: st) μ P) : vr_J p l e R s m args below meth c nL G Z pc lv st μ P := fun r hr H locs ls hP hS hl => lv_lload_n C0.1 C0.2.1 hdg hi (lv_at hl q hq) (kk r hr H locs ls hP hS hl)
theorem jr_lload (C0 : vr_Cx p s m args meth c own cc nL ret G) {i : Nat} {x : Int64} (q : Nat) (hdg : decode cc pc = .ok (.lload i, 2)) (hq : lv[q]? = some (i, .long x)) (kk : vr_J p l e R s m args below meth c nL G Z (pc + 2) lv (.long x :: st) μ P) : vr_J p l e R s m args below meth c nL G Z pc lv st μ P := fun r hr H locs ls hP hS hl => lv_lload C0.1 C0.2.1 hdg (lv_at hl q hq) (kk r hr H locs ls hP hS hl)
theorem jr_aload_n (C0 : vr_Cx p s m args meth c own cc nL ret G) {k : Fin 4} {i : Nat} {x : Nat} (q : Nat) (hdg : decode cc pc = .ok (.aload_n k, 1)) (hi : (k : Nat) = i) (hq : lv[q]? = some (i, .ref x)) (kk : vr_J p l e R s m args below meth c nL G Z (pc + 1) lv (.ref x :: st) μ P) : vr_J p l e R s m args below meth c nL G Z pc lv st μ P := fun r hr H locs ls hP hS hl => lv_aload_n C0.1 C0.2.1 hdg hi (lv_at hl q hq) (kk r hr H locs ls hP hS hl)
theorem jr_aload (C0 : vr_Cx p s m args meth c own cc nL ret G) {i : Nat} {x : Nat} (q : Nat) (hdg : decode cc pc = .ok (.aload i, 2)) (hq : lv[q]? = some (i, .ref x)) (kk : vr_J p l e R s m args below meth c nL G Z (pc + 2) lv (.ref x :: st) μ P) : vr_J p l e R s m args below meth c nL G Z pc lv st μ P := fun r hr H locs ls hP hS hl => lv_aload C0.1 C0.2.1 hdg (lv_at hl q hq) (kk r hr H locs ls hP hS hl)
theorem jr_istore_n (C0 : vr_Cx p s m args meth c own cc nL ret G) {k : Fin 4} {i : Nat} {x : Int} (hdg : decode cc pc = .ok (.istore_n k, 1)) (hi : (k : Nat) = i) (hn : i < nL) (h9 : (i, (.int (vr_I x) : Value)) :: lv.filter (fun q => !(q.1 == i) && !(q.1 + 1 == i && q.2.category == 2)) = lv') (kk : vr_J p l e R s m args below meth c nL G Z (pc + 1) lv' st μ P) : vr_J p l e R s m args below meth c nL G Z pc lv (.int (vr_I x) :: st) μ P := fun r hr H locs ls hP hS hl => lv_istore_n C0.1 C0.2.1 hdg hi hl hn h9 (fun ls' hl' => kk r hr H locs ls' hP hS hl')
theorem jr_istore (C0 : vr_Cx p s m args meth c own cc nL ret G) {i : Nat} {x : Int} (hdg : decode cc pc = .ok (.istore i, 2)) (hn : i < nL) (h9 : (i, (.int (vr_I x) : Value)) :: lv.filter (fun q => !(q.1 == i) && !(q.1 + 1 == i && q.2.category == 2)) = lv') (kk : vr_J p l e R s m args below meth c nL G Z (pc + 2) lv' st μ P) : vr_J p l e R s m args below meth c nL G Z pc lv (.int (vr_I x) :: st) μ P := fun r hr H locs ls hP hS hl => lv_istore C0.1 C0.2.1 hdg hl hn h9 (fun ls' hl' => kk r hr H locs ls' hP hS hl')
theorem jr_astore_n (C0 : vr_Cx p s m args meth c own cc nL ret G) {k : Fin 4} {i : Nat} {x : Nat} (hdg : decode cc pc = .ok (.astore_n k, 1)) (hi : (k : Nat) = i) (hn : i < nL) (h9 : (i, (.ref x : Value)) :: lv.filter (fun q => !(q.1 == i) && !(q.1 + 1 == i && q.2.category == 2)) = lv') (kk : vr_J p l e R s m args below meth c nL G Z (pc + 1) lv' st μ P) : vr_J p l e R s m args below meth c nL G Z pc lv (.ref x :: st) μ P := fun r hr H locs ls hP hS hl => lv_astore_n C0.1 C0.2.1 hdg hi hl hn h9 (fun ls' hl' => kk r hr H locs ls' hP hS hl')
theorem jr_lstore_n (C0 : vr_Cx p s m args meth c own cc nL ret G) {k : Fin 4} {i : Nat} {x : Int64} (hdg : decode cc pc = .ok (.lstore_n k, 1)) (hi : (k : Nat) = i) (hn : i + 1 < nL) (h9 : (i, (.long x : Value)) :: lv.filter (fun q => !(q.1 == i) && (!(q.1 == i + 1) && !(q.1 + 1 == i && q.2.category == 2))) = lv') (kk : vr_J p l e R s m args below meth c nL G Z (pc + 1) lv' st μ P) : vr_J p l e R s m args below meth c nL G Z pc lv (.long x :: st) μ P := fun r hr H locs ls hP hS hl => lv_lstore_n C0.1 C0.2.1 hdg hi hl hn h9 (fun ls' hl' => kk r hr H locs ls' hP hS hl')
theorem jr_lstore (C0 : vr_Cx p s m args meth c own cc nL ret G) {i : Nat} {x : Int64} (hdg : decode cc pc = .ok (.lstore i, 2)) (hn : i + 1 < nL) (h9 : (i, (.long x : Value)) :: lv.filter (fun q => !(q.1 == i) && (!(q.1 == i + 1) && !(q.1 + 1 == i && q.2.category == 2))) = lv') (kk : vr_J p l e R s m args below meth c nL G Z (pc + 2) lv' st μ P) : vr_J p l e R s m args below meth c nL G Z pc lv (.long x :: st) μ P := fun r hr H locs ls hP hS hl => lv_lstore C0.1 C0.2.1 hdg hl hn h9 (fun ls' hl' => kk r hr H locs ls' hP hS hl')
theorem jr_iinc (C0 : vr_Cx p s m args meth c own cc nL ret G) {i q : Nat} {n x : Int} (hdg : decode cc pc = .ok (.iinc i n, 3)) (hq : lv[q]? = some (i, .int (vr_I x))) (hn : i < nL) (h9 : (i, (Value.int (vr_I (x + n)))) :: lv.filter (fun q => !(q.1 == i) && !(q.1 + 1 == i && q.2.category == 2)) = lv') (kk : vr_J p l e R s m args below meth c nL G Z (pc + 3) lv' st μ P) : vr_J p l e R s m args below meth c nL G Z pc lv st μ P := fun r hr H locs ls hP hS hl => lv_iinc (k := q) C0.1 C0.2.1 hdg hl hq (vr_add x n) hn h9 (fun ls' hl' => kk r hr H locs ls' hP hS hl')
theorem jr_iadd (C0 : vr_Cx p s m args meth c own cc nL ret G) {x y : Int}  (hdg : decode cc pc = .ok (.iadd, 1)) (kk : vr_J p l e R s m args below meth c nL G Z (pc + 1) lv (.int (vr_I (x + y)) :: st) μ P) : vr_J p l e R s m args below meth c nL G Z pc lv (.int (vr_I y) :: .int (vr_I x) :: st) μ P := fun r hr H locs ls hP hS hl => lv_iadd C0.1 C0.2.1 hdg (by rw [vr_add]; exact kk r hr H locs ls hP hS hl)
theorem jr_isub (C0 : vr_Cx p s m args meth c own cc nL ret G) {x y : Int}  (hdg : decode cc pc = .ok (.isub, 1)) (kk : vr_J p l e R s m args below meth c nL G Z (pc + 1) lv (.int (vr_I (x - y)) :: st) μ P) : vr_J p l e R s m args below meth c nL G Z pc lv (.int (vr_I y) :: .int (vr_I x) :: st) μ P := fun r hr H locs ls hP hS hl => lv_isub C0.1 C0.2.1 hdg (by rw [vr_sub]; exact kk r hr H locs ls hP hS hl)
theorem jr_imul (C0 : vr_Cx p s m args meth c own cc nL ret G) {x y : Int}  (hdg : decode cc pc = .ok (.imul, 1)) (kk : vr_J p l e R s m args below meth c nL G Z (pc + 1) lv (.int (vr_I (x * y)) :: st) μ P) : vr_J p l e R s m args below meth c nL G Z pc lv (.int (vr_I y) :: .int (vr_I x) :: st) μ P := fun r hr H locs ls hP hS hl => lv_imul C0.1 C0.2.1 hdg (by rw [vr_mul]; exact kk r hr H locs ls hP hS hl)
theorem jr_idiv (C0 : vr_Cx p s m args meth c own cc nL ret G) {x y : Int} (hx : vr_R x) (hy : vr_R y) (h0 : ¬ y = 0) (hdg : decode cc pc = .ok (.idiv, 1)) (kk : vr_J p l e R s m args below meth c nL G Z (pc + 1) lv (.int (vr_I (x.tdiv y)) :: st) μ P) : vr_J p l e R s m args below meth c nL G Z pc lv (.int (vr_I y) :: .int (vr_I x) :: st) μ P := fun r hr H locs ls hP hS hl => lv_idiv C0.1 C0.2.1 hdg (fun q => h0 ((vr_eq hy ⟨by decide, by decide⟩).mp q)) (by rw [vr_div hx hy]; exact kk r hr H locs ls hP hS hl)
theorem jr_irem (C0 : vr_Cx p s m args meth c own cc nL ret G) {x y : Int} (hx : vr_R x) (hy : vr_R y) (h0 : ¬ y = 0) (hdg : decode cc pc = .ok (.irem, 1)) (kk : vr_J p l e R s m args below meth c nL G Z (pc + 1) lv (.int (vr_I (x.tmod y)) :: st) μ P) : vr_J p l e R s m args below meth c nL G Z pc lv (.int (vr_I y) :: .int (vr_I x) :: st) μ P := fun r hr H locs ls hP hS hl => lv_irem C0.1 C0.2.1 hdg (fun q => h0 ((vr_eq hy ⟨by decide, by decide⟩).mp q)) (by rw [vr_rem hx hy]; exact kk r hr H locs ls hP hS hl)
theorem jr_iand (C0 : vr_Cx p s m args meth c own cc nL ret G) {x y : Int}  (hdg : decode cc pc = .ok (.iand, 1)) (kk : vr_J p l e R s m args below meth c nL G Z (pc + 1) lv (.int (vr_I (vr_and x y)) :: st) μ P) : vr_J p l e R s m args below meth c nL G Z pc lv (.int (vr_I y) :: .int (vr_I x) :: st) μ P := fun r hr H locs ls hP hS hl => lv_iand C0.1 C0.2.1 hdg (by have h := kk r hr H locs ls hP hS hl; unfold vr_and at h; rw [vr_IT] at h; exact h)
theorem jr_ior (C0 : vr_Cx p s m args meth c own cc nL ret G) {x y : Int}  (hdg : decode cc pc = .ok (.ior, 1)) (kk : vr_J p l e R s m args below meth c nL G Z (pc + 1) lv (.int (vr_I (vr_or x y)) :: st) μ P) : vr_J p l e R s m args below meth c nL G Z pc lv (.int (vr_I y) :: .int (vr_I x) :: st) μ P := fun r hr H locs ls hP hS hl => lv_ior C0.1 C0.2.1 hdg (by have h := kk r hr H locs ls hP hS hl; unfold vr_or at h; rw [vr_IT] at h; exact h)
theorem jr_ixor (C0 : vr_Cx p s m args meth c own cc nL ret G) {x y : Int}  (hdg : decode cc pc = .ok (.ixor, 1)) (kk : vr_J p l e R s m args below meth c nL G Z (pc + 1) lv (.int (vr_I (vr_xor x y)) :: st) μ P) : vr_J p l e R s m args below meth c nL G Z pc lv (.int (vr_I y) :: .int (vr_I x) :: st) μ P := fun r hr H locs ls hP hS hl => lv_ixor C0.1 C0.2.1 hdg (by have h := kk r hr H locs ls hP hS hl; unfold vr_xor at h; rw [vr_IT] at h; exact h)
theorem jr_ishl (C0 : vr_Cx p s m args meth c own cc nL ret G) {x y : Int}  (hdg : decode cc pc = .ok (.ishl, 1)) (kk : vr_J p l e R s m args below meth c nL G Z (pc + 1) lv (.int (vr_I (vr_shl x y)) :: st) μ P) : vr_J p l e R s m args below meth c nL G Z pc lv (.int (vr_I y) :: .int (vr_I x) :: st) μ P := fun r hr H locs ls hP hS hl => lv_ishl C0.1 C0.2.1 hdg (by have h := kk r hr H locs ls hP hS hl; unfold vr_shl at h; rw [vr_IT] at h; exact h)
theorem jr_ishr (C0 : vr_Cx p s m args meth c own cc nL ret G) {x y : Int}  (hdg : decode cc pc = .ok (.ishr, 1)) (kk : vr_J p l e R s m args below meth c nL G Z (pc + 1) lv (.int (vr_I (vr_shr x y)) :: st) μ P) : vr_J p l e R s m args below meth c nL G Z pc lv (.int (vr_I y) :: .int (vr_I x) :: st) μ P := fun r hr H locs ls hP hS hl => lv_ishr C0.1 C0.2.1 hdg (by have h := kk r hr H locs ls hP hS hl; unfold vr_shr at h; rw [vr_IT] at h; exact h)
theorem jr_iushr (C0 : vr_Cx p s m args meth c own cc nL ret G) {x y : Int}  (hdg : decode cc pc = .ok (.iushr, 1)) (kk : vr_J p l e R s m args below meth c nL G Z (pc + 1) lv (.int (vr_I (vr_ushr x y)) :: st) μ P) : vr_J p l e R s m args below meth c nL G Z pc lv (.int (vr_I y) :: .int (vr_I x) :: st) μ P := fun r hr H locs ls hP hS hl => lv_iushr C0.1 C0.2.1 hdg rfl (by have h := kk r hr H locs ls hP hS hl; unfold vr_ushr at h; rw [vr_IT] at h; exact h)
theorem jr_ineg (C0 : vr_Cx p s m args meth c own cc nL ret G) {x : Int} (hdg : decode cc pc = .ok (.ineg, 1)) (kk : vr_J p l e R s m args below meth c nL G Z (pc + 1) lv (.int (vr_I (-x)) :: st) μ P) : vr_J p l e R s m args below meth c nL G Z pc lv (.int (vr_I x) :: st) μ P := fun r hr H locs ls hP hS hl => lv_ineg C0.1 C0.2.1 hdg (by rw [vr_neg]; exact kk r hr H locs ls hP hS hl)
theorem jr_i2c (C0 : vr_Cx p s m args meth c own cc nL ret G) {x : Int} (hdg : decode cc pc = .ok (.i2c, 1)) (kk : vr_J p l e R s m args below meth c nL G Z (pc + 1) lv (.int (vr_I (vr_i2c x)) :: st) μ P) : vr_J p l e R s m args below meth c nL G Z pc lv (.int (vr_I x) :: st) μ P := fun r hr H locs ls hP hS hl => lv_i2c C0.1 C0.2.1 hdg rfl (by have h := kk r hr H locs ls hP hS hl; unfold vr_i2c at h; rw [vr_IT] at h; exact h)
theorem jr_i2b (C0 : vr_Cx p s m args meth c own cc nL ret G) {x : Int} (hdg : decode cc pc = .ok (.i2b, 1)) (kk : vr_J p l e R s m args below meth c nL G Z (pc + 1) lv (.int (vr_I (vr_i2b x)) :: st) μ P) : vr_J p l e R s m args below meth c nL G Z pc lv (.int (vr_I x) :: st) μ P := fun r hr H locs ls hP hS hl => lv_i2b C0.1 C0.2.1 hdg rfl (by have h := kk r hr H locs ls hP hS hl; unfold vr_i2b at h; rw [vr_IT] at h; exact h)
theorem jr_i2l (C0 : vr_Cx p s m args meth c own cc nL ret G) {x : Int} (hdg : decode cc pc = .ok (.i2l, 1)) (kk : vr_J p l e R s m args below meth c nL G Z (pc + 1) lv (.long (vr_i2l x) :: st) μ P) : vr_J p l e R s m args below meth c nL G Z pc lv (.int (vr_I x) :: st) μ P := fun r hr H locs ls hP hS hl => lv_i2l C0.1 C0.2.1 hdg rfl (kk r hr H locs ls hP hS hl)
theorem jr_l2i (C0 : vr_Cx p s m args meth c own cc nL ret G) {x : Int64} (hdg : decode cc pc = .ok (.l2i, 1)) (kk : vr_J p l e R s m args below meth c nL G Z (pc + 1) lv (.int (vr_I (vr_l2i x)) :: st) μ P) : vr_J p l e R s m args below meth c nL G Z pc lv (.long x :: st) μ P := fun r hr H locs ls hP hS hl => lv_l2i C0.1 C0.2.1 hdg rfl (by have h := kk r hr H locs ls hP hS hl; unfold vr_l2i at h; rw [vr_IT] at h; exact h)
theorem jr_lcmp (C0 : vr_Cx p s m args meth c own cc nL ret G) {x y : Int64} (hdg : decode cc pc = .ok (.lcmp, 1)) (kk : vr_J p l e R s m args below meth c nL G Z (pc + 1) lv (.int (vr_I (vr_lcmp x y)) :: st) μ P) : vr_J p l e R s m args below meth c nL G Z pc lv (.long y :: .long x :: st) μ P := fun r hr H locs ls hP hS hl => W.lcmp C0.1 C0.2.1 hdg (by have h := kk r hr H locs ls hP hS hl; unfold vr_lcmp at h; rw [vr_IT] at h; exact h)
theorem jr_ladd (C0 : vr_Cx p s m args meth c own cc nL ret G) {x y : Int64} (hdg : decode cc pc = .ok (.ladd, 1)) (kk : vr_J p l e R s m args below meth c nL G Z (pc + 1) lv (.long (x + y) :: st) μ P) : vr_J p l e R s m args below meth c nL G Z pc lv (.long y :: .long x :: st) μ P := fun r hr H locs ls hP hS hl => lv_ladd C0.1 C0.2.1 hdg (kk r hr H locs ls hP hS hl)
theorem jr_lmul (C0 : vr_Cx p s m args meth c own cc nL ret G) {x y : Int64} (hdg : decode cc pc = .ok (.lmul, 1)) (kk : vr_J p l e R s m args below meth c nL G Z (pc + 1) lv (.long (x * y) :: st) μ P) : vr_J p l e R s m args below meth c nL G Z pc lv (.long y :: .long x :: st) μ P := fun r hr H locs ls hP hS hl => lv_lmul C0.1 C0.2.1 hdg (kk r hr H locs ls hP hS hl)
theorem jr_land (C0 : vr_Cx p s m args meth c own cc nL ret G) {x y : Int64} (hdg : decode cc pc = .ok (.land, 1)) (kk : vr_J p l e R s m args below meth c nL G Z (pc + 1) lv (.long (x &&& y) :: st) μ P) : vr_J p l e R s m args below meth c nL G Z pc lv (.long y :: .long x :: st) μ P := fun r hr H locs ls hP hS hl => lv_land C0.1 C0.2.1 hdg (kk r hr H locs ls hP hS hl)
theorem jr_lor (C0 : vr_Cx p s m args meth c own cc nL ret G) {x y : Int64} (hdg : decode cc pc = .ok (.lor, 1)) (kk : vr_J p l e R s m args below meth c nL G Z (pc + 1) lv (.long (x ||| y) :: st) μ P) : vr_J p l e R s m args below meth c nL G Z pc lv (.long y :: .long x :: st) μ P := fun r hr H locs ls hP hS hl => lv_lor C0.1 C0.2.1 hdg (kk r hr H locs ls hP hS hl)
theorem jr_lxor (C0 : vr_Cx p s m args meth c own cc nL ret G) {x y : Int64} (hdg : decode cc pc = .ok (.lxor, 1)) (kk : vr_J p l e R s m args below meth c nL G Z (pc + 1) lv (.long (x ^^^ y) :: st) μ P) : vr_J p l e R s m args below meth c nL G Z pc lv (.long y :: .long x :: st) μ P := fun r hr H locs ls hP hS hl => lv_lxor C0.1 C0.2.1 hdg (kk r hr H locs ls hP hS hl)
theorem jr_ldiv (C0 : vr_Cx p s m args meth c own cc nL ret G) {x y : Int64} (h0 : ¬ y = 0) (hdg : decode cc pc = .ok (.ldiv, 1)) (kk : vr_J p l e R s m args below meth c nL G Z (pc + 1) lv (.long (x / y) :: st) μ P) : vr_J p l e R s m args below meth c nL G Z pc lv (.long y :: .long x :: st) μ P := fun r hr H locs ls hP hS hl => lv_ldiv C0.1 C0.2.1 hdg h0 (kk r hr H locs ls hP hS hl)
theorem jr_lrem (C0 : vr_Cx p s m args meth c own cc nL ret G) {x y : Int64} (h0 : ¬ y = 0) (hdg : decode cc pc = .ok (.lrem, 1)) (kk : vr_J p l e R s m args below meth c nL G Z (pc + 1) lv (.long (vr_lrem x y) :: st) μ P) : vr_J p l e R s m args below meth c nL G Z pc lv (.long y :: .long x :: st) μ P := fun r hr H locs ls hP hS hl => lv_lrem C0.1 C0.2.1 hdg h0 (kk r hr H locs ls hP hS hl)
theorem jr_lushr (C0 : vr_Cx p s m args meth c own cc nL ret G) {x : Int64} {y : Int} (hdg : decode cc pc = .ok (.lushr, 1)) (kk : vr_J p l e R s m args below meth c nL G Z (pc + 1) lv (.long (vr_lushr x y) :: st) μ P) : vr_J p l e R s m args below meth c nL G Z pc lv (.int (vr_I y) :: .long x :: st) μ P := fun r hr H locs ls hP hS hl => lv_lushr C0.1 C0.2.1 hdg rfl (kk r hr H locs ls hP hS hl)
theorem jr_lshl (C0 : vr_Cx p s m args meth c own cc nL ret G) {x : Int64} {y : Int} (hdg : decode cc pc = .ok (.lshl, 1)) (kk : vr_J p l e R s m args below meth c nL G Z (pc + 1) lv (.long (vr_lshl x y) :: st) μ P) : vr_J p l e R s m args below meth c nL G Z pc lv (.int (vr_I y) :: .long x :: st) μ P := fun r hr H locs ls hP hS hl => lv_lshl C0.1 C0.2.1 hdg rfl (kk r hr H locs ls hP hS hl)
theorem jr_lshr (C0 : vr_Cx p s m args meth c own cc nL ret G) {x : Int64} {y : Int} (hdg : decode cc pc = .ok (.lshr, 1)) (kk : vr_J p l e R s m args below meth c nL G Z (pc + 1) lv (.long (vr_lshr x y) :: st) μ P) : vr_J p l e R s m args below meth c nL G Z pc lv (.int (vr_I y) :: .long x :: st) μ P := fun r hr H locs ls hP hS hl => lv_lshr C0.1 C0.2.1 hdg rfl (kk r hr H locs ls hP hS hl)
theorem jr_lconst (C0 : vr_Cx p s m args meth c own cc nL ret G) {n : Fin 2} {v : Int64} (hdg : decode cc pc = .ok (.lconst n, 1)) (hv : Int64.ofNat (n : Nat) = v) (kk : vr_J p l e R s m args below meth c nL G Z (pc + 1) lv (.long v :: st) μ P) : vr_J p l e R s m args below meth c nL G Z pc lv st μ P := fun r hr H locs ls hP hS hl => lv_lconst C0.1 C0.2.1 hdg hv (kk r hr H locs ls hP hS hl)
theorem jr_ldc (C0 : vr_Cx p s m args meth c own cc nL ret G) {index : Nat} {n : Int} {v : Int32} (hc : Cond.constant own index v ∈ vr_T) (hv : v = vr_I n) (hdg : decode cc pc = .ok (.ldc index, 2)) (kk : vr_J p l e R s m args below meth c nL G Z (pc + 2) lv (.int (vr_I n) :: st) μ P) : vr_J p l e R s m args below meth c nL G Z pc lv st μ P := fun r hr H locs ls hP hS hl => lv_ldc C0.1 C0.2.1 C0.2.2.2.1 (C0.2.2.2.2.1 _ hc) hdg (by rw [hv]; exact kk r hr H locs ls hP hS hl)
theorem jr_ldcw (C0 : vr_Cx p s m args meth c own cc nL ret G) {index : Nat} {n : Int} {v : Int32} (hc : Cond.constant own index v ∈ vr_T) (hv : v = vr_I n) (hdg : decode cc pc = .ok (.ldc_w index, 3)) (kk : vr_J p l e R s m args below meth c nL G Z (pc + 3) lv (.int (vr_I n) :: st) μ P) : vr_J p l e R s m args below meth c nL G Z pc lv st μ P := fun r hr H locs ls hP hS hl => lv_ldcw C0.1 C0.2.1 C0.2.2.2.1 (C0.2.2.2.2.1 _ hc) hdg (by rw [hv]; exact kk r hr H locs ls hP hS hl)
theorem jr_ldc2 (C0 : vr_Cx p s m args meth c own cc nL ret G) {index : Nat} {v : Int64} (hc : Cond.constantLong own index v ∈ vr_T) (hdg : decode cc pc = .ok (.ldc2_w index, 3)) (kk : vr_J p l e R s m args below meth c nL G Z (pc + 3) lv (.long v :: st) μ P) : vr_J p l e R s m args below meth c nL G Z pc lv st μ P := fun r hr H locs ls hP hS hl => lv_ldc2 C0.1 C0.2.1 C0.2.2.2.1 (C0.2.2.2.2.1 _ hc) hdg (kk r hr H locs ls hP hS hl)
theorem jr_ldcS (C0 : vr_Cx p s m args meth c own cc nL ret G) {index i : Nat} (hi : i < 17) (ho : (vr_Str i).1 = own) (hx : (vr_Str i).2.1 = index) (hdg : decode cc pc = .ok (.ldc index, 2)) (kk : vr_J p l e R s m args below meth c nL G Z (pc + 2) lv (.ref (vr_ak G i) :: st) μ P) : vr_J p l e R s m args below meth c nL G Z pc lv st μ P := by
  intro r hr H locs ls hP hS hl
  subst hx
  have h := C0.2.2.2.2.2.1.2.2.2.2.2.2.2 i hi
  rw [ho] at h
  exact va_ldcS C0.1 C0.2.1 C0.2.2.2.1 h hdg (kk r hr H locs ls hP hS hl)
theorem jr_dup (C0 : vr_Cx p s m args meth c own cc nL ret G) {va : Value} (hva : va.category = 1) (hdg : decode cc pc = .ok (.dup, 1)) (kk : vr_J p l e R s m args below meth c nL G Z (pc + 1) lv (va :: va :: st) μ P) : vr_J p l e R s m args below meth c nL G Z pc lv (va :: st) μ P := fun r hr H locs ls hP hS hl => lv_dup C0.1 C0.2.1 hdg hva (kk r hr H locs ls hP hS hl)
theorem jr_dup2 (C0 : vr_Cx p s m args meth c own cc nL ret G) {va vb : Value} (hva : va.category = 1) (hvb : vb.category = 1) (hdg : decode cc pc = .ok (.dup2, 1)) (kk : vr_J p l e R s m args below meth c nL G Z (pc + 1) lv (vb :: va :: vb :: va :: st) μ P) : vr_J p l e R s m args below meth c nL G Z pc lv (vb :: va :: st) μ P := fun r hr H locs ls hP hS hl => lv_dup2_11 C0.1 C0.2.1 hdg hvb hva (kk r hr H locs ls hP hS hl)
theorem jr_pop (C0 : vr_Cx p s m args meth c own cc nL ret G) {va : Value} (hva : va.category = 1) (hdg : decode cc pc = .ok (.pop, 1)) (kk : vr_J p l e R s m args below meth c nL G Z (pc + 1) lv st μ P) : vr_J p l e R s m args below meth c nL G Z pc lv (va :: st) μ P := fun r hr H locs ls hP hS hl => lv_pop C0.1 C0.2.1 hdg hva (kk r hr H locs ls hP hS hl)
theorem jr_goto (C0 : vr_Cx p s m args meth c own cc nL ret G) {off : Int} {tgt : Nat} (hdg : decode cc pc = .ok (.goto off, 3)) (ht : (pc : Int) + off = (tgt : Int)) (kk : vr_J p l e R s m args below meth c nL G Z tgt lv st μ P) : vr_J p l e R s m args below meth c nL G Z pc lv st μ P := fun r hr H locs ls hP hS hl => lv_goto C0.1 C0.2.1 hdg ht (kk r hr H locs ls hP hS hl)
theorem vr_eq0 {x : Int} (hx : vr_R x) : vr_I x = 0 ↔ x = 0 := vr_eq (b := 0) hx ⟨by decide, by decide⟩
theorem vr_lt0 {x : Int} (hx : vr_R x) : vr_I x < 0 ↔ x < 0 := vr_lt (b := 0) hx ⟨by decide, by decide⟩
theorem vr_ge0 {x : Int} (hx : vr_R x) : 0 ≤ vr_I x ↔ 0 ≤ x := vr_le (a := 0) ⟨by decide, by decide⟩ hx
theorem vr_gt0 {x : Int} (hx : vr_R x) : 0 < vr_I x ↔ 0 < x := vr_lt (a := 0) ⟨by decide, by decide⟩ hx
theorem vr_le0 {x : Int} (hx : vr_R x) : vr_I x ≤ 0 ↔ x ≤ 0 := vr_le (b := 0) hx ⟨by decide, by decide⟩
theorem jr_if_eq (C0 : vr_Cx p s m args meth c own cc nL ret G) {x : Int} (hx : vr_R x) {off : Int} {tgt : Nat} (hdg : decode cc pc = .ok (.ifCond .eq off, 3)) (ht : (pc : Int) + off = (tgt : Int)) (kk1 : vr_J p l e R s m args below meth c nL G Z tgt lv st μ P1) (kk2 : vr_J p l e R s m args below meth c nL G Z (pc + 3) lv st μ P2) : vr_J p l e R s m args below meth c nL G Z pc lv (.int (vr_I x) :: st) μ (if x = 0 then P1 else P2) := fun r hr H locs ls hP hS hl => lv_if_eq C0.1 C0.2.1 hdg ht (fun q => kk1 r (by rw [if_pos ((vr_eq0 hx).mp q)] at hr; exact hr) H locs ls hP hS hl) (fun q => kk2 r (by rw [if_neg (fun z => q ((vr_eq0 hx).mpr z))] at hr; exact hr) H locs ls hP hS hl)
theorem jr_icmp_eq (C0 : vr_Cx p s m args meth c own cc nL ret G) {x y : Int} (hx : vr_R x) (hy : vr_R y) {off : Int} {tgt : Nat} (hdg : decode cc pc = .ok (.if_icmp .eq off, 3)) (ht : (pc : Int) + off = (tgt : Int)) (kk1 : vr_J p l e R s m args below meth c nL G Z tgt lv st μ P1) (kk2 : vr_J p l e R s m args below meth c nL G Z (pc + 3) lv st μ P2) : vr_J p l e R s m args below meth c nL G Z pc lv (.int (vr_I y) :: .int (vr_I x) :: st) μ (if x = y then P1 else P2) := fun r hr H locs ls hP hS hl => lv_icmp_eq C0.1 C0.2.1 hdg ht (fun q => kk1 r (by rw [if_pos ((vr_eq hx hy).mp q)] at hr; exact hr) H locs ls hP hS hl) (fun q => kk2 r (by rw [if_neg (fun z => q ((vr_eq hx hy).mpr z))] at hr; exact hr) H locs ls hP hS hl)
theorem jr_if_ne (C0 : vr_Cx p s m args meth c own cc nL ret G) {x : Int} (hx : vr_R x) {off : Int} {tgt : Nat} (hdg : decode cc pc = .ok (.ifCond .ne off, 3)) (ht : (pc : Int) + off = (tgt : Int)) (kk1 : vr_J p l e R s m args below meth c nL G Z tgt lv st μ P1) (kk2 : vr_J p l e R s m args below meth c nL G Z (pc + 3) lv st μ P2) : vr_J p l e R s m args below meth c nL G Z pc lv (.int (vr_I x) :: st) μ (if ¬ x = 0 then P1 else P2) := fun r hr H locs ls hP hS hl => lv_if_ne C0.1 C0.2.1 hdg ht (fun q => kk1 r (by rw [if_pos (fun z => q ((vr_eq0 hx).mpr z))] at hr; exact hr) H locs ls hP hS hl) (fun q => kk2 r (by rw [if_neg (fun z => z ((vr_eq0 hx).mp q))] at hr; exact hr) H locs ls hP hS hl)
theorem jr_icmp_ne (C0 : vr_Cx p s m args meth c own cc nL ret G) {x y : Int} (hx : vr_R x) (hy : vr_R y) {off : Int} {tgt : Nat} (hdg : decode cc pc = .ok (.if_icmp .ne off, 3)) (ht : (pc : Int) + off = (tgt : Int)) (kk1 : vr_J p l e R s m args below meth c nL G Z tgt lv st μ P1) (kk2 : vr_J p l e R s m args below meth c nL G Z (pc + 3) lv st μ P2) : vr_J p l e R s m args below meth c nL G Z pc lv (.int (vr_I y) :: .int (vr_I x) :: st) μ (if ¬ x = y then P1 else P2) := fun r hr H locs ls hP hS hl => lv_icmp_ne C0.1 C0.2.1 hdg ht (fun q => kk1 r (by rw [if_pos (fun z => q ((vr_eq hx hy).mpr z))] at hr; exact hr) H locs ls hP hS hl) (fun q => kk2 r (by rw [if_neg (fun z => z ((vr_eq hx hy).mp q))] at hr; exact hr) H locs ls hP hS hl)
theorem jr_if_lt (C0 : vr_Cx p s m args meth c own cc nL ret G) {x : Int} (hx : vr_R x) {off : Int} {tgt : Nat} (hdg : decode cc pc = .ok (.ifCond .lt off, 3)) (ht : (pc : Int) + off = (tgt : Int)) (kk1 : vr_J p l e R s m args below meth c nL G Z tgt lv st μ P1) (kk2 : vr_J p l e R s m args below meth c nL G Z (pc + 3) lv st μ P2) : vr_J p l e R s m args below meth c nL G Z pc lv (.int (vr_I x) :: st) μ (if x < 0 then P1 else P2) := fun r hr H locs ls hP hS hl => lv_if_lt C0.1 C0.2.1 hdg ht (fun q => kk1 r (by rw [if_pos ((vr_lt0 hx).mp q)] at hr; exact hr) H locs ls hP hS hl) (fun q => kk2 r (by rw [if_neg (fun z => q ((vr_lt0 hx).mpr z))] at hr; exact hr) H locs ls hP hS hl)
theorem jr_icmp_lt (C0 : vr_Cx p s m args meth c own cc nL ret G) {x y : Int} (hx : vr_R x) (hy : vr_R y) {off : Int} {tgt : Nat} (hdg : decode cc pc = .ok (.if_icmp .lt off, 3)) (ht : (pc : Int) + off = (tgt : Int)) (kk1 : vr_J p l e R s m args below meth c nL G Z tgt lv st μ P1) (kk2 : vr_J p l e R s m args below meth c nL G Z (pc + 3) lv st μ P2) : vr_J p l e R s m args below meth c nL G Z pc lv (.int (vr_I y) :: .int (vr_I x) :: st) μ (if x < y then P1 else P2) := fun r hr H locs ls hP hS hl => lv_icmp_lt C0.1 C0.2.1 hdg ht (fun q => kk1 r (by rw [if_pos ((vr_lt hx hy).mp q)] at hr; exact hr) H locs ls hP hS hl) (fun q => kk2 r (by rw [if_neg (fun z => q ((vr_lt hx hy).mpr z))] at hr; exact hr) H locs ls hP hS hl)
theorem jr_if_ge (C0 : vr_Cx p s m args meth c own cc nL ret G) {x : Int} (hx : vr_R x) {off : Int} {tgt : Nat} (hdg : decode cc pc = .ok (.ifCond .ge off, 3)) (ht : (pc : Int) + off = (tgt : Int)) (kk1 : vr_J p l e R s m args below meth c nL G Z tgt lv st μ P1) (kk2 : vr_J p l e R s m args below meth c nL G Z (pc + 3) lv st μ P2) : vr_J p l e R s m args below meth c nL G Z pc lv (.int (vr_I x) :: st) μ (if 0 ≤ x then P1 else P2) := fun r hr H locs ls hP hS hl => lv_if_ge C0.1 C0.2.1 hdg ht (fun q => kk1 r (by rw [if_pos ((vr_ge0 hx).mp q)] at hr; exact hr) H locs ls hP hS hl) (fun q => kk2 r (by rw [if_neg (fun z => q ((vr_ge0 hx).mpr z))] at hr; exact hr) H locs ls hP hS hl)
theorem jr_icmp_ge (C0 : vr_Cx p s m args meth c own cc nL ret G) {x y : Int} (hx : vr_R x) (hy : vr_R y) {off : Int} {tgt : Nat} (hdg : decode cc pc = .ok (.if_icmp .ge off, 3)) (ht : (pc : Int) + off = (tgt : Int)) (kk1 : vr_J p l e R s m args below meth c nL G Z tgt lv st μ P1) (kk2 : vr_J p l e R s m args below meth c nL G Z (pc + 3) lv st μ P2) : vr_J p l e R s m args below meth c nL G Z pc lv (.int (vr_I y) :: .int (vr_I x) :: st) μ (if y ≤ x then P1 else P2) := fun r hr H locs ls hP hS hl => lv_icmp_ge C0.1 C0.2.1 hdg ht (fun q => kk1 r (by rw [if_pos ((vr_le hy hx).mp q)] at hr; exact hr) H locs ls hP hS hl) (fun q => kk2 r (by rw [if_neg (fun z => q ((vr_le hy hx).mpr z))] at hr; exact hr) H locs ls hP hS hl)
theorem jr_if_gt (C0 : vr_Cx p s m args meth c own cc nL ret G) {x : Int} (hx : vr_R x) {off : Int} {tgt : Nat} (hdg : decode cc pc = .ok (.ifCond .gt off, 3)) (ht : (pc : Int) + off = (tgt : Int)) (kk1 : vr_J p l e R s m args below meth c nL G Z tgt lv st μ P1) (kk2 : vr_J p l e R s m args below meth c nL G Z (pc + 3) lv st μ P2) : vr_J p l e R s m args below meth c nL G Z pc lv (.int (vr_I x) :: st) μ (if 0 < x then P1 else P2) := fun r hr H locs ls hP hS hl => lv_if_gt C0.1 C0.2.1 hdg ht (fun q => kk1 r (by rw [if_pos ((vr_gt0 hx).mp q)] at hr; exact hr) H locs ls hP hS hl) (fun q => kk2 r (by rw [if_neg (fun z => q ((vr_gt0 hx).mpr z))] at hr; exact hr) H locs ls hP hS hl)
theorem jr_icmp_gt (C0 : vr_Cx p s m args meth c own cc nL ret G) {x y : Int} (hx : vr_R x) (hy : vr_R y) {off : Int} {tgt : Nat} (hdg : decode cc pc = .ok (.if_icmp .gt off, 3)) (ht : (pc : Int) + off = (tgt : Int)) (kk1 : vr_J p l e R s m args below meth c nL G Z tgt lv st μ P1) (kk2 : vr_J p l e R s m args below meth c nL G Z (pc + 3) lv st μ P2) : vr_J p l e R s m args below meth c nL G Z pc lv (.int (vr_I y) :: .int (vr_I x) :: st) μ (if y < x then P1 else P2) := fun r hr H locs ls hP hS hl => lv_icmp_gt C0.1 C0.2.1 hdg ht (fun q => kk1 r (by rw [if_pos ((vr_lt hy hx).mp q)] at hr; exact hr) H locs ls hP hS hl) (fun q => kk2 r (by rw [if_neg (fun z => q ((vr_lt hy hx).mpr z))] at hr; exact hr) H locs ls hP hS hl)
theorem jr_if_le (C0 : vr_Cx p s m args meth c own cc nL ret G) {x : Int} (hx : vr_R x) {off : Int} {tgt : Nat} (hdg : decode cc pc = .ok (.ifCond .le off, 3)) (ht : (pc : Int) + off = (tgt : Int)) (kk1 : vr_J p l e R s m args below meth c nL G Z tgt lv st μ P1) (kk2 : vr_J p l e R s m args below meth c nL G Z (pc + 3) lv st μ P2) : vr_J p l e R s m args below meth c nL G Z pc lv (.int (vr_I x) :: st) μ (if x ≤ 0 then P1 else P2) := fun r hr H locs ls hP hS hl => lv_if_le C0.1 C0.2.1 hdg ht (fun q => kk1 r (by rw [if_pos ((vr_le0 hx).mp q)] at hr; exact hr) H locs ls hP hS hl) (fun q => kk2 r (by rw [if_neg (fun z => q ((vr_le0 hx).mpr z))] at hr; exact hr) H locs ls hP hS hl)
theorem jr_icmp_le (C0 : vr_Cx p s m args meth c own cc nL ret G) {x y : Int} (hx : vr_R x) (hy : vr_R y) {off : Int} {tgt : Nat} (hdg : decode cc pc = .ok (.if_icmp .le off, 3)) (ht : (pc : Int) + off = (tgt : Int)) (kk1 : vr_J p l e R s m args below meth c nL G Z tgt lv st μ P1) (kk2 : vr_J p l e R s m args below meth c nL G Z (pc + 3) lv st μ P2) : vr_J p l e R s m args below meth c nL G Z pc lv (.int (vr_I y) :: .int (vr_I x) :: st) μ (if x ≤ y then P1 else P2) := fun r hr H locs ls hP hS hl => lv_icmp_le C0.1 C0.2.1 hdg ht (fun q => kk1 r (by rw [if_pos ((vr_le hx hy).mp q)] at hr; exact hr) H locs ls hP hS hl) (fun q => kk2 r (by rw [if_neg (fun z => q ((vr_le hx hy).mpr z))] at hr; exact hr) H locs ls hP hS hl)
def vr_TS {α : Type} (Jt : Nat → α → Prop) (pc : Nat) : List Int → List α → Prop
  | [], [] => True
  | o :: os, P :: Ps => (∃ tgt : Nat, (pc : Int) + o = (tgt : Int) ∧ Jt tgt P) ∧ vr_TS Jt pc os Ps
  | _, _ => False
theorem vr_TS_nil {α : Type} {Jt : Nat → α → Prop} {pc : Nat} : vr_TS Jt pc [] [] := trivial
theorem vr_TS_cons {α : Type} {Jt : Nat → α → Prop} {pc tgt : Nat} {o : Int} {os : List Int} {P : α} {Ps : List α} (h : (pc : Int) + o = (tgt : Int)) (k : Jt tgt P) (t : vr_TS Jt pc os Ps) : vr_TS Jt pc (o :: os) (P :: Ps) := ⟨⟨tgt, h, k⟩, t⟩
theorem vr_TS_at {α : Type} {Jt : Nat → α → Prop} {pc : Nat} : ∀ {os : List Int} {Ps : List α}, vr_TS Jt pc os Ps → Ps.length = os.length ∧ ∀ (i : Nat) (o : Int), os[i]? = some o → ∃ (tgt : Nat) (P : α), Ps[i]? = some P ∧ (pc : Int) + o = (tgt : Int) ∧ Jt tgt P
  | [], [], _ => ⟨rfl, fun i o h => by simp at h⟩
  | o :: os, P :: Ps, h => by
    obtain ⟨⟨tgt, h1, h2⟩, h3⟩ := h
    obtain ⟨h4, h5⟩ := vr_TS_at h3
    refine ⟨by simp [h4], fun i o' hi => ?_⟩
    cases i with
    | zero => simp at hi; subst hi; exact ⟨tgt, P, rfl, h1, h2⟩
    | succ i => exact h5 i o' (by simpa using hi)
  | [], _ :: _, h => by cases h
  | _ :: _, [], h => by cases h
def vr_LS {α : Type} (Jt : Nat → Option α → Prop) (pc : Nat) : List (Int × Int) → List (Int × Option α) → Prop
  | [], [] => True
  | (a, o) :: os, (b, P) :: Ps => (a = b ∧ ∃ tgt : Nat, (pc : Int) + o = (tgt : Int) ∧ Jt tgt P) ∧ vr_LS Jt pc os Ps
  | _, _ => False
theorem vr_LS_nil {α : Type} {Jt : Nat → Option α → Prop} {pc : Nat} : vr_LS Jt pc [] [] := trivial
theorem vr_LS_cons {α : Type} {Jt : Nat → Option α → Prop} {pc tgt : Nat} {a o : Int} {os : List (Int × Int)} {P : Option α} {Ps : List (Int × Option α)} (h : (pc : Int) + o = (tgt : Int)) (k : Jt tgt P) (t : vr_LS Jt pc os Ps) : vr_LS Jt pc ((a, o) :: os) ((a, P) :: Ps) := ⟨⟨rfl, tgt, h, k⟩, t⟩
theorem vr_LS_at {α : Type} {Jt : Nat → Option α → Prop} {pc td : Nat} {dflt x : Int} {Pd : Option α} (hd : (pc : Int) + dflt = (td : Int)) (hJ : Jt td Pd) : ∀ {os : List (Int × Int)} {Ps : List (Int × Option α)}, vr_LS Jt pc os Ps → ∃ tgt : Nat, (pc : Int) + Op.lookupswitch.offset os dflt x = (tgt : Int) ∧ Jt tgt (vr_ls x Ps Pd)
  | [], [], _ => ⟨td, hd, hJ⟩
  | (a, o) :: os, (b, P) :: Ps, h => by
    obtain ⟨⟨rfl, tgt, h1, h2⟩, h3⟩ := h
    rw [Op.lookupswitch.offset_cons]
    unfold vr_ls
    by_cases q : a = x
    · subst q
      rw [if_pos rfl, if_pos rfl]
      exact ⟨tgt, h1, h2⟩
    · rw [if_neg q, if_neg (fun z => q z.symm)]
      exact vr_LS_at hd hJ h3
  | [], _ :: _, h => by cases h
  | _ :: _, [], h => by cases h
theorem jr_tsw (C0 : vr_Cx p s m args meth c own cc nL ret G) {x : Int} (hx : vr_R x) {dflt lo hi : Int} {offs : Array Int} {len : Nat} {Ps : List (Option ρ)} {td : Nat} (hdg : decode cc pc = .ok (.tableswitch dflt lo hi offs, len)) (hsz : hi - lo + 1 = (offs.toList.length : Int)) (htd : (pc : Int) + dflt = (td : Int)) (kk : vr_TS (fun tgt Pi => vr_J p l e R s m args below meth c nL G Z tgt lv st μ Pi) pc offs.toList Ps) (kkd : vr_J p l e R s m args below meth c nL G Z td lv st μ P) : vr_J p l e R s m args below meth c nL G Z pc lv (.int (vr_I x) :: st) μ (vr_sw x lo Ps P) := by
  intro r hr H locs ls hP hS hl
  have hxx := vr_toInt hx
  obtain ⟨hln, hk⟩ := vr_TS_at kk
  unfold vr_sw at hr
  by_cases h1 : x < lo
  · rw [if_neg (by omega)] at hr
    exact lv_tableOut C0.1 C0.2.1 hdg (Or.inl (by rw [hxx]; exact h1)) htd (kkd r hr H locs ls hP hS hl)
  · rw [if_pos (by omega)] at hr
    by_cases h2 : hi < x
    · have h3 : Ps.length ≤ (x - lo).toNat := by omega
      rw [List.getD_eq_getElem?_getD, List.getElem?_eq_none h3] at hr
      exact lv_tableOut C0.1 C0.2.1 hdg (Or.inr (by rw [hxx]; exact h2)) htd (kkd r hr H locs ls hP hS hl)
    · have h4 : (x - lo).toNat < offs.toList.length := by omega
      obtain ⟨tgt, Pi, hPi, ht, hJ⟩ := hk (x - lo).toNat _ (List.getElem?_eq_getElem h4)
      rw [List.getD_eq_getElem?_getD, hPi] at hr
      exact lv_tableIn C0.1 C0.2.1 hdg (by rw [hxx]; exact h1) (by rw [hxx]; exact h2) (by rw [hxx, ← Array.getElem?_toList]; exact List.getElem?_eq_getElem h4) ht (hJ r hr H locs ls hP hS hl)
theorem jr_lsw (C0 : vr_Cx p s m args meth c own cc nL ret G) {x : Int} (hx : vr_R x) {dflt : Int} {ps : Array (Int × Int)} {len : Nat} {Ps : List (Int × Option ρ)} {td : Nat} (hdg : decode cc pc = .ok (.lookupswitch dflt ps, len)) (hp : (ps.toList.zip (ps.toList.drop 1)).all (fun (a, next) => a.1 < next.1) = true) (htd : (pc : Int) + dflt = (td : Int)) (kk : vr_LS (fun tgt Pi => vr_J p l e R s m args below meth c nL G Z tgt lv st μ Pi) pc ps.toList Ps) (kkd : vr_J p l e R s m args below meth c nL G Z td lv st μ P) : vr_J p l e R s m args below meth c nL G Z pc lv (.int (vr_I x) :: st) μ (vr_ls x Ps P) := by
  intro r hr H locs ls hP hS hl
  obtain ⟨tgt, ht, hJ⟩ := vr_LS_at (Jt := fun tgt Pi => vr_J p l e R s m args below meth c nL G Z tgt lv st μ Pi) (x := x) htd kkd kk
  exact lv_lookup C0.1 C0.2.1 hdg hp (by rw [vr_toInt hx]) ht (hJ r hr H locs ls hP hS hl)
theorem jr_gst0 (C0 : vr_Cx p s m args meth c RX5 cc nL ret G) (hdg : decode cc pc = .ok (.getstatic 39, 3)) (kk : vr_J p l e R s m args below meth c nL G Z (pc + 3) lv (.ref (vr_sa G 0) :: st) μ P) : vr_J p l e R s m args below meth c nL G Z pc lv st μ P := fun r hr H locs ls hP hS hl => va_getsN C0.1 C0.2.1 C0.2.2.2.2.2.1.2.2.2.1.1 hS C0.2.2.2.1 (va_Nw.use rfl C0.2.2.2.2.2.1.2.2.1.2) (fun _ h => h) hdg (kk r hr H locs ls hP hS hl)
theorem jr_gso0 (C0 : vr_Cx p s m args meth c own cc nL ret G) {index : Nat} (hl0 : Cond.fieldLink own index "VillageRounds" "ABOVE" "[I" ∈ vr_T) (hdg : decode cc pc = .ok (.getstatic index, 3)) (kk : vr_J p l e R s m args below meth c nL G Z (pc + 3) lv (.ref (vr_sa G 0) :: st) μ P) : vr_J p l e R s m args below meth c nL G Z pc lv st μ P := fun r hr H locs ls hP hS hl => va_gets C0.1 C0.2.1 C0.2.2.2.2.2.1.2.2.2.1.1 hS C0.2.2.2.1 (C0.2.2.2.2.1 _ hl0) (fun _ h => h) hdg (kk r hr H locs ls hP hS hl)
theorem jr_sald0 (C0 : vr_Cx p s m args meth c own cc nL ret G) {x : Int} (hb : 0 ≤ x ∧ x < 7) (hdg : decode cc pc = .ok (.iaload, 1)) (kk : vr_J p l e R s m args below meth c nL G Z (pc + 1) lv (.int (vr_I (vr_ABOVE.getD x.toNat 0)) :: st) μ P) : vr_J p l e R s m args below meth c nL G Z pc lv (.int (vr_I x) :: .ref (vr_sa G 0) :: st) μ P := by
  intro r hr H locs ls hP hS hl
  refine va_ti C0.1 C0.2.1 C0.2.2.2.2.2.1.2.2.2.1.2 hS (vr_in' hb (by decide)) rfl hdg ?_
  rw [vr_cl hb.1 (by omega)]
  exact kk r hr H locs ls hP hS hl
theorem jr_slen0 (C0 : vr_Cx p s m args meth c own cc nL ret G) (hdg : decode cc pc = .ok (.arraylength, 1)) (kk : vr_J p l e R s m args below meth c nL G Z (pc + 1) lv (.int (vr_I 7) :: st) μ P) : vr_J p l e R s m args below meth c nL G Z pc lv (.ref (vr_sa G 0) :: st) μ P := fun r hr H locs ls hP hS hl => va_tlen C0.1 C0.2.1 C0.2.2.2.2.2.1.2.2.2.1.2 hS (v := vr_I 7) rfl hdg (kk r hr H locs ls hP hS hl)
theorem jr_gst1 (C0 : vr_Cx p s m args meth c RX5 cc nL ret G) (hdg : decode cc pc = .ok (.getstatic 32, 3)) (kk : vr_J p l e R s m args below meth c nL G Z (pc + 3) lv (.ref (vr_sa G 1) :: st) μ P) : vr_J p l e R s m args below meth c nL G Z pc lv st μ P := fun r hr H locs ls hP hS hl => va_getsN C0.1 C0.2.1 C0.2.2.2.2.2.1.2.2.2.2.1.1 hS C0.2.2.2.1 (va_Nw.use rfl C0.2.2.2.2.2.1.2.2.1.1) (fun _ h => h) hdg (kk r hr H locs ls hP hS hl)
theorem jr_gso1 (C0 : vr_Cx p s m args meth c own cc nL ret G) {index : Nat} (hl0 : Cond.fieldLink own index "VillageRounds" "BODIES" "[I" ∈ vr_T) (hdg : decode cc pc = .ok (.getstatic index, 3)) (kk : vr_J p l e R s m args below meth c nL G Z (pc + 3) lv (.ref (vr_sa G 1) :: st) μ P) : vr_J p l e R s m args below meth c nL G Z pc lv st μ P := fun r hr H locs ls hP hS hl => va_gets C0.1 C0.2.1 C0.2.2.2.2.2.1.2.2.2.2.1.1 hS C0.2.2.2.1 (C0.2.2.2.2.1 _ hl0) (fun _ h => h) hdg (kk r hr H locs ls hP hS hl)
theorem jr_sald1 (C0 : vr_Cx p s m args meth c own cc nL ret G) {x : Int} (hb : 0 ≤ x ∧ x < 21) (hdg : decode cc pc = .ok (.iaload, 1)) (kk : vr_J p l e R s m args below meth c nL G Z (pc + 1) lv (.int (vr_I (vr_BODIES.getD x.toNat 0)) :: st) μ P) : vr_J p l e R s m args below meth c nL G Z pc lv (.int (vr_I x) :: .ref (vr_sa G 1) :: st) μ P := by
  intro r hr H locs ls hP hS hl
  refine va_ti C0.1 C0.2.1 C0.2.2.2.2.2.1.2.2.2.2.1.2 hS (vr_in' hb (by decide)) rfl hdg ?_
  rw [vr_cl hb.1 (by omega)]
  exact kk r hr H locs ls hP hS hl
theorem jr_slen1 (C0 : vr_Cx p s m args meth c own cc nL ret G) (hdg : decode cc pc = .ok (.arraylength, 1)) (kk : vr_J p l e R s m args below meth c nL G Z (pc + 1) lv (.int (vr_I 21) :: st) μ P) : vr_J p l e R s m args below meth c nL G Z pc lv (.ref (vr_sa G 1) :: st) μ P := fun r hr H locs ls hP hS hl => va_tlen C0.1 C0.2.1 C0.2.2.2.2.2.1.2.2.2.2.1.2 hS (v := vr_I 21) rfl hdg (kk r hr H locs ls hP hS hl)
theorem jr_geti (C0 : vr_Cx p s m args meth c own cc nL ret G) {ci k i N : Nat} {Cn : String} {T : u_T} {index : Nat} (hk : k < 78) (hkd : vr_kd k = ci) (hci : ci < 11) (hcl : vwCl[ci]? = some (Cn, T, N)) (hin : ∀ w ∈ u_ws Cn T N, w ∈ vr_T) (hi : i < N) (hlink : Cond.fieldLink own index (T i).1 (T i).2.1 (T i).2.2.1 ∈ vr_T) (hfl : (vr_fl ci k)[i]? = some none) (hdg : decode cc pc = .ok (.getfield index, 3)) (kk : vr_J p l e R s m args below meth c nL G Z (pc + 3) lv (.int (vr_I (μ k i)) :: st) μ P) : vr_J p l e R s m args below meth c nL G Z pc lv (.ref (vr_ad G k) :: st) μ P := fun r hr H locs ls hP hS hl => va_get C0.1 C0.2.1 C0.2.2.2.2.1 hin C0.2.2.2.1 C0.2.2.2.2.2.1.1 hP k (by rw [vr_ws_at hk, vr_cell_obj hkd hci]) hcl i hi (C0.2.2.2.2.1 _ hlink) (fun _ h9 => h9) (v := .int (vr_I (μ k i))) (by have h := vr_vs_get (vr_ad G) (μ k) _ 0 i _ hfl; rw [Nat.zero_add] at h; exact h) hdg (kk r hr H locs ls hP hS hl)
theorem jr_getr (C0 : vr_Cx p s m args meth c own cc nL ret G) {ci k i N : Nat} {Cn : String} {T : u_T} {index : Nat} (hk : k < 78) (hkd : vr_kd k = ci) (hci : ci < 11) (hcl : vwCl[ci]? = some (Cn, T, N)) (hin : ∀ w ∈ u_ws Cn T N, w ∈ vr_T) (hi : i < N) (hlink : Cond.fieldLink own index (T i).1 (T i).2.1 (T i).2.2.1 ∈ vr_T) {j : Nat} (hfl : (vr_fl ci k)[i]? = some (some j)) (hdg : decode cc pc = .ok (.getfield index, 3)) (kk : vr_J p l e R s m args below meth c nL G Z (pc + 3) lv (.ref (vr_ad G j) :: st) μ P) : vr_J p l e R s m args below meth c nL G Z pc lv (.ref (vr_ad G k) :: st) μ P := fun r hr H locs ls hP hS hl => va_get C0.1 C0.2.1 C0.2.2.2.2.1 hin C0.2.2.2.1 C0.2.2.2.2.2.1.1 hP k (by rw [vr_ws_at hk, vr_cell_obj hkd hci]) hcl i hi (C0.2.2.2.2.1 _ hlink) (fun _ h9 => h9) (v := .ref (vr_ad G j)) (vr_vs_get (vr_ad G) (μ k) _ 0 i _ hfl) hdg (kk r hr H locs ls hP hS hl)
theorem jr_puti (C0 : vr_Cx p s m args meth c own cc nL ret G) {ci k i N : Nat} {Cn : String} {T : u_T} {index : Nat} (hk : k < 78) (hkd : vr_kd k = ci) (hci : ci < 11) (hcl : vwCl[ci]? = some (Cn, T, N)) (hin : ∀ w ∈ u_ws Cn T N, w ∈ vr_T) (hi : i < N) (hlink : Cond.fieldLink own index (T i).1 (T i).2.1 (T i).2.2.1 ∈ vr_T) (hfl : (vr_fl ci k)[i]? = some none) {tyf : Nat → FieldType} (hty : ∀ k, k < N → parseFieldDescriptor (T k).2.2.1 = some (tyf k)) (hnm : ∀ a, a < N → ∀ b, b < N → a ≠ b → (T a).2.1 ≠ (T b).2.1) (hfin : (T i).2.2.2 = false) {x : Int} (hnar : narrow (tyf i) (.int (vr_I x)) = .int (vr_I x)) (hfit : fits (tyf i) (.int (vr_I x)) = true) (hdg : decode cc pc = .ok (.putfield index, 3)) (kk : vr_J p l e R s m args below meth c nL G Z (pc + 3) lv st (vr_u μ k i x) P) : vr_J p l e R s m args below meth c nL G Z pc lv (.int (vr_I x) :: .ref (vr_ad G k) :: st) μ P := by
  intro r hr H locs ls hP hS hl
  have hil : i < (vr_vs (vr_ad G) (μ k) (vr_fl ci k) 0).length := by rw [vr_vs_len]; exact (List.getElem?_eq_some_iff.mp hfl).1
  refine va_put C0.1 C0.2.1 C0.2.2.2.2.1 hin tyf hty hnm C0.2.2.2.1 C0.2.2.2.2.2.1.1 hP (vr_dis C0.2.2.2.2.2.1 μ) hS k (fs := vr_vs (vr_ad G) (μ k) (vr_fl ci k) 0) (by rw [vr_ws_at hk, vr_cell_obj hkd hci]) hcl i hi (C0.2.2.2.2.1 _ hlink) (fun _ h9 => h9) hfin (hty i hi) hnar hfit hil hdg (fun H1 locs1 hP1 _ hS1 => ?_)
  refine kk r hr H1 locs1 ls ?_ hS1 hl
  have e1 : vr_cell G (vr_u μ k i x) k = .inr (ci, (vr_vs (vr_ad G) (μ k) (vr_fl ci k) 0).set i (.int (vr_I x))) := by
    rw [vr_cell_obj hkd hci, ← vr_vs_set (vr_ad G) (μ k) x (vr_fl ci k) 0 i hfl]
    congr 3
    funext b
    simp [vr_u]
  rw [← vr_ws_set hk, e1]
  exact hP1
theorem jr_iald (C0 : vr_Cx p s m args meth c own cc nL ret G) {k n : Nat} (hk : k < 78) (hkd : vr_kd k = 11) (hln : vr_ln k = n) {x : Int} (hb : 0 ≤ x ∧ x < n) {j : Nat} (hj : x.toNat = j) (hdg : decode cc pc = .ok (.iaload, 1)) (kk : vr_J p l e R s m args below meth c nL G Z (pc + 1) lv (.int (vr_I (μ k j)) :: st) μ P) : vr_J p l e R s m args below meth c nL G Z pc lv (.int (vr_I x) :: .ref (vr_ad G k) :: st) μ P := by
  intro r hr H locs ls hP hS hl
  have hn := vr_ln_lt k
  rw [hln] at hn
  refine va_iald C0.1 C0.2.1 C0.2.2.2.2.2.1.1 hP k 0 (f := fun j => vr_I (μ k j)) (by rw [vr_ws_at hk, vr_cell_arr hkd hln]) rfl (vr_in' hb hn) hdg ?_
  rw [vr_cl hb.1 (by omega), hj]
  exact kk r hr H locs ls hP hS hl
theorem jr_zald (C0 : vr_Cx p s m args meth c own cc nL ret G) {k n : Nat} (hk : k < 78) (hkd : vr_kd k = 12) (hln : vr_ln k = n) {x : Int} (hb : 0 ≤ x ∧ x < n) {j : Nat} (hj : x.toNat = j) (hdg : decode cc pc = .ok (.baload, 1)) (kk : vr_J p l e R s m args below meth c nL G Z (pc + 1) lv (.int (vr_I (μ k j)) :: st) μ P) : vr_J p l e R s m args below meth c nL G Z pc lv (.int (vr_I x) :: .ref (vr_ad G k) :: st) μ P := by
  intro r hr H locs ls hP hS hl
  have hn := vr_ln_lt k
  rw [hln] at hn
  refine va_zald C0.1 C0.2.1 C0.2.2.2.2.2.1.1 hP k 1 (f := fun j => vr_I (μ k j)) (by rw [vr_ws_at hk, vr_cell_arz hkd hln]) rfl (vr_in' hb hn) hdg ?_
  rw [vr_cl hb.1 (by omega), hj]
  exact kk r hr H locs ls hP hS hl
theorem jr_iast (C0 : vr_Cx p s m args meth c own cc nL ret G) {k n : Nat} (hk : k < 78) (hkd : vr_kd k = 11) (hln : vr_ln k = n) {x : Int} (hb : 0 ≤ x ∧ x < n) {j : Nat} (hj : x.toNat = j) {v : Int} (hdg : decode cc pc = .ok (.iastore, 1)) (kk : vr_J p l e R s m args below meth c nL G Z (pc + 1) lv st (vr_u μ k j v) P) : vr_J p l e R s m args below meth c nL G Z pc lv (.int (vr_I v) :: .int (vr_I x) :: .ref (vr_ad G k) :: st) μ P := by
  intro r hr H locs ls hP hS hl
  have hn := vr_ln_lt k
  rw [hln] at hn
  refine va_iast C0.1 C0.2.1 C0.2.2.2.2.2.1.1 hP (vr_dis C0.2.2.2.2.2.1 μ) hS k 0 (f := fun j => vr_I (μ k j)) (by rw [vr_ws_at hk, vr_cell_arr hkd hln]) rfl (vr_in' hb hn) hdg (fun H1 locs1 hP1 _ hS1 => ?_)
  refine kk r hr H1 locs1 ls ?_ hS1 hl
  rw [vr_cl hb.1 (by omega), hj] at hP1
  have e1 : vr_cell G (vr_u μ k j v) k = .inl (vr_cI G, n, .inl (upd (fun j => vr_I (μ k j)) j (vr_I v))) := by
    rw [vr_cell_arr hkd hln]
    congr 4
    funext b
    by_cases hbj : b = j
    · subst hbj; simp [vr_u, upd]
    · simp [vr_u, upd, hbj]
  rw [← vr_ws_set hk, e1]
  exact hP1
theorem jr_zast (C0 : vr_Cx p s m args meth c own cc nL ret G) {k n : Nat} (hk : k < 78) (hkd : vr_kd k = 12) (hln : vr_ln k = n) {x : Int} (hb : 0 ≤ x ∧ x < n) {j : Nat} (hj : x.toNat = j) {v : Int} (hv : v = 0 ∨ v = 1) (hdg : decode cc pc = .ok (.bastore, 1)) (kk : vr_J p l e R s m args below meth c nL G Z (pc + 1) lv st (vr_u μ k j v) P) : vr_J p l e R s m args below meth c nL G Z pc lv (.int (vr_I v) :: .int (vr_I x) :: .ref (vr_ad G k) :: st) μ P := by
  intro r hr H locs ls hP hS hl
  have hn := vr_ln_lt k
  rw [hln] at hn
  refine va_zast C0.1 C0.2.1 C0.2.2.2.2.2.1.1 hP (vr_dis C0.2.2.2.2.2.1 μ) hS k 1 (f := fun j => vr_I (μ k j)) (by rw [vr_ws_at hk, vr_cell_arz hkd hln]) rfl (vr_in' hb hn) hdg (fun H1 locs1 hP1 _ hS1 => ?_)
  refine kk r hr H1 locs1 ls ?_ hS1 hl
  have hnr : vp_nar .boolean (vr_I v) = vr_I v := by rcases hv with rfl | rfl <;> rfl
  rw [vr_cl hb.1 (by omega), hj, hnr] at hP1
  have e1 : vr_cell G (vr_u μ k j v) k = .inl (vr_cZ G, n, .inl (upd (fun j => vr_I (μ k j)) j (vr_I v))) := by
    rw [vr_cell_arz hkd hln]
    congr 4
    funext b
    by_cases hbj : b = j
    · subst hbj; simp [vr_u, upd]
    · simp [vr_u, upd, hbj]
  rw [← vr_ws_set hk, e1]
  exact hP1
theorem jr_alen (C0 : vr_Cx p s m args meth c own cc nL ret G) {k n : Nat} (hk : k < 78) (hkd : vr_kd k = 11) (hln : vr_ln k = n) (hdg : decode cc pc = .ok (.arraylength, 1)) (kk : vr_J p l e R s m args below meth c nL G Z (pc + 1) lv (.int (vr_I (n : Int)) :: st) μ P) : vr_J p l e R s m args below meth c nL G Z pc lv (.ref (vr_ad G k) :: st) μ P := fun r hr H locs ls hP hS hl => va_alen C0.1 C0.2.1 C0.2.2.2.2.2.1.1 hP k 0 (x := (n, .inl (fun j => vr_I (μ k j)))) (by rw [vr_ws_at hk, vr_cell_arr hkd hln]) rfl (v := vr_I (n : Int)) Int32.ofInt_eq_ofNat.symm hdg (kk r hr H locs ls hP hS hl)
theorem jr_vI (C0 : vr_Cx p s m args meth c own cc nL ret G) {y : MethodName} {bytes : ByteArray} {maxL n index : Nat} {ty : Option FieldType} {rm : Room} {As st0 : List Value} {f : Option (Int × vr_M)} {K : Int × vr_M → Option ρ} {Cn : String} {T : u_T} {N ci k : Nat} (hk : k < 78) (hkd : vr_kd k = ci) (hci : ci < 11) (hcl : vwCl[ci]? = some (Cn, T, N)) (hc : vr_CI l y bytes maxL ty rm G (.ref (vr_ad G k) :: As) μ f) (hy : vr_Mi Cn y bytes maxL ty n) (hl0 : Cond.methodLink own index y ∈ vr_T) (hR : rm.frames + 1 ≤ R.frames ∧ 8 + (maxL + 11) + rm.locals ≤ R.locals) (hrm : rm.cells = 0 ∧ rm.slots = 0) (hAs : As.length = n) (hst : st0 = As.reverse ++ .ref (vr_ad G k) :: st) (hW : (st.map fun v => v.category).sum ≤ 8) (hdg : decode cc pc = .ok (.invokevirtual index, 3)) (kk : ∀ r : Int × vr_M, vr_R r.1 → vr_J p l e R s m args below meth c nL G Z (pc + 3) lv (.int (vr_I r.1) :: st) r.2 (K r)) : vr_J p l e R s m args below meth c nL G Z pc lv st0 μ (f.bind K) := by
  intro r0 hr H locs ls hP hS hl
  rcases hf : f with _ | r1
  · rw [hf] at hr; cases hr
  rw [hf] at hr
  have hr2 : K r1 = some r0 := hr
  have hM := hc r1 hf
  refine va_calli (Q := Z r0) (B := _) (A1 := vr_A G) (va_runV (As := As) (rest := st) ⟨C0.1, C0.2.1, C0.2.2.1, C0.2.2.2.1, C0.2.2.2.2.1⟩ hM (cwV n C0.2.2.2.2.1 (vr_gV hl0 hy.1) rfl hrm.1 hrm.2 hy.2 hR) ⟨fun a U g mk q => ⟨q.1, q.2.1, vr_Ev.same q.2.2 rfl⟩, va_recv C0.2.2.2.2.2.1.1 hP (q := (Cn, T, N)) hcl (by rw [vr_ws_at hk, vr_cell_obj hkd hci]), fun U hU hW => ⟨rfl, by rw [hU]; exact hP, by rw [hU]; exact vr_Ev.warm C0.2.2.2.2.2.1 hW (fun a h1 h2 => hS.2.1 a h1 h2)⟩⟩ rfl hAs hl.1 hst (lv_room hW) hdg ⟨Nat.zero_le _, Nat.zero_le _⟩) hS (fun _ _ h => h) (fun _ h => h) (fun v u t H1 locs1 ht hvm hw hB hz hk1 hS1 => ?_)
  obtain ⟨rfl, hw2⟩ := hw
  rw [ht] at hB
  exact kk r1 hw2 r0 hr2 H1 locs1 ls hB hS1 hl
theorem jr_sI (C0 : vr_Cx p s m args meth c own cc nL ret G) {y : MethodName} {bytes : ByteArray} {maxL n index : Nat} {ty : Option FieldType} {rm : Room} {As st0 : List Value} {f : Option (Int × vr_M)} {K : Int × vr_M → Option ρ} (hc : vr_CI l y bytes maxL ty rm G As μ f) (hy : vr_Ms y bytes maxL ty n) (hl0 : Cond.methodLink own index y ∈ vr_T) (hR : rm.frames + 1 ≤ R.frames ∧ 8 + (maxL + 11) + rm.locals ≤ R.locals) (hrm : rm.cells = 0 ∧ rm.slots = 0) (hAs : As.length = n) (hst : st0 = As.reverse ++ st) (hW : (st.map fun v => v.category).sum ≤ 8) (hdg : decode cc pc = .ok (.invokestatic index, 3)) (kk : ∀ r : Int × vr_M, vr_R r.1 → vr_J p l e R s m args below meth c nL G Z (pc + 3) lv (.int (vr_I r.1) :: st) r.2 (K r)) : vr_J p l e R s m args below meth c nL G Z pc lv st0 μ (f.bind K) := by
  intro r0 hr H locs ls hP hS hl
  rcases hf : f with _ | r1
  · rw [hf] at hr; cases hr
  rw [hf] at hr
  have hr2 : K r1 = some r0 := hr
  have hM := hc r1 hf
  refine va_calli (Q := Z r0) (B := _) (A1 := vr_A G) (va_runS (As := As) (rest := st) ⟨C0.1, C0.2.1, C0.2.2.1, C0.2.2.2.1, C0.2.2.2.2.1⟩ hM (va_cwS n C0.2.2.2.2.1 (vr_gS hl0 hy.1) rfl hrm.1 hrm.2 hy.2 hR) ⟨fun a U g mk q => ⟨q.1, q.2.1, vr_Ev.same q.2.2 rfl⟩, fun U hU hW => ⟨rfl, by rw [hU]; exact hP, by rw [hU]; exact vr_Ev.warm C0.2.2.2.2.2.1 hW (fun a h1 h2 => hS.2.1 a h1 h2)⟩⟩ rfl hAs hl.1 hst (lv_room hW) hdg ⟨Nat.zero_le _, Nat.zero_le _⟩) hS (fun _ _ h => h) (fun _ h => h) (fun v u t H1 locs1 ht hvm hw hB hz hk1 hS1 => ?_)
  obtain ⟨rfl, hw2⟩ := hw
  rw [ht] at hB
  exact kk r1 hw2 r0 hr2 H1 locs1 ls hB hS1 hl
theorem jr_vV0 (C0 : vr_Cx p s m args meth c own cc nL ret G) {y : MethodName} {bytes : ByteArray} {maxL n index : Nat} {ty : Option FieldType} {rm : Room} {As st0 : List Value} {f : Option (Int × vr_M)} {K : Int × vr_M → Option ρ} {Cn : String} {T : u_T} {N ci k : Nat} (hk : k < 78) (hkd : vr_kd k = ci) (hci : ci < 11) (hcl : vwCl[ci]? = some (Cn, T, N)) (hc : vr_CV l y bytes maxL ty rm G (.ref (vr_ad G k) :: As) μ f) (hy : vr_Mi Cn y bytes maxL ty n) (hl0 : Cond.methodLink own index y ∈ vr_T) (hR : rm.frames + 1 ≤ R.frames ∧ 8 + (maxL + 11) + rm.locals ≤ R.locals) (hrm : rm.cells = 0 ∧ rm.slots = 0) (hAs : As.length = n) (hst : st0 = As.reverse ++ .ref (vr_ad G k) :: st) (hW : (st.map fun v => v.category).sum ≤ 8) (hdg : decode cc pc = .ok (.invokevirtual index, 3)) (kk : ∀ r : Int × vr_M, vr_J p l e R s m args below meth c nL G Z (pc + 3) lv (st) r.2 (K r)) : vr_J p l e R s m args below meth c nL G Z pc lv st0 μ (f.bind K) := by
  intro r0 hr H locs ls hP hS hl
  rcases hf : f with _ | r1
  · rw [hf] at hr; cases hr
  rw [hf] at hr
  have hr2 : K r1 = some r0 := hr
  have hM := hc r1 hf
  refine va_callv (Q := Z r0) (B := _) (A1 := vr_A G) (va_runV (As := As) (rest := st) ⟨C0.1, C0.2.1, C0.2.2.1, C0.2.2.2.1, C0.2.2.2.2.1⟩ hM (cwV n C0.2.2.2.2.1 (vr_gV hl0 hy.1) rfl hrm.1 hrm.2 hy.2 hR) ⟨fun a U g mk q => ⟨q.1, q.2.1, vr_Ev.same q.2.2 rfl⟩, va_recv C0.2.2.2.2.2.1.1 hP (q := (Cn, T, N)) hcl (by rw [vr_ws_at hk, vr_cell_obj hkd hci]), fun U hU hW => ⟨rfl, by rw [hU]; exact hP, by rw [hU]; exact vr_Ev.warm C0.2.2.2.2.2.1 hW (fun a h1 h2 => hS.2.1 a h1 h2)⟩⟩ rfl hAs hl.1 hst (lv_room hW) hdg ⟨Nat.zero_le _, Nat.zero_le _⟩) hS (fun _ _ h => h) (fun _ h => h) (fun u t H1 locs1 ht hvm hw hB hz hk1 hS1 => ?_)
  rw [ht] at hB
  exact kk r1 r0 hr2 H1 locs1 ls hB hS1 hl
theorem jr_sV0 (C0 : vr_Cx p s m args meth c own cc nL ret G) {y : MethodName} {bytes : ByteArray} {maxL n index : Nat} {ty : Option FieldType} {rm : Room} {As st0 : List Value} {f : Option (Int × vr_M)} {K : Int × vr_M → Option ρ} (hc : vr_CV l y bytes maxL ty rm G As μ f) (hy : vr_Ms y bytes maxL ty n) (hl0 : Cond.methodLink own index y ∈ vr_T) (hR : rm.frames + 1 ≤ R.frames ∧ 8 + (maxL + 11) + rm.locals ≤ R.locals) (hrm : rm.cells = 0 ∧ rm.slots = 0) (hAs : As.length = n) (hst : st0 = As.reverse ++ st) (hW : (st.map fun v => v.category).sum ≤ 8) (hdg : decode cc pc = .ok (.invokestatic index, 3)) (kk : ∀ r : Int × vr_M, vr_J p l e R s m args below meth c nL G Z (pc + 3) lv (st) r.2 (K r)) : vr_J p l e R s m args below meth c nL G Z pc lv st0 μ (f.bind K) := by
  intro r0 hr H locs ls hP hS hl
  rcases hf : f with _ | r1
  · rw [hf] at hr; cases hr
  rw [hf] at hr
  have hr2 : K r1 = some r0 := hr
  have hM := hc r1 hf
  refine va_callv (Q := Z r0) (B := _) (A1 := vr_A G) (va_runS (As := As) (rest := st) ⟨C0.1, C0.2.1, C0.2.2.1, C0.2.2.2.1, C0.2.2.2.2.1⟩ hM (va_cwS n C0.2.2.2.2.1 (vr_gS hl0 hy.1) rfl hrm.1 hrm.2 hy.2 hR) ⟨fun a U g mk q => ⟨q.1, q.2.1, vr_Ev.same q.2.2 rfl⟩, fun U hU hW => ⟨rfl, by rw [hU]; exact hP, by rw [hU]; exact vr_Ev.warm C0.2.2.2.2.2.1 hW (fun a h1 h2 => hS.2.1 a h1 h2)⟩⟩ rfl hAs hl.1 hst (lv_room hW) hdg ⟨Nat.zero_le _, Nat.zero_le _⟩) hS (fun _ _ h => h) (fun _ h => h) (fun u t H1 locs1 ht hvm hw hB hz hk1 hS1 => ?_)
  rw [ht] at hB
  exact kk r1 r0 hr2 H1 locs1 ls hB hS1 hl
theorem jr_vL (C0 : vr_Cx p s m args meth c own cc nL ret G) {y : MethodName} {bytes : ByteArray} {maxL n index : Nat} {ty : Option FieldType} {rm : Room} {As st0 : List Value} {f : Option (Int64 × vr_M)} {K : Int64 × vr_M → Option ρ} {Cn : String} {T : u_T} {N ci k : Nat} (hk : k < 78) (hkd : vr_kd k = ci) (hci : ci < 11) (hcl : vwCl[ci]? = some (Cn, T, N)) (hc : vr_CL l y bytes maxL ty rm G (.ref (vr_ad G k) :: As) μ f) (hy : vr_Mi Cn y bytes maxL ty n) (hl0 : Cond.methodLink own index y ∈ vr_T) (hR : rm.frames + 1 ≤ R.frames ∧ 8 + (maxL + 11) + rm.locals ≤ R.locals) (hrm : rm.cells = 0 ∧ rm.slots = 0) (hAs : As.length = n) (hst : st0 = As.reverse ++ .ref (vr_ad G k) :: st) (hW : (st.map fun v => v.category).sum ≤ 8) (hdg : decode cc pc = .ok (.invokevirtual index, 3)) (kk : ∀ r : Int64 × vr_M, vr_J p l e R s m args below meth c nL G Z (pc + 3) lv (.long r.1 :: st) r.2 (K r)) : vr_J p l e R s m args below meth c nL G Z pc lv st0 μ (f.bind K) := by
  intro r0 hr H locs ls hP hS hl
  rcases hf : f with _ | r1
  · rw [hf] at hr; cases hr
  rw [hf] at hr
  have hr2 : K r1 = some r0 := hr
  have hM := hc r1 hf
  refine va_calll (Q := Z r0) (B := _) (A1 := vr_A G) (va_runV (As := As) (rest := st) ⟨C0.1, C0.2.1, C0.2.2.1, C0.2.2.2.1, C0.2.2.2.2.1⟩ hM (cwV n C0.2.2.2.2.1 (vr_gV hl0 hy.1) rfl hrm.1 hrm.2 hy.2 hR) ⟨fun a U g mk q => ⟨q.1, q.2.1, vr_Ev.same q.2.2 rfl⟩, va_recv C0.2.2.2.2.2.1.1 hP (q := (Cn, T, N)) hcl (by rw [vr_ws_at hk, vr_cell_obj hkd hci]), fun U hU hW => ⟨rfl, by rw [hU]; exact hP, by rw [hU]; exact vr_Ev.warm C0.2.2.2.2.2.1 hW (fun a h1 h2 => hS.2.1 a h1 h2)⟩⟩ rfl hAs hl.1 hst (lv_room hW) hdg ⟨Nat.zero_le _, Nat.zero_le _⟩) hS (fun _ _ h => h) (fun _ h => h) (fun v u t H1 locs1 ht hvm hw hB hz hk1 hS1 => ?_)
  subst hw
  rw [ht] at hB
  exact kk r1 r0 hr2 H1 locs1 ls hB hS1 hl
theorem jr_sL (C0 : vr_Cx p s m args meth c own cc nL ret G) {y : MethodName} {bytes : ByteArray} {maxL n index : Nat} {ty : Option FieldType} {rm : Room} {As st0 : List Value} {f : Option (Int64 × vr_M)} {K : Int64 × vr_M → Option ρ} (hc : vr_CL l y bytes maxL ty rm G As μ f) (hy : vr_Ms y bytes maxL ty n) (hl0 : Cond.methodLink own index y ∈ vr_T) (hR : rm.frames + 1 ≤ R.frames ∧ 8 + (maxL + 11) + rm.locals ≤ R.locals) (hrm : rm.cells = 0 ∧ rm.slots = 0) (hAs : As.length = n) (hst : st0 = As.reverse ++ st) (hW : (st.map fun v => v.category).sum ≤ 8) (hdg : decode cc pc = .ok (.invokestatic index, 3)) (kk : ∀ r : Int64 × vr_M, vr_J p l e R s m args below meth c nL G Z (pc + 3) lv (.long r.1 :: st) r.2 (K r)) : vr_J p l e R s m args below meth c nL G Z pc lv st0 μ (f.bind K) := by
  intro r0 hr H locs ls hP hS hl
  rcases hf : f with _ | r1
  · rw [hf] at hr; cases hr
  rw [hf] at hr
  have hr2 : K r1 = some r0 := hr
  have hM := hc r1 hf
  refine va_calll (Q := Z r0) (B := _) (A1 := vr_A G) (va_runS (As := As) (rest := st) ⟨C0.1, C0.2.1, C0.2.2.1, C0.2.2.2.1, C0.2.2.2.2.1⟩ hM (va_cwS n C0.2.2.2.2.1 (vr_gS hl0 hy.1) rfl hrm.1 hrm.2 hy.2 hR) ⟨fun a U g mk q => ⟨q.1, q.2.1, vr_Ev.same q.2.2 rfl⟩, fun U hU hW => ⟨rfl, by rw [hU]; exact hP, by rw [hU]; exact vr_Ev.warm C0.2.2.2.2.2.1 hW (fun a h1 h2 => hS.2.1 a h1 h2)⟩⟩ rfl hAs hl.1 hst (lv_room hW) hdg ⟨Nat.zero_le _, Nat.zero_le _⟩) hS (fun _ _ h => h) (fun _ h => h) (fun v u t H1 locs1 ht hvm hw hB hz hk1 hS1 => ?_)
  subst hw
  rw [ht] at hB
  exact kk r1 r0 hr2 H1 locs1 ls hB hS1 hl
theorem jr_vS (C0 : vr_Cx p s m args meth c own cc nL ret G) {y : MethodName} {bytes : ByteArray} {maxL n index : Nat} {ty : Option FieldType} {rm : Room} {As st0 : List Value} {f : Option (Nat × vr_M)} {K : Nat × vr_M → Option ρ} {Cn : String} {T : u_T} {N ci k : Nat} (hk : k < 78) (hkd : vr_kd k = ci) (hci : ci < 11) (hcl : vwCl[ci]? = some (Cn, T, N)) (hc : vr_CS l y bytes maxL ty rm G (.ref (vr_ad G k) :: As) μ f) (hy : vr_Mi Cn y bytes maxL ty n) (hl0 : Cond.methodLink own index y ∈ vr_T) (hR : rm.frames + 1 ≤ R.frames ∧ 8 + (maxL + 11) + rm.locals ≤ R.locals) (hrm : rm.cells = 0 ∧ rm.slots = 0) (hAs : As.length = n) (hst : st0 = As.reverse ++ .ref (vr_ad G k) :: st) (hW : (st.map fun v => v.category).sum ≤ 8) (hdg : decode cc pc = .ok (.invokevirtual index, 3)) (kk : ∀ r : Nat × vr_M, vr_J p l e R s m args below meth c nL G Z (pc + 3) lv (.ref (vr_ak G r.1) :: st) r.2 (K r)) : vr_J p l e R s m args below meth c nL G Z pc lv st0 μ (f.bind K) := by
  intro r0 hr H locs ls hP hS hl
  rcases hf : f with _ | r1
  · rw [hf] at hr; cases hr
  rw [hf] at hr
  have hr2 : K r1 = some r0 := hr
  have hM := hc r1 hf
  refine va_callr (Q := Z r0) (B := _) (A1 := vr_A G) (va_runV (As := As) (rest := st) ⟨C0.1, C0.2.1, C0.2.2.1, C0.2.2.2.1, C0.2.2.2.2.1⟩ hM (cwV n C0.2.2.2.2.1 (vr_gV hl0 hy.1) rfl hrm.1 hrm.2 hy.2 hR) ⟨fun a U g mk q => ⟨q.1, q.2.1, vr_Ev.same q.2.2 rfl⟩, va_recv C0.2.2.2.2.2.1.1 hP (q := (Cn, T, N)) hcl (by rw [vr_ws_at hk, vr_cell_obj hkd hci]), fun U hU hW => ⟨rfl, by rw [hU]; exact hP, by rw [hU]; exact vr_Ev.warm C0.2.2.2.2.2.1 hW (fun a h1 h2 => hS.2.1 a h1 h2)⟩⟩ rfl hAs hl.1 hst (lv_room hW) hdg ⟨Nat.zero_le _, Nat.zero_le _⟩) hS (fun _ _ h => h) (fun _ h => h) (fun u a t H1 locs1 ht hvm hw hB hz hk1 hS1 => ?_)
  obtain ⟨rfl, hB⟩ := hB
  rw [ht] at hB
  exact kk r1 r0 hr2 H1 locs1 ls hB hS1 hl
theorem jr_sS (C0 : vr_Cx p s m args meth c own cc nL ret G) {y : MethodName} {bytes : ByteArray} {maxL n index : Nat} {ty : Option FieldType} {rm : Room} {As st0 : List Value} {f : Option (Nat × vr_M)} {K : Nat × vr_M → Option ρ} (hc : vr_CS l y bytes maxL ty rm G As μ f) (hy : vr_Ms y bytes maxL ty n) (hl0 : Cond.methodLink own index y ∈ vr_T) (hR : rm.frames + 1 ≤ R.frames ∧ 8 + (maxL + 11) + rm.locals ≤ R.locals) (hrm : rm.cells = 0 ∧ rm.slots = 0) (hAs : As.length = n) (hst : st0 = As.reverse ++ st) (hW : (st.map fun v => v.category).sum ≤ 8) (hdg : decode cc pc = .ok (.invokestatic index, 3)) (kk : ∀ r : Nat × vr_M, vr_J p l e R s m args below meth c nL G Z (pc + 3) lv (.ref (vr_ak G r.1) :: st) r.2 (K r)) : vr_J p l e R s m args below meth c nL G Z pc lv st0 μ (f.bind K) := by
  intro r0 hr H locs ls hP hS hl
  rcases hf : f with _ | r1
  · rw [hf] at hr; cases hr
  rw [hf] at hr
  have hr2 : K r1 = some r0 := hr
  have hM := hc r1 hf
  refine va_callr (Q := Z r0) (B := _) (A1 := vr_A G) (va_runS (As := As) (rest := st) ⟨C0.1, C0.2.1, C0.2.2.1, C0.2.2.2.1, C0.2.2.2.2.1⟩ hM (va_cwS n C0.2.2.2.2.1 (vr_gS hl0 hy.1) rfl hrm.1 hrm.2 hy.2 hR) ⟨fun a U g mk q => ⟨q.1, q.2.1, vr_Ev.same q.2.2 rfl⟩, fun U hU hW => ⟨rfl, by rw [hU]; exact hP, by rw [hU]; exact vr_Ev.warm C0.2.2.2.2.2.1 hW (fun a h1 h2 => hS.2.1 a h1 h2)⟩⟩ rfl hAs hl.1 hst (lv_room hW) hdg ⟨Nat.zero_le _, Nat.zero_le _⟩) hS (fun _ _ h => h) (fun _ h => h) (fun u a t H1 locs1 ht hvm hw hB hz hk1 hS1 => ?_)
  obtain ⟨rfl, hB⟩ := hB
  rw [ht] at hB
  exact kk r1 r0 hr2 H1 locs1 ls hB hS1 hl
theorem jr_strI (C0 : vr_Cx p s m args meth c own cc nL ret G) {y : MethodName} {bytes : ByteArray} {maxL n index : Nat} {ty : Option FieldType} {rm : Room} {As st0 : List Value} {f : Option (Int × vr_M)} {K : Int × vr_M → Option ρ} {i : Nat} (hi : i < 17) (hc : vr_CI l y bytes maxL ty rm G (.ref (vr_ak G i) :: As) μ f) (hy : vr_Mi "java/lang/String" y bytes maxL ty n) (hl0 : Cond.methodLink own index y ∈ vr_T) (hR : rm.frames + 1 ≤ R.frames ∧ 8 + (maxL + 11) + rm.locals ≤ R.locals) (hrm : rm.cells = 0 ∧ rm.slots = 0) (hAs : As.length = n) (hst : st0 = As.reverse ++ .ref (vr_ak G i) :: st) (hW : (st.map fun v => v.category).sum ≤ 8) (hdg : decode cc pc = .ok (.invokevirtual index, 3)) (kk : ∀ r : Int × vr_M, vr_R r.1 → vr_J p l e R s m args below meth c nL G Z (pc + 3) lv (.int (vr_I r.1) :: st) r.2 (K r)) : vr_J p l e R s m args below meth c nL G Z pc lv st0 μ (f.bind K) := by
  intro r0 hr H locs ls hP hS hl
  rcases hf : f with _ | r1
  · rw [hf] at hr; cases hr
  rw [hf] at hr
  have hr2 : K r1 = some r0 := hr
  have hM := hc r1 hf
  refine va_calli (Q := Z r0) (B := _) (A1 := vr_A G) (va_runV (As := As) (rest := st) ⟨C0.1, C0.2.1, C0.2.2.1, C0.2.2.2.1, C0.2.2.2.2.1⟩ hM (cwV n C0.2.2.2.2.1 (vr_gV hl0 hy.1) rfl hrm.1 hrm.2 hy.2 hR) ⟨fun a U g mk q => ⟨q.1, q.2.1, vr_Ev.same q.2.2 rfl⟩, (by obtain ⟨cell, h1, h2, h3, _⟩ := (C0.2.2.2.2.2.1.2.2.2.2.2.2.1 i hi).1.kept hS.2.1; exact ⟨cell, h1, h2, h3⟩), fun U hU hW => ⟨rfl, by rw [hU]; exact hP, by rw [hU]; exact vr_Ev.warm C0.2.2.2.2.2.1 hW (fun a h1 h2 => hS.2.1 a h1 h2)⟩⟩ rfl hAs hl.1 hst (lv_room hW) hdg ⟨Nat.zero_le _, Nat.zero_le _⟩) hS (fun _ _ h => h) (fun _ h => h) (fun v u t H1 locs1 ht hvm hw hB hz hk1 hS1 => ?_)
  obtain ⟨rfl, hw2⟩ := hw
  rw [ht] at hB
  exact kk r1 hw2 r0 hr2 H1 locs1 ls hB hS1 hl
theorem jr_max (C0 : vr_Cx p s m args meth c own cc nL ret G) {x y : Int} {index : Nat} (hx : vr_R x) (hy : vr_R y) (hl0 : Cond.methodLink own index Lib.Math.max.name ∈ vr_T) (hs0 : Cond.static Lib.Math.max.name ∈ vr_T) (hi0 : Cond.initialized "java/lang/Math" ∈ vr_T) (hc0 : Cond.code Lib.Math.max.name Lib.Math.max.code 2 (some .int) ∈ vr_T) (hfr : 1 ≤ R.frames) (hlo : (st.map fun v => v.category).sum + 13 ≤ R.locals) (hdg : decode cc pc = .ok (.invokestatic index, 3)) (kk : vr_J p l e R s m args below meth c nL G Z (pc + 3) lv (.int (vr_I (max x y)) :: st) μ P) : vr_J p l e R s m args below meth c nL G Z pc lv (.int (vr_I y) :: .int (vr_I x) :: st) μ P := by
  intro r hr H locs ls hP hS hl
  refine va_mmax C0.1 C0.2.1 (C0.2.2.1.trans hl.1.symm) C0.2.2.2.1 (C0.2.2.2.2.1 _ hl0) (C0.2.2.2.2.1 _ hs0) (C0.2.2.2.2.1 _ hi0) (C0.2.2.2.2.1 _ hc0) hfr hlo (Nat.zero_le _) (Nat.zero_le _) hdg ?_
  rw [(show (if vr_I x < vr_I y then vr_I y else vr_I x) = vr_I (max x y) from by by_cases h : x < y <;> simp only [vr_lt hx hy, h, if_true, if_false] <;> congr 1 <;> omega)]
  exact kk r hr H locs ls hP hS hl
theorem jr_min (C0 : vr_Cx p s m args meth c own cc nL ret G) {x y : Int} {index : Nat} (hx : vr_R x) (hy : vr_R y) (hl0 : Cond.methodLink own index Lib.Math.min.name ∈ vr_T) (hs0 : Cond.static Lib.Math.min.name ∈ vr_T) (hi0 : Cond.initialized "java/lang/Math" ∈ vr_T) (hc0 : Cond.code Lib.Math.min.name Lib.Math.min.code 2 (some .int) ∈ vr_T) (hfr : 1 ≤ R.frames) (hlo : (st.map fun v => v.category).sum + 13 ≤ R.locals) (hdg : decode cc pc = .ok (.invokestatic index, 3)) (kk : vr_J p l e R s m args below meth c nL G Z (pc + 3) lv (.int (vr_I (min x y)) :: st) μ P) : vr_J p l e R s m args below meth c nL G Z pc lv (.int (vr_I y) :: .int (vr_I x) :: st) μ P := by
  intro r hr H locs ls hP hS hl
  refine va_mmin C0.1 C0.2.1 (C0.2.2.1.trans hl.1.symm) C0.2.2.2.1 (C0.2.2.2.2.1 _ hl0) (C0.2.2.2.2.1 _ hs0) (C0.2.2.2.2.1 _ hi0) (C0.2.2.2.2.1 _ hc0) hfr hlo (Nat.zero_le _) (Nat.zero_le _) hdg ?_
  rw [(show (if vr_I y < vr_I x then vr_I y else vr_I x) = vr_I (min x y) from by by_cases h : y < x <;> simp only [vr_lt hy hx, h, if_true, if_false] <;> congr 1 <;> omega)]
  exact kk r hr H locs ls hP hS hl
theorem jr_abs (C0 : vr_Cx p s m args meth c own cc nL ret G) {x : Int} {index : Nat} (hx : vr_R x) (hl0 : Cond.methodLink own index Lib.Math.abs.name ∈ vr_T) (hs0 : Cond.static Lib.Math.abs.name ∈ vr_T) (hi0 : Cond.initialized "java/lang/Math" ∈ vr_T) (hc0 : Cond.code Lib.Math.abs.name Lib.Math.abs.code 1 (some .int) ∈ vr_T) (hfr : 1 ≤ R.frames) (hlo : (st.map fun v => v.category).sum + 13 ≤ R.locals) (hdg : decode cc pc = .ok (.invokestatic index, 3)) (kk : vr_J p l e R s m args below meth c nL G Z (pc + 3) lv (.int (vr_I (if 0 ≤ x then x else -x)) :: st) μ P) : vr_J p l e R s m args below meth c nL G Z pc lv (.int (vr_I x) :: st) μ P := by
  intro r hr H locs ls hP hS hl
  refine va_mabs C0.1 C0.2.1 (C0.2.2.1.trans hl.1.symm) C0.2.2.2.1 (C0.2.2.2.2.1 _ hl0) (C0.2.2.2.2.1 _ hs0) (C0.2.2.2.2.1 _ hi0) (C0.2.2.2.2.1 _ hc0) hfr hlo (Nat.zero_le _) (Nat.zero_le _) hdg ?_
  have e9 : (if 0 ≤ vr_I x then vr_I x else 0 - vr_I x) = vr_I (if 0 ≤ x then x else -x) := by
    have h0 := vr_ge0 hx
    by_cases h : 0 ≤ x
    · rw [if_pos h, if_pos (h0.mpr h)]
    · rw [if_neg h, if_neg (fun q => h (h0.mp q)), show (0 : Int32) = vr_I 0 from rfl, vr_sub]
      congr 1; omega
  rw [e9]
  exact kk r hr H locs ls hP hS hl
end VRJ
section VRE
variable {p : Program} {l : Launch} {e : Env} {R : Room} {s : State} {m : MethodId} {args : Array Value} {below : List Frame} {meth : Method} {c : Code} {nL : Nat} {G : vr_G} {pc : Nat} {lv : List (Nat × Value)} {μ : vr_M} {own : String} {cc : ByteArray}
theorem jr_iret  (C0 : vr_Cx p s m args meth c own cc nL (some .int) G) {x : Int} (hx : vr_R x) (hdg : decode cc pc = .ok (.ireturn, 1)) : vr_J p l e R s m args below meth c nL G (vr_Z (vr_QI G) G args s below) pc lv [.int (vr_I x)] μ (some (x, μ)) := by
  intro r hr H locs ls hP hS hl
  cases hr
  have hlk := C0.2.2.2.2.2.2.2
  exact W.iret C0.1 C0.2.1 C0.2.2.2.2.2.2.1 (fun t ht hW => ⟨⟨_, (), rfl, ⟨rfl, hx⟩, by show va_P _ _ _ _; rw [ht]; exact hP⟩, hS.F ht⟩) hS.2.2 hdg
theorem jr_zret {ty : FieldType} {x : Int} (C0 : vr_Cx p s m args meth c own cc nL (some ty) G) (hx : vr_R x) (hn : narrow ty (.int (vr_I x)) = .int (vr_I x)) (hdg : decode cc pc = .ok (.ireturn, 1)) : vr_J p l e R s m args below meth c nL G (vr_Z (vr_QI G) G args s below) pc lv [.int (vr_I x)] μ (some (x, μ)) := by
  intro r hr H locs ls hP hS hl
  cases hr
  have hlk := C0.2.2.2.2.2.2.2
  exact W.zret C0.1 C0.2.1 C0.2.2.2.2.2.2.1 hn (fun t ht hW => ⟨⟨_, (), rfl, ⟨rfl, hx⟩, by show va_P _ _ _ _; rw [ht]; exact hP⟩, hS.F ht⟩) hS.2.2 hdg
theorem jr_vret  (C0 : vr_Cx p s m args meth c own cc nL none G)  (hdg : decode cc pc = .ok (.return_, 1)) : vr_J p l e R s m args below meth c nL G (vr_Z (vr_QV G) G args s below) pc lv [] μ (some ((0 : Int), μ)) := by
  intro r hr H locs ls hP hS hl
  cases hr
  have hlk := C0.2.2.2.2.2.2.2
  exact W.vret C0.1 C0.2.1 C0.2.2.2.2.2.2.1 (fun t ht hW => ⟨⟨(), rfl, trivial, by show va_P _ _ _ _; rw [ht]; exact hP⟩, hS.F ht⟩) hS.2.2 hdg
theorem jr_lret  (C0 : vr_Cx p s m args meth c own cc nL (some .long) G) {x : Int64} (hdg : decode cc pc = .ok (.lreturn, 1)) : vr_J p l e R s m args below meth c nL G (vr_Z (vr_QL G) G args s below) pc lv [.long x] μ (some (x, μ)) := by
  intro r hr H locs ls hP hS hl
  cases hr
  have hlk := C0.2.2.2.2.2.2.2
  exact W.lret C0.1 C0.2.1 C0.2.2.2.2.2.2.1 (fun t ht hW => ⟨⟨_, (), rfl, rfl, by show va_P _ _ _ _; rw [ht]; exact hP⟩, hS.F ht⟩) hS.2.2 hdg
theorem jr_sret {nm : String} {i : Nat} (C0 : vr_Cx p s m args meth c own cc nL (some (.object nm)) G)  (hdg : decode cc pc = .ok (.areturn, 1)) : vr_J p l e R s m args below meth c nL G (vr_Z (vr_QS G) G args s below) pc lv [.ref (vr_ak G i)] μ (some (i, μ)) := by
  intro r hr H locs ls hP hS hl
  cases hr
  have hlk := C0.2.2.2.2.2.2.2
  exact W.aret C0.1 C0.2.1 C0.2.2.2.2.2.2.1 (Or.inl ⟨_, rfl⟩) (Or.inr ⟨_, rfl⟩) (fun t ht hW => ⟨⟨(), _, rfl, trivial, rfl, by show va_P _ _ _ _; rw [ht]; exact hP⟩, hS.F ht⟩) hS.2.2 hdg
end VRE
theorem vr_nz {x : Int} (h : x = 0 ∨ x = 1) : narrow .boolean (.int (vr_I x)) = .int (vr_I x) := by rcases h with rfl | rfl <;> rfl
theorem vr_fz (ty : FieldType) (h : ty = .int ∨ ty = .boolean) {x : Int} (hx : ty = .boolean → x = 0 ∨ x = 1) : narrow ty (.int (vr_I x)) = .int (vr_I x) ∧ fits ty (.int (vr_I x)) = true := by
  rcases h with rfl | rfl
  · exact ⟨rfl, rfl⟩
  · rcases hx rfl with rfl | rfl <;> exact ⟨rfl, rfl⟩
theorem vr_Rln (k : Nat) : vr_R (vr_ln k : Int) := by
  have := vr_ln_lt k
  exact ⟨by omega, by omega⟩
theorem vr_RA (j : Nat) : vr_R (vr_ABOVE.getD j 0) ∧ vr_R (vr_BODIES.getD j 0) := by
  have h1 : ∀ a ∈ vr_ABOVE, vr_R a := by decide
  have h2 : ∀ a ∈ vr_BODIES, vr_R a := by decide
  rw [List.getD_eq_getElem?_getD, List.getD_eq_getElem?_getD]
  refine ⟨?_, ?_⟩
  · rcases e : vr_ABOVE[j]? with _ | q
    · exact ⟨by decide, by decide⟩
    · exact h1 q (List.mem_of_getElem? e)
  · rcases e : vr_BODIES[j]? with _ | q
    · exact ⟨by decide, by decide⟩
    · exact h2 q (List.mem_of_getElem? e)
theorem kd_0 : vr_kd 0 = 9 := by decide +kernel
theorem kd_1 : vr_kd 1 = 8 := by decide +kernel
theorem kd_2 : vr_kd 2 = 2 := by decide +kernel
theorem kd_3 : vr_kd 3 = 11 := by decide +kernel
theorem kl_3 : vr_ln 3 = 8 := by decide +kernel
theorem kd_4 : vr_kd 4 = 11 := by decide +kernel
theorem kl_4 : vr_ln 4 = 8 := by decide +kernel
theorem kd_5 : vr_kd 5 = 11 := by decide +kernel
theorem kl_5 : vr_ln 5 = 8 := by decide +kernel
theorem kd_6 : vr_kd 6 = 11 := by decide +kernel
theorem kl_6 : vr_ln 6 = 8 := by decide +kernel
theorem kd_7 : vr_kd 7 = 11 := by decide +kernel
theorem kl_7 : vr_ln 7 = 8 := by decide +kernel
theorem kd_8 : vr_kd 8 = 3 := by decide +kernel
theorem kd_9 : vr_kd 9 = 11 := by decide +kernel
theorem kl_9 : vr_ln 9 = 10 := by decide +kernel
theorem kd_10 : vr_kd 10 = 11 := by decide +kernel
theorem kl_10 : vr_ln 10 = 10 := by decide +kernel
theorem kd_11 : vr_kd 11 = 11 := by decide +kernel
theorem kl_11 : vr_ln 11 = 120 := by decide +kernel
theorem kd_12 : vr_kd 12 = 11 := by decide +kernel
theorem kl_12 : vr_ln 12 = 5 := by decide +kernel
theorem kd_13 : vr_kd 13 = 4 := by decide +kernel
theorem kd_14 : vr_kd 14 = 11 := by decide +kernel
theorem kl_14 : vr_ln 14 = 120 := by decide +kernel
theorem kd_15 : vr_kd 15 = 4 := by decide +kernel
theorem kd_16 : vr_kd 16 = 11 := by decide +kernel
theorem kl_16 : vr_ln 16 = 12 := by decide +kernel
theorem kd_17 : vr_kd 17 = 4 := by decide +kernel
theorem kd_18 : vr_kd 18 = 11 := by decide +kernel
theorem kl_18 : vr_ln 18 = 10 := by decide +kernel
theorem kd_19 : vr_kd 19 = 4 := by decide +kernel
theorem kd_20 : vr_kd 20 = 11 := by decide +kernel
theorem kl_20 : vr_ln 20 = 8 := by decide +kernel
theorem kd_21 : vr_kd 21 = 4 := by decide +kernel
theorem kd_22 : vr_kd 22 = 11 := by decide +kernel
theorem kl_22 : vr_ln 22 = 8 := by decide +kernel
theorem kd_23 : vr_kd 23 = 8 := by decide +kernel
theorem kd_24 : vr_kd 24 = 2 := by decide +kernel
theorem kd_25 : vr_kd 25 = 11 := by decide +kernel
theorem kl_25 : vr_ln 25 = 8 := by decide +kernel
theorem kd_26 : vr_kd 26 = 11 := by decide +kernel
theorem kl_26 : vr_ln 26 = 8 := by decide +kernel
theorem kd_27 : vr_kd 27 = 11 := by decide +kernel
theorem kl_27 : vr_ln 27 = 8 := by decide +kernel
theorem kd_28 : vr_kd 28 = 11 := by decide +kernel
theorem kl_28 : vr_ln 28 = 8 := by decide +kernel
theorem kd_29 : vr_kd 29 = 11 := by decide +kernel
theorem kl_29 : vr_ln 29 = 8 := by decide +kernel
theorem kd_30 : vr_kd 30 = 3 := by decide +kernel
theorem kd_31 : vr_kd 31 = 11 := by decide +kernel
theorem kl_31 : vr_ln 31 = 10 := by decide +kernel
theorem kd_32 : vr_kd 32 = 11 := by decide +kernel
theorem kl_32 : vr_ln 32 = 10 := by decide +kernel
theorem kd_33 : vr_kd 33 = 11 := by decide +kernel
theorem kl_33 : vr_ln 33 = 120 := by decide +kernel
theorem kd_34 : vr_kd 34 = 11 := by decide +kernel
theorem kl_34 : vr_ln 34 = 5 := by decide +kernel
theorem kd_35 : vr_kd 35 = 4 := by decide +kernel
theorem kd_36 : vr_kd 36 = 11 := by decide +kernel
theorem kl_36 : vr_ln 36 = 120 := by decide +kernel
theorem kd_37 : vr_kd 37 = 4 := by decide +kernel
theorem kd_38 : vr_kd 38 = 11 := by decide +kernel
theorem kl_38 : vr_ln 38 = 12 := by decide +kernel
theorem kd_39 : vr_kd 39 = 4 := by decide +kernel
theorem kd_40 : vr_kd 40 = 11 := by decide +kernel
theorem kl_40 : vr_ln 40 = 10 := by decide +kernel
theorem kd_41 : vr_kd 41 = 4 := by decide +kernel
theorem kd_42 : vr_kd 42 = 11 := by decide +kernel
theorem kl_42 : vr_ln 42 = 8 := by decide +kernel
theorem kd_43 : vr_kd 43 = 4 := by decide +kernel
theorem kd_44 : vr_kd 44 = 11 := by decide +kernel
theorem kl_44 : vr_ln 44 = 8 := by decide +kernel
theorem kd_45 : vr_kd 45 = 3 := by decide +kernel
theorem kd_46 : vr_kd 46 = 11 := by decide +kernel
theorem kl_46 : vr_ln 46 = 10 := by decide +kernel
theorem kd_47 : vr_kd 47 = 11 := by decide +kernel
theorem kl_47 : vr_ln 47 = 10 := by decide +kernel
theorem kd_48 : vr_kd 48 = 11 := by decide +kernel
theorem kl_48 : vr_ln 48 = 120 := by decide +kernel
theorem kd_49 : vr_kd 49 = 11 := by decide +kernel
theorem kl_49 : vr_ln 49 = 5 := by decide +kernel
theorem kd_50 : vr_kd 50 = 6 := by decide +kernel
theorem kd_51 : vr_kd 51 = 7 := by decide +kernel
theorem kd_52 : vr_kd 52 = 2 := by decide +kernel
theorem kd_53 : vr_kd 53 = 11 := by decide +kernel
theorem kl_53 : vr_ln 53 = 8 := by decide +kernel
theorem kd_54 : vr_kd 54 = 11 := by decide +kernel
theorem kl_54 : vr_ln 54 = 8 := by decide +kernel
theorem kd_55 : vr_kd 55 = 11 := by decide +kernel
theorem kl_55 : vr_ln 55 = 8 := by decide +kernel
theorem kd_56 : vr_kd 56 = 11 := by decide +kernel
theorem kl_56 : vr_ln 56 = 8 := by decide +kernel
theorem kd_57 : vr_kd 57 = 11 := by decide +kernel
theorem kl_57 : vr_ln 57 = 8 := by decide +kernel
theorem kd_58 : vr_kd 58 = 0 := by decide +kernel
theorem kd_59 : vr_kd 59 = 11 := by decide +kernel
theorem kl_59 : vr_ln 59 = 8 := by decide +kernel
theorem kd_60 : vr_kd 60 = 11 := by decide +kernel
theorem kl_60 : vr_ln 60 = 8 := by decide +kernel
theorem kd_61 : vr_kd 61 = 11 := by decide +kernel
theorem kl_61 : vr_ln 61 = 8 := by decide +kernel
theorem kd_62 : vr_kd 62 = 11 := by decide +kernel
theorem kl_62 : vr_ln 62 = 256 := by decide +kernel
theorem kd_63 : vr_kd 63 = 1 := by decide +kernel
theorem kd_64 : vr_kd 64 = 11 := by decide +kernel
theorem kl_64 : vr_ln 64 = 1809 := by decide +kernel
theorem kd_65 : vr_kd 65 = 11 := by decide +kernel
theorem kl_65 : vr_ln 65 = 200 := by decide +kernel
theorem kd_66 : vr_kd 66 = 5 := by decide +kernel
theorem kd_67 : vr_kd 67 = 11 := by decide +kernel
theorem kl_67 : vr_ln 67 = 20 := by decide +kernel
theorem kd_68 : vr_kd 68 = 10 := by decide +kernel
theorem kd_69 : vr_kd 69 = 11 := by decide +kernel
theorem kl_69 : vr_ln 69 = 933 := by decide +kernel
theorem kd_70 : vr_kd 70 = 11 := by decide +kernel
theorem kl_70 : vr_ln 70 = 933 := by decide +kernel
theorem kd_71 : vr_kd 71 = 11 := by decide +kernel
theorem kl_71 : vr_ln 71 = 933 := by decide +kernel
theorem kd_72 : vr_kd 72 = 11 := by decide +kernel
theorem kl_72 : vr_ln 72 = 5 := by decide +kernel
theorem kd_73 : vr_kd 73 = 12 := by decide +kernel
theorem kl_73 : vr_ln 73 = 64 := by decide +kernel
theorem kd_74 : vr_kd 74 = 11 := by decide +kernel
theorem kl_74 : vr_ln 74 = 8 := by decide +kernel
theorem kd_75 : vr_kd 75 = 11 := by decide +kernel
theorem kl_75 : vr_ln 75 = 5226 := by decide +kernel
theorem kd_76 : vr_kd 76 = 11 := by decide +kernel
theorem kl_76 : vr_ln 76 = 201 := by decide +kernel
theorem kd_77 : vr_kd 77 = 11 := by decide +kernel
theorem kl_77 : vr_ln 77 = 20 := by decide +kernel
theorem vr_hill {k : Nat} (hk : k < 78) (h : vr_kd k = 2) : k + 5 < 78 ∧ (vr_kd (k+1) = 11 ∧ vr_kd (k+2) = 11 ∧ vr_kd (k+3) = 11 ∧ vr_kd (k+4) = 11 ∧ vr_kd (k+5) = 11) ∧ vr_ln (k+1) = 8 ∧ vr_ln (k+2) = 8 ∧ vr_ln (k+3) = 8 ∧ vr_ln (k+4) = 8 ∧ vr_ln (k+5) = 8 := by
  have := (by decide +kernel : ∀ k, k < 78 → vr_kd k = 2 → k + 5 < 78 ∧ (vr_kd (k+1) = 11 ∧ vr_kd (k+2) = 11 ∧ vr_kd (k+3) = 11 ∧ vr_kd (k+4) = 11 ∧ vr_kd (k+5) = 11) ∧ vr_ln (k+1) = 8 ∧ vr_ln (k+2) = 8 ∧ vr_ln (k+3) = 8 ∧ vr_ln (k+4) = 8 ∧ vr_ln (k+5) = 8) k hk h
  exact this
theorem vr_land {k : Nat} (hk : k < 78) (h : vr_kd k = 3) : k + 4 < 78 ∧ (vr_kd (k+1) = 11 ∧ vr_kd (k+2) = 11 ∧ vr_kd (k+3) = 11 ∧ vr_kd (k+4) = 11) ∧ vr_ln (k+1) = 10 ∧ vr_ln (k+2) = 10 ∧ vr_ln (k+3) = 120 ∧ vr_ln (k+4) = 5 := by
  have := (by decide +kernel : ∀ k, k < 78 → vr_kd k = 3 → k + 4 < 78 ∧ (vr_kd (k+1) = 11 ∧ vr_kd (k+2) = 11 ∧ vr_kd (k+3) = 11 ∧ vr_kd (k+4) = 11) ∧ vr_ln (k+1) = 10 ∧ vr_ln (k+2) = 10 ∧ vr_ln (k+3) = 120 ∧ vr_ln (k+4) = 5) k hk h
  exact this
theorem vr_nums {k : Nat} (hk : k < 78) (h : vr_kd k = 4) : k + 1 < 78 ∧ vr_kd (k+1) = 11 := by
  have := (by decide +kernel : ∀ k, k < 78 → vr_kd k = 4 → k + 1 < 78 ∧ vr_kd (k+1) = 11) k hk h
  exact this
theorem vr_world {k : Nat} (hk : k < 78) (h : vr_kd k = 8) : k + 20 < 78 ∧ vr_kd (k+1) = 2 ∧ vr_kd (k+7) = 3 ∧ vr_kd (k+12) = 4 ∧ vr_kd (k+14) = 4 ∧ vr_kd (k+16) = 4 ∧ vr_kd (k+18) = 4 ∧ vr_kd (k+20) = 4 := by
  have := (by decide +kernel : ∀ k, k < 78 → vr_kd k = 8 → k + 20 < 78 ∧ vr_kd (k+1) = 2 ∧ vr_kd (k+7) = 3 ∧ vr_kd (k+12) = 4 ∧ vr_kd (k+14) = 4 ∧ vr_kd (k+16) = 4 ∧ vr_kd (k+18) = 4 ∧ vr_kd (k+20) = 4) k hk h
  exact this
end
section
theorem dX0_follow_0 : decode cX0_follow 0 = .ok (.aload_n 0, 1) := by decide +kernel
theorem dX0_follow_1 : decode cX0_follow 1 = .ok (.iload_n 1, 1) := by decide +kernel
theorem dX0_follow_2 : decode cX0_follow 2 = .ok (.putfield 36, 3) := by decide +kernel
theorem dX0_follow_5 : decode cX0_follow 5 = .ok (.aload_n 0, 1) := by decide +kernel
theorem dX0_follow_6 : decode cX0_follow 6 = .ok (.iload_n 2, 1) := by decide +kernel
theorem dX0_follow_7 : decode cX0_follow 7 = .ok (.putfield 9, 3) := by decide +kernel
theorem dX0_follow_10 : decode cX0_follow 10 = .ok (.return_, 1) := by decide +kernel
def fX0_follow (a0 : Int) (a1 : Int) (μ : vr_M) : Option (Int × vr_M) :=
  some (0, vr_u (vr_u μ 58 2 a0) 58 3 a1)
theorem mi_X0_follow : vr_Mi RX0 yX0_follow cX0_follow 3 none 2 := ⟨⟨wi_yX0_follow, ws_yX0_follow, wz_X0, wc_yX0_follow⟩, rfl, by decide, by decide, by decide +kernel⟩
set_option maxRecDepth 100000 in
set_option maxHeartbeats 4000000 in
theorem ct_X0_follow (l : Launch) (G : vr_G) (a0 : Int) (h_a0 : vr_R a0) (a1 : Int) (h_a1 : vr_R a1) (μ : vr_M) : vr_CV l yX0_follow cX0_follow 3 none ({ frames := 0, cells := 0, slots := 0, locals := 0 } : Room) G [.ref (vr_ad G 58), .int (vr_I a0), .int (vr_I a1)] μ (fX0_follow a0 a1 μ) := by
  refine vr_start (own := RX0) (by decide) rfl (Nat.le_of_ble_eq_true rfl) (fun p e s m args below meth c C0 => ?_)
  show vr_J p l e _ s m args below meth c 3 G (vr_Z (vr_QV G) G args s below) 0 [(0, .ref (vr_ad G 58)), (1, .int (vr_I a0)), (2, .int (vr_I a1))] [] μ _
  unfold fX0_follow
  refine jr_aload_n C0 0 dX0_follow_0 rfl rfl ?_
  refine jr_iload_n C0 1 dX0_follow_1 rfl rfl ?_
  refine jr_puti C0 (by decide) kd_58 (by decide) rfl wx_X0 (i := 2) (by decide) wf_X0_36 rfl tyX0_ok nmX0 rfl rfl rfl dX0_follow_2 ?_
  refine jr_aload_n C0 0 dX0_follow_5 rfl rfl ?_
  refine jr_iload_n C0 2 dX0_follow_6 rfl rfl ?_
  refine jr_puti C0 (by decide) kd_58 (by decide) rfl wx_X0 (i := 3) (by decide) wf_X0_9 rfl tyX0_ok nmX0 rfl rfl rfl dX0_follow_7 ?_
  exact jr_vret C0 dX0_follow_10
theorem dX0_turn_0 : decode cX0_turn 0 = .ok (.aload_n 0, 1) := by decide +kernel
theorem dX0_turn_1 : decode cX0_turn 1 = .ok (.getfield 36, 3) := by decide +kernel
theorem dX0_turn_4 : decode cX0_turn 4 = .ok (.iconst 1, 1) := by decide +kernel
theorem dX0_turn_5 : decode cX0_turn 5 = .ok (.if_icmp .ne 25, 3) := by decide +kernel
theorem dX0_turn_8 : decode cX0_turn 8 = .ok (.aload_n 0, 1) := by decide +kernel
theorem dX0_turn_9 : decode cX0_turn 9 = .ok (.getfield 9, 3) := by decide +kernel
theorem dX0_turn_12 : decode cX0_turn 12 = .ok (.ifCond .le 18, 3) := by decide +kernel
theorem dX0_turn_15 : decode cX0_turn 15 = .ok (.aload_n 0, 1) := by decide +kernel
theorem dX0_turn_16 : decode cX0_turn 16 = .ok (.getfield 28, 3) := by decide +kernel
theorem dX0_turn_19 : decode cX0_turn 19 = .ok (.getfield 39, 3) := by decide +kernel
theorem dX0_turn_22 : decode cX0_turn 22 = .ok (.aload_n 0, 1) := by decide +kernel
theorem dX0_turn_23 : decode cX0_turn 23 = .ok (.getfield 9, 3) := by decide +kernel
theorem dX0_turn_26 : decode cX0_turn 26 = .ok (.irem, 1) := by decide +kernel
theorem dX0_turn_27 : decode cX0_turn 27 = .ok (.goto 4, 3) := by decide +kernel
theorem dX0_turn_30 : decode cX0_turn 30 = .ok (.iconst 0, 1) := by decide +kernel
theorem dX0_turn_31 : decode cX0_turn 31 = .ok (.ireturn, 1) := by decide +kernel
def fX0_turn_B31 (y0 : Int) (μ : vr_M) : Option (Int × vr_M) :=
  some (y0, μ)
def fX0_turn_B30 (μ : vr_M) : Option (Int × vr_M) :=
  fX0_turn_B31 0 μ
def fX0_turn (μ : vr_M) : Option (Int × vr_M) :=
  vr_gd (vr_R (μ 58 2)) (if ¬ (μ 58 2) = 1 then fX0_turn_B30 μ else vr_gd (vr_R (μ 58 3)) (if (μ 58 3) ≤ 0 then fX0_turn_B30 μ else vr_gd (vr_R (μ 52 8)) (vr_gd (¬ (μ 58 3) = 0) (vr_gd (vr_R ((μ 52 8).tmod (μ 58 3))) (fX0_turn_B31 ((μ 52 8).tmod (μ 58 3)) μ)))))
theorem mi_X0_turn : vr_Mi RX0 yX0_turn cX0_turn 1 (some .int) 0 := ⟨⟨wi_yX0_turn, ws_yX0_turn, wz_X0, wc_yX0_turn⟩, rfl, by decide, by decide, by decide +kernel⟩
set_option maxRecDepth 100000 in
set_option maxHeartbeats 4000000 in
theorem ct_X0_turn (l : Launch) (G : vr_G) (μ : vr_M) : vr_CI l yX0_turn cX0_turn 1 (some .int) ({ frames := 0, cells := 0, slots := 0, locals := 0 } : Room) G [.ref (vr_ad G 58)] μ (fX0_turn μ) := by
  refine vr_start (own := RX0) (by decide) rfl (Nat.le_of_ble_eq_true rfl) (fun p e s m args below meth c C0 => ?_)
  show vr_J p l e _ s m args below meth c 1 G (vr_Z (vr_QI G) G args s below) 0 [(0, .ref (vr_ad G 58))] [] μ _
  have B31 : ∀ (y0 : Int) (h_y0 : vr_R y0) (μ : vr_M), vr_J p l e ({ frames := 0, cells := 0, slots := 0, locals := 0 } : Room) s m args below meth c 1 G (vr_Z (vr_QI G) G args s below) 31 [] [.int (vr_I y0)] μ (fX0_turn_B31 y0 μ) := by
    intro y0 h_y0 μ
    unfold fX0_turn_B31
    exact jr_iret C0 h_y0 dX0_turn_31
  have B30 : ∀ (μ : vr_M), vr_J p l e ({ frames := 0, cells := 0, slots := 0, locals := 0 } : Room) s m args below meth c 1 G (vr_Z (vr_QI G) G args s below) 30 [] [] μ (fX0_turn_B30 μ) := by
    intro μ
    unfold fX0_turn_B30
    refine jr_iconst C0 dX0_turn_30 ?_
    exact B31 0 (⟨by decide, by decide⟩) _
  unfold fX0_turn
  refine jr_aload_n C0 0 dX0_turn_0 rfl rfl ?_
  refine jr_geti C0 (by decide) kd_58 (by decide) rfl wx_X0 (i := 2) (by decide) wf_X0_36 rfl dX0_turn_1 ?_
  refine jr_iconst C0 dX0_turn_4 ?_
  refine jr_gd (fun g1 => ?_)
  refine jr_icmp_ne C0 g1 (⟨by decide, by decide⟩) dX0_turn_5 (tgt := 30) (by decide) ?_ ?_
  · refine jr_sub [] rfl ?_
    exact B30 _
  refine jr_aload_n C0 0 dX0_turn_8 rfl rfl ?_
  refine jr_geti C0 (by decide) kd_58 (by decide) rfl wx_X0 (i := 3) (by decide) wf_X0_9 rfl dX0_turn_9 ?_
  refine jr_gd (fun g2 => ?_)
  refine jr_if_le C0 g2 dX0_turn_12 (tgt := 30) (by decide) ?_ ?_
  · refine jr_sub [] rfl ?_
    exact B30 _
  refine jr_aload_n C0 0 dX0_turn_15 rfl rfl ?_
  refine jr_getr C0 (by decide) kd_58 (by decide) rfl wx_X0 (i := 0) (by decide) wf_X0_28 (j := 52) rfl dX0_turn_16 ?_
  refine jr_geti C0 (by decide) kd_52 (by decide) rfl wx_X2 (i := 8) (by decide) wf_X0_39 rfl dX0_turn_19 ?_
  refine jr_aload_n C0 0 dX0_turn_22 rfl rfl ?_
  refine jr_geti C0 (by decide) kd_58 (by decide) rfl wx_X0 (i := 3) (by decide) wf_X0_9 rfl dX0_turn_23 ?_
  refine jr_gd (fun g3 => ?_)
  refine jr_gd (fun g4 => ?_)
  refine jr_irem C0 g3 g2 g4 dX0_turn_26 ?_
  refine jr_goto C0 dX0_turn_27 (tgt := 31) (by decide) ?_
  refine jr_gd (fun g5 => ?_)
  refine jr_sub [] rfl ?_
  exact B31 ((μ 52 8).tmod (μ 58 3)) g5 _
theorem dX2_has_0 : decode cX2_has 0 = .ok (.iload_n 1, 1) := by decide +kernel
theorem dX2_has_1 : decode cX2_has 1 = .ok (.ifCond .lt 21, 3) := by decide +kernel
theorem dX2_has_4 : decode cX2_has 4 = .ok (.iload_n 1, 1) := by decide +kernel
theorem dX2_has_5 : decode cX2_has 5 = .ok (.aload_n 0, 1) := by decide +kernel
theorem dX2_has_6 : decode cX2_has 6 = .ok (.getfield 31, 3) := by decide +kernel
theorem dX2_has_9 : decode cX2_has 9 = .ok (.if_icmp .ge 13, 3) := by decide +kernel
theorem dX2_has_12 : decode cX2_has 12 = .ok (.iload_n 1, 1) := by decide +kernel
theorem dX2_has_13 : decode cX2_has 13 = .ok (.bipush 8, 2) := by decide +kernel
theorem dX2_has_15 : decode cX2_has 15 = .ok (.if_icmp .ge 7, 3) := by decide +kernel
theorem dX2_has_18 : decode cX2_has 18 = .ok (.iconst 1, 1) := by decide +kernel
theorem dX2_has_19 : decode cX2_has 19 = .ok (.goto 4, 3) := by decide +kernel
theorem dX2_has_22 : decode cX2_has 22 = .ok (.iconst 0, 1) := by decide +kernel
theorem dX2_has_23 : decode cX2_has 23 = .ok (.ireturn, 1) := by decide +kernel
def fX2_has_B23 (k : Nat) (y0 : Int) (μ : vr_M) : Option (Int × vr_M) :=
  vr_gd (y0 = 0 ∨ y0 = 1) (some (y0, μ))
def fX2_has_B22 (k : Nat) (μ : vr_M) : Option (Int × vr_M) :=
  fX2_has_B23 k 0 μ
def fX2_has (k : Nat) (a0 : Int) (μ : vr_M) : Option (Int × vr_M) :=
  if a0 < 0 then fX2_has_B22 k μ else vr_gd (vr_R (μ k 5)) (if (μ k 5) ≤ a0 then fX2_has_B22 k μ else if 8 ≤ a0 then fX2_has_B22 k μ else fX2_has_B23 k 1 μ)
theorem mi_X2_has : vr_Mi RX2 yX2_has cX2_has 2 (some .boolean) 1 := ⟨⟨wi_yX2_has, ws_yX2_has, wz_X2, wc_yX2_has⟩, rfl, by decide, by decide, by decide +kernel⟩
set_option maxRecDepth 100000 in
set_option maxHeartbeats 4000000 in
theorem ct_X2_has (l : Launch) (G : vr_G) {k : Nat} (hk_k : k < 78) (hd_k : vr_kd k = 2) (a0 : Int) (h_a0 : vr_R a0) (μ : vr_M) : vr_CI l yX2_has cX2_has 2 (some .boolean) ({ frames := 0, cells := 0, slots := 0, locals := 0 } : Room) G [.ref (vr_ad G k), .int (vr_I a0)] μ (fX2_has k a0 μ) := by
  refine vr_start (own := RX2) (by decide) rfl (Nat.le_of_ble_eq_true rfl) (fun p e s m args below meth c C0 => ?_)
  obtain ⟨q_k, ⟨d_k_1, d_k_2, d_k_3, d_k_4, d_k_5⟩, n_k_1, n_k_2, n_k_3, n_k_4, n_k_5⟩ := vr_hill hk_k hd_k
  show vr_J p l e _ s m args below meth c 2 G (vr_Z (vr_QI G) G args s below) 0 [(0, .ref (vr_ad G k)), (1, .int (vr_I a0))] [] μ _
  have B23 : ∀ (y0 : Int) (h_y0 : vr_R y0) (μ : vr_M), vr_J p l e ({ frames := 0, cells := 0, slots := 0, locals := 0 } : Room) s m args below meth c 2 G (vr_Z (vr_QI G) G args s below) 23 [] [.int (vr_I y0)] μ (fX2_has_B23 k y0 μ) := by
    intro y0 h_y0 μ
    unfold fX2_has_B23
    refine jr_gd (fun g1 => ?_)
    exact jr_zret C0 h_y0 (vr_nz g1) dX2_has_23
  have B22 : ∀ (μ : vr_M), vr_J p l e ({ frames := 0, cells := 0, slots := 0, locals := 0 } : Room) s m args below meth c 2 G (vr_Z (vr_QI G) G args s below) 22 [] [] μ (fX2_has_B22 k μ) := by
    intro μ
    unfold fX2_has_B22
    refine jr_iconst C0 dX2_has_22 ?_
    exact B23 0 (⟨by decide, by decide⟩) _
  unfold fX2_has
  refine jr_iload_n C0 1 dX2_has_0 rfl rfl ?_
  refine jr_if_lt C0 h_a0 dX2_has_1 (tgt := 22) (by decide) ?_ ?_
  · refine jr_sub [] rfl ?_
    exact B22 _
  refine jr_iload_n C0 1 dX2_has_4 rfl rfl ?_
  refine jr_aload_n C0 0 dX2_has_5 rfl rfl ?_
  refine jr_geti C0 hk_k hd_k (by decide) rfl wx_X2 (i := 5) (by decide) wf_X2_31 rfl dX2_has_6 ?_
  refine jr_gd (fun g2 => ?_)
  refine jr_icmp_ge C0 h_a0 g2 dX2_has_9 (tgt := 22) (by decide) ?_ ?_
  · refine jr_sub [] rfl ?_
    exact B22 _
  refine jr_iload_n C0 1 dX2_has_12 rfl rfl ?_
  refine jr_bipush C0 dX2_has_13 rfl ?_
  refine jr_icmp_ge C0 h_a0 (⟨by decide, by decide⟩) dX2_has_15 (tgt := 22) (by decide) ?_ ?_
  · refine jr_sub [] rfl ?_
    exact B22 _
  refine jr_iconst C0 dX2_has_18 ?_
  refine jr_goto C0 dX2_has_19 (tgt := 23) (by decide) ?_
  refine jr_sub [] rfl ?_
  exact B23 1 (⟨by decide, by decide⟩) _
theorem dX3_look_0 : decode cX3_look 0 = .ok (.aload_n 1, 1) := by decide +kernel
theorem dX3_look_1 : decode cX3_look 1 = .ok (.iload_n 2, 1) := by decide +kernel
theorem dX3_look_2 : decode cX3_look 2 = .ok (.invokevirtual 56, 3) := by decide +kernel
theorem dX3_look_5 : decode cX3_look 5 = .ok (.ifCond .eq 60, 3) := by decide +kernel
theorem dX3_look_8 : decode cX3_look 8 = .ok (.aload_n 0, 1) := by decide +kernel
theorem dX3_look_9 : decode cX3_look 9 = .ok (.getfield 21, 3) := by decide +kernel
theorem dX3_look_12 : decode cX3_look 12 = .ok (.iconst 0, 1) := by decide +kernel
theorem dX3_look_13 : decode cX3_look 13 = .ok (.aload_n 1, 1) := by decide +kernel
theorem dX3_look_14 : decode cX3_look 14 = .ok (.getfield 65, 3) := by decide +kernel
theorem dX3_look_17 : decode cX3_look 17 = .ok (.iload_n 2, 1) := by decide +kernel
theorem dX3_look_18 : decode cX3_look 18 = .ok (.iaload, 1) := by decide +kernel
theorem dX3_look_19 : decode cX3_look 19 = .ok (.iconst 1, 1) := by decide +kernel
theorem dX3_look_20 : decode cX3_look 20 = .ok (.iadd, 1) := by decide +kernel
theorem dX3_look_21 : decode cX3_look 21 = .ok (.iastore, 1) := by decide +kernel
theorem dX3_look_22 : decode cX3_look 22 = .ok (.aload_n 0, 1) := by decide +kernel
theorem dX3_look_23 : decode cX3_look 23 = .ok (.getfield 21, 3) := by decide +kernel
theorem dX3_look_26 : decode cX3_look 26 = .ok (.iconst 1, 1) := by decide +kernel
theorem dX3_look_27 : decode cX3_look 27 = .ok (.aload_n 1, 1) := by decide +kernel
theorem dX3_look_28 : decode cX3_look 28 = .ok (.getfield 78, 3) := by decide +kernel
theorem dX3_look_31 : decode cX3_look 31 = .ok (.iload_n 2, 1) := by decide +kernel
theorem dX3_look_32 : decode cX3_look 32 = .ok (.iaload, 1) := by decide +kernel
theorem dX3_look_33 : decode cX3_look 33 = .ok (.iastore, 1) := by decide +kernel
theorem dX3_look_34 : decode cX3_look 34 = .ok (.aload_n 0, 1) := by decide +kernel
theorem dX3_look_35 : decode cX3_look 35 = .ok (.getfield 21, 3) := by decide +kernel
theorem dX3_look_38 : decode cX3_look 38 = .ok (.iconst 2, 1) := by decide +kernel
theorem dX3_look_39 : decode cX3_look 39 = .ok (.aload_n 1, 1) := by decide +kernel
theorem dX3_look_40 : decode cX3_look 40 = .ok (.getfield 81, 3) := by decide +kernel
theorem dX3_look_43 : decode cX3_look 43 = .ok (.iload_n 2, 1) := by decide +kernel
theorem dX3_look_44 : decode cX3_look 44 = .ok (.iaload, 1) := by decide +kernel
theorem dX3_look_45 : decode cX3_look 45 = .ok (.iastore, 1) := by decide +kernel
theorem dX3_look_46 : decode cX3_look 46 = .ok (.aload_n 0, 1) := by decide +kernel
theorem dX3_look_47 : decode cX3_look 47 = .ok (.getfield 21, 3) := by decide +kernel
theorem dX3_look_50 : decode cX3_look 50 = .ok (.iconst 3, 1) := by decide +kernel
theorem dX3_look_51 : decode cX3_look 51 = .ok (.iload_n 3, 1) := by decide +kernel
theorem dX3_look_52 : decode cX3_look 52 = .ok (.iastore, 1) := by decide +kernel
theorem dX3_look_53 : decode cX3_look 53 = .ok (.aload_n 0, 1) := by decide +kernel
theorem dX3_look_54 : decode cX3_look 54 = .ok (.getfield 21, 3) := by decide +kernel
theorem dX3_look_57 : decode cX3_look 57 = .ok (.iconst 4, 1) := by decide +kernel
theorem dX3_look_58 : decode cX3_look 58 = .ok (.aload_n 1, 1) := by decide +kernel
theorem dX3_look_59 : decode cX3_look 59 = .ok (.getfield 84, 3) := by decide +kernel
theorem dX3_look_62 : decode cX3_look 62 = .ok (.iload_n 2, 1) := by decide +kernel
theorem dX3_look_63 : decode cX3_look 63 = .ok (.iaload, 1) := by decide +kernel
theorem dX3_look_64 : decode cX3_look 64 = .ok (.iastore, 1) := by decide +kernel
theorem dX3_look_65 : decode cX3_look 65 = .ok (.return_, 1) := by decide +kernel
def fX3_look_B65 (k : Nat) (k0 : Nat) (μ : vr_M) : Option (Int × vr_M) :=
  some (0, μ)
def fX3_look (k : Nat) (k0 : Nat) (a1 : Int) (a2 : Int) (μ : vr_M) : Option (Int × vr_M) :=
  (fX2_has k0 a1 μ).bind (fun r1 => if r1.1 = 0 then fX3_look_B65 k k0 r1.2 else vr_gd (0 ≤ a1 ∧ a1 < 8) ((fun μ3 => (fun μ4 => (fun μ5 => fX3_look_B65 k k0 (vr_u μ5 (k + 4) 4 (μ5 (k0 + 2) a1.toNat))) (vr_u (vr_u μ4 (k + 4) 2 (μ4 (k0 + 1) a1.toNat)) (k + 4) 3 a2)) (vr_u μ3 (k + 4) 1 (μ3 (k0 + 4) a1.toNat))) (vr_u r1.2 (k + 4) 0 ((r1.2 (k0 + 3) a1.toNat) + 1))))
theorem mi_X3_look : vr_Mi RX3 yX3_look cX3_look 4 none 3 := ⟨⟨wi_yX3_look, ws_yX3_look, wz_X3, wc_yX3_look⟩, rfl, by decide, by decide, by decide +kernel⟩
set_option maxRecDepth 100000 in
set_option maxHeartbeats 4000000 in
theorem ct_X3_look (l : Launch) (G : vr_G) {k : Nat} (hk_k : k < 78) (hd_k : vr_kd k = 3) {k0 : Nat} (hk_k0 : k0 < 78) (hd_k0 : vr_kd k0 = 2) (a1 : Int) (h_a1 : vr_R a1) (a2 : Int) (h_a2 : vr_R a2) (μ : vr_M) : vr_CV l yX3_look cX3_look 4 none ({ frames := 1, cells := 0, slots := 0, locals := 21 } : Room) G [.ref (vr_ad G k), .ref (vr_ad G k0), .int (vr_I a1), .int (vr_I a2)] μ (fX3_look k k0 a1 a2 μ) := by
  refine vr_start (own := RX3) (by decide) rfl (Nat.le_of_ble_eq_true rfl) (fun p e s m args below meth c C0 => ?_)
  obtain ⟨q_k, ⟨d_k_1, d_k_2, d_k_3, d_k_4⟩, n_k_1, n_k_2, n_k_3, n_k_4⟩ := vr_land hk_k hd_k
  obtain ⟨q_k0, ⟨d_k0_1, d_k0_2, d_k0_3, d_k0_4, d_k0_5⟩, n_k0_1, n_k0_2, n_k0_3, n_k0_4, n_k0_5⟩ := vr_hill hk_k0 hd_k0
  show vr_J p l e _ s m args below meth c 4 G (vr_Z (vr_QV G) G args s below) 0 [(0, .ref (vr_ad G k)), (1, .ref (vr_ad G k0)), (2, .int (vr_I a1)), (3, .int (vr_I a2))] [] μ _
  have B65 : ∀ (μ : vr_M), vr_J p l e ({ frames := 1, cells := 0, slots := 0, locals := 21 } : Room) s m args below meth c 4 G (vr_Z (vr_QV G) G args s below) 65 [] [] μ (fX3_look_B65 k k0 μ) := by
    intro μ
    unfold fX3_look_B65
    exact jr_vret C0 dX3_look_65
  unfold fX3_look
  refine jr_aload_n C0 1 dX3_look_0 rfl rfl ?_
  refine jr_iload_n C0 2 dX3_look_1 rfl rfl ?_
  refine jr_vI C0 hk_k0 hd_k0 (by decide) rfl (ct_X2_has l G hk_k0 hd_k0 a1 h_a1 _) mi_X2_has wm_X3_56 ⟨Nat.le_of_ble_eq_true rfl, Nat.le_of_ble_eq_true rfl⟩ ⟨rfl, rfl⟩ (As := [.int (vr_I a1)]) rfl (st := []) rfl (Nat.le_of_ble_eq_true rfl) dX3_look_2 (fun r1 hr1 => ?_)
  refine jr_if_eq C0 hr1 dX3_look_5 (tgt := 65) (by decide) ?_ ?_
  · refine jr_sub [] rfl ?_
    exact B65 _
  refine jr_aload_n C0 0 dX3_look_8 rfl rfl ?_
  refine jr_getr C0 hk_k hd_k (by decide) rfl wx_X3 (i := 9) (by decide) wf_X3_21 (j := (k + 4)) rfl dX3_look_9 ?_
  refine jr_iconst C0 dX3_look_12 ?_
  refine jr_aload_n C0 1 dX3_look_13 rfl rfl ?_
  refine jr_getr C0 hk_k0 hd_k0 (by decide) rfl wx_X2 (i := 2) (by decide) wf_X3_65 (j := (k0 + 3)) rfl dX3_look_14 ?_
  refine jr_iload_n C0 2 dX3_look_17 rfl rfl ?_
  refine jr_gd (fun g2 => ?_)
  refine jr_iald C0 (by omega) d_k0_3 n_k0_3 g2 (j := a1.toNat) rfl dX3_look_18 ?_
  refine jr_iconst C0 dX3_look_19 ?_
  refine jr_iadd C0 dX3_look_20 ?_
  refine jr_iast C0 (by omega) d_k_4 n_k_4 (by decide) (j := 0) rfl dX3_look_21 ?_
  refine jr_aload_n C0 0 dX3_look_22 rfl rfl ?_
  refine jr_getr C0 hk_k hd_k (by decide) rfl wx_X3 (i := 9) (by decide) wf_X3_21 (j := (k + 4)) rfl dX3_look_23 ?_
  refine jr_iconst C0 dX3_look_26 ?_
  refine jr_aload_n C0 1 dX3_look_27 rfl rfl ?_
  refine jr_getr C0 hk_k0 hd_k0 (by decide) rfl wx_X2 (i := 3) (by decide) wf_X3_78 (j := (k0 + 4)) rfl dX3_look_28 ?_
  refine jr_iload_n C0 2 dX3_look_31 rfl rfl ?_
  refine jr_iald C0 (by omega) d_k0_4 n_k0_4 g2 (j := a1.toNat) rfl dX3_look_32 ?_
  refine jr_iast C0 (by omega) d_k_4 n_k_4 (by decide) (j := 1) rfl dX3_look_33 ?_
  refine jr_aload_n C0 0 dX3_look_34 rfl rfl ?_
  refine jr_getr C0 hk_k hd_k (by decide) rfl wx_X3 (i := 9) (by decide) wf_X3_21 (j := (k + 4)) rfl dX3_look_35 ?_
  refine jr_iconst C0 dX3_look_38 ?_
  refine jr_aload_n C0 1 dX3_look_39 rfl rfl ?_
  refine jr_getr C0 hk_k0 hd_k0 (by decide) rfl wx_X2 (i := 0) (by decide) wf_X3_81 (j := (k0 + 1)) rfl dX3_look_40 ?_
  refine jr_iload_n C0 2 dX3_look_43 rfl rfl ?_
  refine jr_iald C0 (by omega) d_k0_1 n_k0_1 g2 (j := a1.toNat) rfl dX3_look_44 ?_
  refine jr_iast C0 (by omega) d_k_4 n_k_4 (by decide) (j := 2) rfl dX3_look_45 ?_
  refine jr_aload_n C0 0 dX3_look_46 rfl rfl ?_
  refine jr_getr C0 hk_k hd_k (by decide) rfl wx_X3 (i := 9) (by decide) wf_X3_21 (j := (k + 4)) rfl dX3_look_47 ?_
  refine jr_iconst C0 dX3_look_50 ?_
  refine jr_iload_n C0 3 dX3_look_51 rfl rfl ?_
  refine jr_iast C0 (by omega) d_k_4 n_k_4 (by decide) (j := 3) rfl dX3_look_52 ?_
  refine jr_aload_n C0 0 dX3_look_53 rfl rfl ?_
  refine jr_getr C0 hk_k hd_k (by decide) rfl wx_X3 (i := 9) (by decide) wf_X3_21 (j := (k + 4)) rfl dX3_look_54 ?_
  refine jr_iconst C0 dX3_look_57 ?_
  refine jr_aload_n C0 1 dX3_look_58 rfl rfl ?_
  refine jr_getr C0 hk_k0 hd_k0 (by decide) rfl wx_X2 (i := 1) (by decide) wf_X3_84 (j := (k0 + 2)) rfl dX3_look_59 ?_
  refine jr_iload_n C0 2 dX3_look_62 rfl rfl ?_
  refine jr_iald C0 (by omega) d_k0_2 n_k0_2 g2 (j := a1.toNat) rfl dX3_look_63 ?_
  refine jr_iast C0 (by omega) d_k_4 n_k_4 (by decide) (j := 4) rfl dX3_look_64 ?_
  refine jr_sub [] rfl ?_
  exact B65 _
theorem dX3_passes_0 : decode cX3_passes 0 = .ok (.iload_n 1, 1) := by decide +kernel
theorem dX3_passes_1 : decode cX3_passes 1 = .ok (.sipush 300, 3) := by decide +kernel
theorem dX3_passes_4 : decode cX3_passes 4 = .ok (.idiv, 1) := by decide +kernel
theorem dX3_passes_5 : decode cX3_passes 5 = .ok (.istore_n 2, 1) := by decide +kernel
theorem dX3_passes_6 : decode cX3_passes 6 = .ok (.iload_n 2, 1) := by decide +kernel
theorem dX3_passes_7 : decode cX3_passes 7 = .ok (.ifCond .lt 12, 3) := by decide +kernel
theorem dX3_passes_10 : decode cX3_passes 10 = .ok (.iload_n 2, 1) := by decide +kernel
theorem dX3_passes_11 : decode cX3_passes 11 = .ok (.aload_n 0, 1) := by decide +kernel
theorem dX3_passes_12 : decode cX3_passes 12 = .ok (.getfield 21, 3) := by decide +kernel
theorem dX3_passes_15 : decode cX3_passes 15 = .ok (.arraylength, 1) := by decide +kernel
theorem dX3_passes_16 : decode cX3_passes 16 = .ok (.if_icmp .lt 5, 3) := by decide +kernel
theorem dX3_passes_19 : decode cX3_passes 19 = .ok (.iconst 0, 1) := by decide +kernel
theorem dX3_passes_20 : decode cX3_passes 20 = .ok (.ireturn, 1) := by decide +kernel
theorem dX3_passes_21 : decode cX3_passes 21 = .ok (.iload_n 1, 1) := by decide +kernel
theorem dX3_passes_22 : decode cX3_passes 22 = .ok (.bipush 100, 2) := by decide +kernel
theorem dX3_passes_24 : decode cX3_passes 24 = .ok (.irem, 1) := by decide +kernel
theorem dX3_passes_25 : decode cX3_passes 25 = .ok (.istore_n 3, 1) := by decide +kernel
theorem dX3_passes_26 : decode cX3_passes 26 = .ok (.aload_n 0, 1) := by decide +kernel
theorem dX3_passes_27 : decode cX3_passes 27 = .ok (.getfield 21, 3) := by decide +kernel
theorem dX3_passes_30 : decode cX3_passes 30 = .ok (.iload_n 2, 1) := by decide +kernel
theorem dX3_passes_31 : decode cX3_passes 31 = .ok (.iaload, 1) := by decide +kernel
theorem dX3_passes_32 : decode cX3_passes 32 = .ok (.iload_n 3, 1) := by decide +kernel
theorem dX3_passes_33 : decode cX3_passes 33 = .ok (.if_icmp .ge 7, 3) := by decide +kernel
theorem dX3_passes_36 : decode cX3_passes 36 = .ok (.iconst 0, 1) := by decide +kernel
theorem dX3_passes_37 : decode cX3_passes 37 = .ok (.goto 18, 3) := by decide +kernel
theorem dX3_passes_40 : decode cX3_passes 40 = .ok (.aload_n 0, 1) := by decide +kernel
theorem dX3_passes_41 : decode cX3_passes 41 = .ok (.getfield 21, 3) := by decide +kernel
theorem dX3_passes_44 : decode cX3_passes 44 = .ok (.iload_n 2, 1) := by decide +kernel
theorem dX3_passes_45 : decode cX3_passes 45 = .ok (.iaload, 1) := by decide +kernel
theorem dX3_passes_46 : decode cX3_passes 46 = .ok (.iload_n 3, 1) := by decide +kernel
theorem dX3_passes_47 : decode cX3_passes 47 = .ok (.if_icmp .ne 7, 3) := by decide +kernel
theorem dX3_passes_50 : decode cX3_passes 50 = .ok (.iconst 1, 1) := by decide +kernel
theorem dX3_passes_51 : decode cX3_passes 51 = .ok (.goto 4, 3) := by decide +kernel
theorem dX3_passes_54 : decode cX3_passes 54 = .ok (.iconst 2, 1) := by decide +kernel
theorem dX3_passes_55 : decode cX3_passes 55 = .ok (.istore 4, 2) := by decide +kernel
theorem dX3_passes_57 : decode cX3_passes 57 = .ok (.iload 4, 2) := by decide +kernel
theorem dX3_passes_59 : decode cX3_passes 59 = .ok (.iload_n 1, 1) := by decide +kernel
theorem dX3_passes_60 : decode cX3_passes 60 = .ok (.bipush 100, 2) := by decide +kernel
theorem dX3_passes_62 : decode cX3_passes 62 = .ok (.idiv, 1) := by decide +kernel
theorem dX3_passes_63 : decode cX3_passes 63 = .ok (.iconst 3, 1) := by decide +kernel
theorem dX3_passes_64 : decode cX3_passes 64 = .ok (.irem, 1) := by decide +kernel
theorem dX3_passes_65 : decode cX3_passes 65 = .ok (.if_icmp .ne 7, 3) := by decide +kernel
theorem dX3_passes_68 : decode cX3_passes 68 = .ok (.iconst 1, 1) := by decide +kernel
theorem dX3_passes_69 : decode cX3_passes 69 = .ok (.goto 4, 3) := by decide +kernel
theorem dX3_passes_72 : decode cX3_passes 72 = .ok (.iconst 0, 1) := by decide +kernel
theorem dX3_passes_73 : decode cX3_passes 73 = .ok (.ireturn, 1) := by decide +kernel
def fX3_passes_B19 (k : Nat) (μ : vr_M) : Option (Int × vr_M) :=
  some (0, μ)
def fX3_passes_B73 (k : Nat) (y0 : Int) (μ : vr_M) : Option (Int × vr_M) :=
  some (y0, μ)
def fX3_passes_B55 (k : Nat) (x1 : Int) (y0 : Int) (μ : vr_M) : Option (Int × vr_M) :=
  vr_gd (vr_R (x1.tdiv 100)) (vr_gd (vr_R ((x1.tdiv 100).tmod 3)) (if ¬ y0 = ((x1.tdiv 100).tmod 3) then fX3_passes_B73 k 0 μ else fX3_passes_B73 k 1 μ))
def fX3_passes (k : Nat) (a0 : Int) (μ : vr_M) : Option (Int × vr_M) :=
  vr_gd (vr_R (a0.tdiv 300)) (if (a0.tdiv 300) < 0 then fX3_passes_B19 k μ else if (a0.tdiv 300) < 5 then vr_gd (0 ≤ (a0.tdiv 300) ∧ (a0.tdiv 300) < 5) (vr_gd (vr_R (μ (k + 4) (a0.tdiv 300).toNat)) (vr_gd (vr_R (a0.tmod 100)) (if (a0.tmod 100) ≤ (μ (k + 4) (a0.tdiv 300).toNat) then if ¬ (μ (k + 4) (a0.tdiv 300).toNat) = (a0.tmod 100) then fX3_passes_B55 k a0 2 μ else fX3_passes_B55 k a0 1 μ else fX3_passes_B55 k a0 0 μ))) else fX3_passes_B19 k μ)
theorem mi_X3_passes : vr_Mi RX3 yX3_passes cX3_passes 5 (some .int) 1 := ⟨⟨wi_yX3_passes, ws_yX3_passes, wz_X3, wc_yX3_passes⟩, rfl, by decide, by decide, by decide +kernel⟩
set_option maxRecDepth 100000 in
set_option maxHeartbeats 4000000 in
theorem ct_X3_passes (l : Launch) (G : vr_G) {k : Nat} (hk_k : k < 78) (hd_k : vr_kd k = 3) (a0 : Int) (h_a0 : vr_R a0) (μ : vr_M) : vr_CI l yX3_passes cX3_passes 5 (some .int) ({ frames := 0, cells := 0, slots := 0, locals := 0 } : Room) G [.ref (vr_ad G k), .int (vr_I a0)] μ (fX3_passes k a0 μ) := by
  refine vr_start (own := RX3) (by decide) rfl (Nat.le_of_ble_eq_true rfl) (fun p e s m args below meth c C0 => ?_)
  obtain ⟨q_k, ⟨d_k_1, d_k_2, d_k_3, d_k_4⟩, n_k_1, n_k_2, n_k_3, n_k_4⟩ := vr_land hk_k hd_k
  show vr_J p l e _ s m args below meth c 5 G (vr_Z (vr_QI G) G args s below) 0 [(0, .ref (vr_ad G k)), (1, .int (vr_I a0))] [] μ _
  have B19 : ∀ (μ : vr_M), vr_J p l e ({ frames := 0, cells := 0, slots := 0, locals := 0 } : Room) s m args below meth c 5 G (vr_Z (vr_QI G) G args s below) 19 [] [] μ (fX3_passes_B19 k μ) := by
    intro μ
    unfold fX3_passes_B19
    refine jr_iconst C0 dX3_passes_19 ?_
    exact jr_iret C0 (⟨by decide, by decide⟩) dX3_passes_20
  have B73 : ∀ (y0 : Int) (h_y0 : vr_R y0) (μ : vr_M), vr_J p l e ({ frames := 0, cells := 0, slots := 0, locals := 0 } : Room) s m args below meth c 5 G (vr_Z (vr_QI G) G args s below) 73 [] [.int (vr_I y0)] μ (fX3_passes_B73 k y0 μ) := by
    intro y0 h_y0 μ
    unfold fX3_passes_B73
    exact jr_iret C0 h_y0 dX3_passes_73
  have B55 : ∀ (x1 : Int) (h_x1 : vr_R x1) (y0 : Int) (h_y0 : vr_R y0) (μ : vr_M), vr_J p l e ({ frames := 0, cells := 0, slots := 0, locals := 0 } : Room) s m args below meth c 5 G (vr_Z (vr_QI G) G args s below) 55 [(1, .int (vr_I x1))] [.int (vr_I y0)] μ (fX3_passes_B55 k x1 y0 μ) := by
    intro x1 h_x1 y0 h_y0 μ
    unfold fX3_passes_B55
    refine jr_istore C0 dX3_passes_55 (by decide) (lv' := [(4, .int (vr_I y0)), (1, .int (vr_I x1))]) rfl ?_
    refine jr_iload C0 0 dX3_passes_57 rfl ?_
    refine jr_iload_n C0 1 dX3_passes_59 rfl rfl ?_
    refine jr_bipush C0 dX3_passes_60 rfl ?_
    refine jr_idiv C0 h_x1 (⟨by decide, by decide⟩) (by decide) dX3_passes_62 ?_
    refine jr_iconst C0 dX3_passes_63 ?_
    refine jr_gd (fun g1 => ?_)
    refine jr_irem C0 g1 (⟨by decide, by decide⟩) (by decide) dX3_passes_64 ?_
    refine jr_gd (fun g2 => ?_)
    refine jr_icmp_ne C0 h_y0 g2 dX3_passes_65 (tgt := 72) (by decide) ?_ ?_
    · refine jr_iconst C0 dX3_passes_72 ?_
      refine jr_sub [] rfl ?_
      exact B73 0 (⟨by decide, by decide⟩) _
    refine jr_iconst C0 dX3_passes_68 ?_
    refine jr_goto C0 dX3_passes_69 (tgt := 73) (by decide) ?_
    refine jr_sub [] rfl ?_
    exact B73 1 (⟨by decide, by decide⟩) _
  unfold fX3_passes
  refine jr_iload_n C0 1 dX3_passes_0 rfl rfl ?_
  refine jr_sipush C0 dX3_passes_1 rfl ?_
  refine jr_idiv C0 h_a0 (⟨by decide, by decide⟩) (by decide) dX3_passes_4 ?_
  refine jr_istore_n C0 dX3_passes_5 rfl (by decide) (lv' := [(2, .int (vr_I (a0.tdiv 300))), (0, .ref (vr_ad G k)), (1, .int (vr_I a0))]) rfl ?_
  refine jr_iload_n C0 0 dX3_passes_6 rfl rfl ?_
  refine jr_gd (fun g3 => ?_)
  refine jr_if_lt C0 g3 dX3_passes_7 (tgt := 19) (by decide) ?_ ?_
  · refine jr_sub [] rfl ?_
    exact B19 _
  refine jr_iload_n C0 0 dX3_passes_10 rfl rfl ?_
  refine jr_aload_n C0 1 dX3_passes_11 rfl rfl ?_
  refine jr_getr C0 hk_k hd_k (by decide) rfl wx_X3 (i := 9) (by decide) wf_X3_21 (j := (k + 4)) rfl dX3_passes_12 ?_
  refine jr_alen C0 (by omega) d_k_4 n_k_4 dX3_passes_15 ?_
  refine jr_icmp_lt C0 g3 (⟨by decide, by decide⟩) dX3_passes_16 (tgt := 21) (by decide) ?_ ?_
  · refine jr_iload_n C0 2 dX3_passes_21 rfl rfl ?_
    refine jr_bipush C0 dX3_passes_22 rfl ?_
    refine jr_irem C0 h_a0 (⟨by decide, by decide⟩) (by decide) dX3_passes_24 ?_
    refine jr_istore_n C0 dX3_passes_25 rfl (by decide) (lv' := [(3, .int (vr_I (a0.tmod 100))), (2, .int (vr_I (a0.tdiv 300))), (0, .ref (vr_ad G k)), (1, .int (vr_I a0))]) rfl ?_
    refine jr_aload_n C0 2 dX3_passes_26 rfl rfl ?_
    refine jr_getr C0 hk_k hd_k (by decide) rfl wx_X3 (i := 9) (by decide) wf_X3_21 (j := (k + 4)) rfl dX3_passes_27 ?_
    refine jr_iload_n C0 1 dX3_passes_30 rfl rfl ?_
    refine jr_gd (fun g4 => ?_)
    refine jr_iald C0 (by omega) d_k_4 n_k_4 g4 (j := (a0.tdiv 300).toNat) rfl dX3_passes_31 ?_
    refine jr_iload_n C0 0 dX3_passes_32 rfl rfl ?_
    refine jr_gd (fun g5 => ?_)
    refine jr_gd (fun g6 => ?_)
    refine jr_icmp_ge C0 g5 g6 dX3_passes_33 (tgt := 40) (by decide) ?_ ?_
    · refine jr_aload_n C0 2 dX3_passes_40 rfl rfl ?_
      refine jr_getr C0 hk_k hd_k (by decide) rfl wx_X3 (i := 9) (by decide) wf_X3_21 (j := (k + 4)) rfl dX3_passes_41 ?_
      refine jr_iload_n C0 1 dX3_passes_44 rfl rfl ?_
      refine jr_iald C0 (by omega) d_k_4 n_k_4 g4 (j := (a0.tdiv 300).toNat) rfl dX3_passes_45 ?_
      refine jr_iload_n C0 0 dX3_passes_46 rfl rfl ?_
      refine jr_icmp_ne C0 g5 g6 dX3_passes_47 (tgt := 54) (by decide) ?_ ?_
      · refine jr_iconst C0 dX3_passes_54 ?_
        refine jr_sub [3] rfl ?_
        exact B55 a0 h_a0 2 (⟨by decide, by decide⟩) _
      refine jr_iconst C0 dX3_passes_50 ?_
      refine jr_goto C0 dX3_passes_51 (tgt := 55) (by decide) ?_
      refine jr_sub [3] rfl ?_
      exact B55 a0 h_a0 1 (⟨by decide, by decide⟩) _
    refine jr_iconst C0 dX3_passes_36 ?_
    refine jr_goto C0 dX3_passes_37 (tgt := 55) (by decide) ?_
    refine jr_sub [3] rfl ?_
    exact B55 a0 h_a0 0 (⟨by decide, by decide⟩) _
  refine jr_sub [] rfl ?_
  exact B19 _
theorem dX3_holds_0 : decode cX3_holds 0 = .ok (.iload_n 1, 1) := by decide +kernel
theorem dX3_holds_1 : decode cX3_holds 1 = .ok (.ifCond .lt 9, 3) := by decide +kernel
theorem dX3_holds_4 : decode cX3_holds 4 = .ok (.iload_n 1, 1) := by decide +kernel
theorem dX3_holds_5 : decode cX3_holds 5 = .ok (.bipush 10, 2) := by decide +kernel
theorem dX3_holds_7 : decode cX3_holds 7 = .ok (.if_icmp .lt 5, 3) := by decide +kernel
theorem dX3_holds_10 : decode cX3_holds 10 = .ok (.iconst 0, 1) := by decide +kernel
theorem dX3_holds_11 : decode cX3_holds 11 = .ok (.ireturn, 1) := by decide +kernel
theorem dX3_holds_12 : decode cX3_holds 12 = .ok (.lconst 0, 1) := by decide +kernel
theorem dX3_holds_13 : decode cX3_holds 13 = .ok (.lstore_n 2, 1) := by decide +kernel
theorem dX3_holds_14 : decode cX3_holds 14 = .ok (.iload_n 1, 1) := by decide +kernel
theorem dX3_holds_15 : decode cX3_holds 15 = .ok (.ifCond .ne 7, 3) := by decide +kernel
theorem dX3_holds_18 : decode cX3_holds 18 = .ok (.iconst 0, 1) := by decide +kernel
theorem dX3_holds_19 : decode cX3_holds 19 = .ok (.goto 11, 3) := by decide +kernel
theorem dX3_holds_22 : decode cX3_holds 22 = .ok (.aload_n 0, 1) := by decide +kernel
theorem dX3_holds_23 : decode cX3_holds 23 = .ok (.getfield 15, 3) := by decide +kernel
theorem dX3_holds_26 : decode cX3_holds 26 = .ok (.iload_n 1, 1) := by decide +kernel
theorem dX3_holds_27 : decode cX3_holds 27 = .ok (.iconst 1, 1) := by decide +kernel
theorem dX3_holds_28 : decode cX3_holds 28 = .ok (.isub, 1) := by decide +kernel
theorem dX3_holds_29 : decode cX3_holds 29 = .ok (.iaload, 1) := by decide +kernel
theorem dX3_holds_30 : decode cX3_holds 30 = .ok (.istore 4, 2) := by decide +kernel
theorem dX3_holds_32 : decode cX3_holds 32 = .ok (.iload 4, 2) := by decide +kernel
theorem dX3_holds_34 : decode cX3_holds 34 = .ok (.iconst 0, 1) := by decide +kernel
theorem dX3_holds_35 : decode cX3_holds 35 = .ok (.invokestatic 75, 3) := by decide +kernel
theorem dX3_holds_38 : decode cX3_holds 38 = .ok (.istore 5, 2) := by decide +kernel
theorem dX3_holds_40 : decode cX3_holds 40 = .ok (.iload 5, 2) := by decide +kernel
theorem dX3_holds_42 : decode cX3_holds 42 = .ok (.aload_n 0, 1) := by decide +kernel
theorem dX3_holds_43 : decode cX3_holds 43 = .ok (.getfield 15, 3) := by decide +kernel
theorem dX3_holds_46 : decode cX3_holds 46 = .ok (.iload_n 1, 1) := by decide +kernel
theorem dX3_holds_47 : decode cX3_holds 47 = .ok (.iaload, 1) := by decide +kernel
theorem dX3_holds_48 : decode cX3_holds 48 = .ok (.if_icmp .ge 98, 3) := by decide +kernel
theorem dX3_holds_51 : decode cX3_holds 51 = .ok (.iload 5, 2) := by decide +kernel
theorem dX3_holds_53 : decode cX3_holds 53 = .ok (.bipush 120, 2) := by decide +kernel
theorem dX3_holds_55 : decode cX3_holds 55 = .ok (.if_icmp .ge 91, 3) := by decide +kernel
theorem dX3_holds_58 : decode cX3_holds 58 = .ok (.aload_n 0, 1) := by decide +kernel
theorem dX3_holds_59 : decode cX3_holds 59 = .ok (.getfield 18, 3) := by decide +kernel
theorem dX3_holds_62 : decode cX3_holds 62 = .ok (.iload 5, 2) := by decide +kernel
theorem dX3_holds_64 : decode cX3_holds 64 = .ok (.iaload, 1) := by decide +kernel
theorem dX3_holds_65 : decode cX3_holds 65 = .ok (.tableswitch 58 (-3) (-1) #[47, 34, 27], 27) := by decide +kernel
theorem dX3_holds_92 : decode cX3_holds 92 = .ok (.lload_n 2, 1) := by decide +kernel
theorem dX3_holds_93 : decode cX3_holds 93 = .ok (.lconst 1, 1) := by decide +kernel
theorem dX3_holds_94 : decode cX3_holds 94 = .ok (.lxor, 1) := by decide +kernel
theorem dX3_holds_95 : decode cX3_holds 95 = .ok (.lstore_n 2, 1) := by decide +kernel
theorem dX3_holds_96 : decode cX3_holds 96 = .ok (.goto 44, 3) := by decide +kernel
theorem dX3_holds_99 : decode cX3_holds 99 = .ok (.lload_n 2, 1) := by decide +kernel
theorem dX3_holds_100 : decode cX3_holds 100 = .ok (.iconst 1, 1) := by decide +kernel
theorem dX3_holds_101 : decode cX3_holds 101 = .ok (.lushr, 1) := by decide +kernel
theorem dX3_holds_102 : decode cX3_holds 102 = .ok (.lload_n 2, 1) := by decide +kernel
theorem dX3_holds_103 : decode cX3_holds 103 = .ok (.ldc2_w 87, 3) := by decide +kernel
theorem dX3_holds_106 : decode cX3_holds 106 = .ok (.lor, 1) := by decide +kernel
theorem dX3_holds_107 : decode cX3_holds 107 = .ok (.land, 1) := by decide +kernel
theorem dX3_holds_108 : decode cX3_holds 108 = .ok (.lstore_n 2, 1) := by decide +kernel
theorem dX3_holds_109 : decode cX3_holds 109 = .ok (.goto 31, 3) := by decide +kernel
theorem dX3_holds_112 : decode cX3_holds 112 = .ok (.lload_n 2, 1) := by decide +kernel
theorem dX3_holds_113 : decode cX3_holds 113 = .ok (.iconst 1, 1) := by decide +kernel
theorem dX3_holds_114 : decode cX3_holds 114 = .ok (.lushr, 1) := by decide +kernel
theorem dX3_holds_115 : decode cX3_holds 115 = .ok (.lload_n 2, 1) := by decide +kernel
theorem dX3_holds_116 : decode cX3_holds 116 = .ok (.lconst 1, 1) := by decide +kernel
theorem dX3_holds_117 : decode cX3_holds 117 = .ok (.land, 1) := by decide +kernel
theorem dX3_holds_118 : decode cX3_holds 118 = .ok (.lor, 1) := by decide +kernel
theorem dX3_holds_119 : decode cX3_holds 119 = .ok (.lstore_n 2, 1) := by decide +kernel
theorem dX3_holds_120 : decode cX3_holds 120 = .ok (.goto 20, 3) := by decide +kernel
theorem dX3_holds_123 : decode cX3_holds 123 = .ok (.lload_n 2, 1) := by decide +kernel
theorem dX3_holds_124 : decode cX3_holds 124 = .ok (.iconst 1, 1) := by decide +kernel
theorem dX3_holds_125 : decode cX3_holds 125 = .ok (.lshl, 1) := by decide +kernel
theorem dX3_holds_126 : decode cX3_holds 126 = .ok (.aload_n 0, 1) := by decide +kernel
theorem dX3_holds_127 : decode cX3_holds 127 = .ok (.aload_n 0, 1) := by decide +kernel
theorem dX3_holds_128 : decode cX3_holds 128 = .ok (.getfield 18, 3) := by decide +kernel
theorem dX3_holds_131 : decode cX3_holds 131 = .ok (.iload 5, 2) := by decide +kernel
theorem dX3_holds_133 : decode cX3_holds 133 = .ok (.iaload, 1) := by decide +kernel
theorem dX3_holds_134 : decode cX3_holds 134 = .ok (.invokevirtual 89, 3) := by decide +kernel
theorem dX3_holds_137 : decode cX3_holds 137 = .ok (.i2l, 1) := by decide +kernel
theorem dX3_holds_138 : decode cX3_holds 138 = .ok (.lor, 1) := by decide +kernel
theorem dX3_holds_139 : decode cX3_holds 139 = .ok (.lstore_n 2, 1) := by decide +kernel
theorem dX3_holds_140 : decode cX3_holds 140 = .ok (.iinc 5 1, 3) := by decide +kernel
theorem dX3_holds_143 : decode cX3_holds 143 = .ok (.goto (-103), 3) := by decide +kernel
theorem dX3_holds_146 : decode cX3_holds 146 = .ok (.lload_n 2, 1) := by decide +kernel
theorem dX3_holds_147 : decode cX3_holds 147 = .ok (.lconst 1, 1) := by decide +kernel
theorem dX3_holds_148 : decode cX3_holds 148 = .ok (.land, 1) := by decide +kernel
theorem dX3_holds_149 : decode cX3_holds 149 = .ok (.lconst 0, 1) := by decide +kernel
theorem dX3_holds_150 : decode cX3_holds 150 = .ok (.lcmp, 1) := by decide +kernel
theorem dX3_holds_151 : decode cX3_holds 151 = .ok (.ifCond .eq 7, 3) := by decide +kernel
theorem dX3_holds_154 : decode cX3_holds 154 = .ok (.iconst 1, 1) := by decide +kernel
theorem dX3_holds_155 : decode cX3_holds 155 = .ok (.goto 4, 3) := by decide +kernel
theorem dX3_holds_158 : decode cX3_holds 158 = .ok (.iconst 0, 1) := by decide +kernel
theorem dX3_holds_159 : decode cX3_holds 159 = .ok (.ireturn, 1) := by decide +kernel
def fX3_holds_B10 (k : Nat) (μ : vr_M) : Option (Int × vr_M) :=
  some (0, μ)
def fX3_holds_B159 (k : Nat) (y0 : Int) (μ : vr_M) : Option (Int × vr_M) :=
  vr_gd (y0 = 0 ∨ y0 = 1) (some (y0, μ))
def fX3_holds_B146 (k : Nat) (x2 : Int64) (μ : vr_M) : Option (Int × vr_M) :=
  if (vr_lcmp (x2 &&& (1 : Int64)) (0 : Int64)) = 0 then fX3_holds_B159 k 0 μ else fX3_holds_B159 k 1 μ
def fX3_holds_B140 (k : Nat) (rc40 : Int → Int64 → Int → vr_M → Option (Int × vr_M)) (x1 : Int) (x2 : Int64) (x5 : Int) (μ : vr_M) : Option (Int × vr_M) :=
  vr_gd (vr_R (x5 + 1)) (rc40 x1 x2 (x5 + 1) μ)
def fX3_holds_L40 (k : Nat) : Nat → Int → Int64 → Int → vr_M → Option (Int × vr_M)
  | 0, _, _, _, _ => none
  | n + 1, x1, x2, x5, μ => vr_gd (0 ≤ x1 ∧ x1 < 10) (vr_gd (vr_R (μ (k + 2) x1.toNat)) (if (μ (k + 2) x1.toNat) ≤ x5 then fX3_holds_B146 k x2 μ else if 120 ≤ x5 then fX3_holds_B146 k x2 μ else vr_gd (0 ≤ x5 ∧ x5 < 120) (vr_gd (vr_R (μ (k + 3) x5.toNat)) (vr_sw (μ (k + 3) x5.toNat) (-3) [fX3_holds_B140 k (fX3_holds_L40 k n) x1 ((vr_lushr x2 1) ||| (x2 &&& (1 : Int64))) x5 μ, fX3_holds_B140 k (fX3_holds_L40 k n) x1 ((vr_lushr x2 1) &&& (x2 ||| ((-2) : Int64))) x5 μ, fX3_holds_B140 k (fX3_holds_L40 k n) x1 (x2 ^^^ (1 : Int64)) x5 μ] ((fX3_passes k (μ (k + 3) x5.toNat) μ).bind (fun r7 => fX3_holds_B140 k (fX3_holds_L40 k n) x1 ((vr_lshl x2 1) ||| (vr_i2l r7.1)) x5 r7.2))))))
def fX3_holds_B30 (k : Nat) (x1 : Int) (x2 : Int64) (y0 : Int) (μ : vr_M) : Option (Int × vr_M) :=
  vr_gd (vr_R (max y0 0)) (fX3_holds_L40 k 9000 x1 x2 (max y0 0) μ)
def fX3_holds (k : Nat) (a0 : Int) (μ : vr_M) : Option (Int × vr_M) :=
  if a0 < 0 then fX3_holds_B10 k μ else if a0 < 10 then if ¬ a0 = 0 then vr_gd (0 ≤ (a0 - 1) ∧ (a0 - 1) < 10) (vr_gd (vr_R (μ (k + 2) (a0 - 1).toNat)) (fX3_holds_B30 k a0 (0 : Int64) (μ (k + 2) (a0 - 1).toNat) μ)) else fX3_holds_B30 k a0 (0 : Int64) 0 μ else fX3_holds_B10 k μ
theorem mi_X3_holds : vr_Mi RX3 yX3_holds cX3_holds 6 (some .boolean) 1 := ⟨⟨wi_yX3_holds, ws_yX3_holds, wz_X3, wc_yX3_holds⟩, rfl, by decide, by decide, by decide +kernel⟩
set_option maxRecDepth 100000 in
set_option maxHeartbeats 4000000 in
theorem ct_X3_holds (l : Launch) (G : vr_G) {k : Nat} (hk_k : k < 78) (hd_k : vr_kd k = 3) (a0 : Int) (h_a0 : vr_R a0) (μ : vr_M) : vr_CI l yX3_holds cX3_holds 6 (some .boolean) ({ frames := 1, cells := 0, slots := 0, locals := 24 } : Room) G [.ref (vr_ad G k), .int (vr_I a0)] μ (fX3_holds k a0 μ) := by
  refine vr_start (own := RX3) (by decide) rfl (Nat.le_of_ble_eq_true rfl) (fun p e s m args below meth c C0 => ?_)
  obtain ⟨q_k, ⟨d_k_1, d_k_2, d_k_3, d_k_4⟩, n_k_1, n_k_2, n_k_3, n_k_4⟩ := vr_land hk_k hd_k
  show vr_J p l e _ s m args below meth c 6 G (vr_Z (vr_QI G) G args s below) 0 [(0, .ref (vr_ad G k)), (1, .int (vr_I a0))] [] μ _
  have B10 : ∀ (μ : vr_M), vr_J p l e ({ frames := 1, cells := 0, slots := 0, locals := 24 } : Room) s m args below meth c 6 G (vr_Z (vr_QI G) G args s below) 10 [] [] μ (fX3_holds_B10 k μ) := by
    intro μ
    unfold fX3_holds_B10
    refine jr_iconst C0 dX3_holds_10 ?_
    exact jr_zret C0 (⟨by decide, by decide⟩) (vr_nz (Or.inl rfl)) dX3_holds_11
  have B159 : ∀ (y0 : Int) (h_y0 : vr_R y0) (μ : vr_M), vr_J p l e ({ frames := 1, cells := 0, slots := 0, locals := 24 } : Room) s m args below meth c 6 G (vr_Z (vr_QI G) G args s below) 159 [] [.int (vr_I y0)] μ (fX3_holds_B159 k y0 μ) := by
    intro y0 h_y0 μ
    unfold fX3_holds_B159
    refine jr_gd (fun g1 => ?_)
    exact jr_zret C0 h_y0 (vr_nz g1) dX3_holds_159
  have B146 : ∀ (x2 : Int64) (μ : vr_M), vr_J p l e ({ frames := 1, cells := 0, slots := 0, locals := 24 } : Room) s m args below meth c 6 G (vr_Z (vr_QI G) G args s below) 146 [(2, .long x2)] [] μ (fX3_holds_B146 k x2 μ) := by
    intro x2 μ
    unfold fX3_holds_B146
    refine jr_lload_n C0 0 dX3_holds_146 rfl rfl ?_
    refine jr_lconst C0 dX3_holds_147 (v := 1) rfl ?_
    refine jr_land C0 dX3_holds_148 ?_
    refine jr_lconst C0 dX3_holds_149 (v := 0) rfl ?_
    refine jr_lcmp C0 dX3_holds_150 ?_
    refine jr_if_eq C0 (vr_RT _) dX3_holds_151 (tgt := 158) (by decide) ?_ ?_
    · refine jr_iconst C0 dX3_holds_158 ?_
      refine jr_sub [] rfl ?_
      exact B159 0 (⟨by decide, by decide⟩) _
    refine jr_iconst C0 dX3_holds_154 ?_
    refine jr_goto C0 dX3_holds_155 (tgt := 159) (by decide) ?_
    refine jr_sub [] rfl ?_
    exact B159 1 (⟨by decide, by decide⟩) _
  have L40 : ∀ (n : Nat) (x1 : Int) (h_x1 : vr_R x1) (x2 : Int64) (x5 : Int) (h_x5 : vr_R x5) (μ : vr_M), vr_J p l e ({ frames := 1, cells := 0, slots := 0, locals := 24 } : Room) s m args below meth c 6 G (vr_Z (vr_QI G) G args s below) 40 [(0, .ref (vr_ad G k)), (1, .int (vr_I x1)), (2, .long x2), (5, .int (vr_I x5))] [] μ (fX3_holds_L40 k n x1 x2 x5 μ) := by
    intro n40
    induction n40 with
    | zero => intros; exact jr_none
    | succ n40 ih40 =>
      have B140 : ∀ (x1 : Int) (h_x1 : vr_R x1) (x2 : Int64) (x5 : Int) (h_x5 : vr_R x5) (μ : vr_M), vr_J p l e ({ frames := 1, cells := 0, slots := 0, locals := 24 } : Room) s m args below meth c 6 G (vr_Z (vr_QI G) G args s below) 140 [(0, .ref (vr_ad G k)), (1, .int (vr_I x1)), (2, .long x2), (5, .int (vr_I x5))] [] μ (fX3_holds_B140 k (fX3_holds_L40 k n40) x1 x2 x5 μ) := by
        intro x1 h_x1 x2 x5 h_x5 μ
        unfold fX3_holds_B140
        refine jr_iinc C0 (q := 3) dX3_holds_140 rfl (by decide) (lv' := [(5, .int (vr_I (x5 + 1))), (0, .ref (vr_ad G k)), (1, .int (vr_I x1)), (2, .long x2)]) rfl ?_
        refine jr_goto C0 dX3_holds_143 (tgt := 40) (by decide) ?_
        refine jr_gd (fun g2 => ?_)
        refine jr_sub [1, 2, 3, 0] rfl ?_
        exact ih40 x1 h_x1 x2 (x5 + 1) g2 _
      intro x1 h_x1 x2 x5 h_x5 μ
      rw [fX3_holds_L40.eq_2]
      refine jr_iload C0 3 dX3_holds_40 rfl ?_
      refine jr_aload_n C0 0 dX3_holds_42 rfl rfl ?_
      refine jr_getr C0 hk_k hd_k (by decide) rfl wx_X3 (i := 1) (by decide) wf_X3_15 (j := (k + 2)) rfl dX3_holds_43 ?_
      refine jr_iload_n C0 1 dX3_holds_46 rfl rfl ?_
      refine jr_gd (fun g3 => ?_)
      refine jr_iald C0 (by omega) d_k_2 n_k_2 g3 (j := x1.toNat) rfl dX3_holds_47 ?_
      refine jr_gd (fun g4 => ?_)
      refine jr_icmp_ge C0 h_x5 g4 dX3_holds_48 (tgt := 146) (by decide) ?_ ?_
      · refine jr_sub [2] rfl ?_
        exact B146 x2 _
      refine jr_iload C0 3 dX3_holds_51 rfl ?_
      refine jr_bipush C0 dX3_holds_53 rfl ?_
      refine jr_icmp_ge C0 h_x5 (⟨by decide, by decide⟩) dX3_holds_55 (tgt := 146) (by decide) ?_ ?_
      · refine jr_sub [2] rfl ?_
        exact B146 x2 _
      refine jr_aload_n C0 0 dX3_holds_58 rfl rfl ?_
      refine jr_getr C0 hk_k hd_k (by decide) rfl wx_X3 (i := 2) (by decide) wf_X3_18 (j := (k + 3)) rfl dX3_holds_59 ?_
      refine jr_iload C0 3 dX3_holds_62 rfl ?_
      refine jr_gd (fun g5 => ?_)
      refine jr_iald C0 (by omega) d_k_3 n_k_3 g5 (j := x5.toNat) rfl dX3_holds_64 ?_
      refine jr_gd (fun g6 => ?_)
      refine jr_tsw C0 g6 dX3_holds_65 (by decide) (td := 123) (by decide) (vr_TS_cons (tgt := 112) (by decide) ?_ (vr_TS_cons (tgt := 99) (by decide) ?_ (vr_TS_cons (tgt := 92) (by decide) ?_ vr_TS_nil))) ?_
      · show vr_J p l e _ s m args below meth c _ G _ 112 _ _ _ _
        refine jr_lload_n C0 2 dX3_holds_112 rfl rfl ?_
        refine jr_iconst C0 dX3_holds_113 ?_
        refine jr_lushr C0 dX3_holds_114 ?_
        refine jr_lload_n C0 2 dX3_holds_115 rfl rfl ?_
        refine jr_lconst C0 dX3_holds_116 (v := 1) rfl ?_
        refine jr_land C0 dX3_holds_117 ?_
        refine jr_lor C0 dX3_holds_118 ?_
        refine jr_lstore_n C0 dX3_holds_119 rfl (by decide) (lv' := [(2, .long ((vr_lushr x2 1) ||| (x2 &&& (1 : Int64)))), (0, .ref (vr_ad G k)), (1, .int (vr_I x1)), (5, .int (vr_I x5))]) rfl ?_
        refine jr_goto C0 dX3_holds_120 (tgt := 140) (by decide) ?_
        refine jr_sub [1, 2, 0, 3] rfl ?_
        exact B140 x1 h_x1 ((vr_lushr x2 1) ||| (x2 &&& (1 : Int64))) x5 h_x5 _
      · show vr_J p l e _ s m args below meth c _ G _ 99 _ _ _ _
        refine jr_lload_n C0 2 dX3_holds_99 rfl rfl ?_
        refine jr_iconst C0 dX3_holds_100 ?_
        refine jr_lushr C0 dX3_holds_101 ?_
        refine jr_lload_n C0 2 dX3_holds_102 rfl rfl ?_
        refine jr_ldc2 C0 wk_X3_87 dX3_holds_103 ?_
        refine jr_lor C0 dX3_holds_106 ?_
        refine jr_land C0 dX3_holds_107 ?_
        refine jr_lstore_n C0 dX3_holds_108 rfl (by decide) (lv' := [(2, .long ((vr_lushr x2 1) &&& (x2 ||| ((-2) : Int64)))), (0, .ref (vr_ad G k)), (1, .int (vr_I x1)), (5, .int (vr_I x5))]) rfl ?_
        refine jr_goto C0 dX3_holds_109 (tgt := 140) (by decide) ?_
        refine jr_sub [1, 2, 0, 3] rfl ?_
        exact B140 x1 h_x1 ((vr_lushr x2 1) &&& (x2 ||| ((-2) : Int64))) x5 h_x5 _
      · show vr_J p l e _ s m args below meth c _ G _ 92 _ _ _ _
        refine jr_lload_n C0 2 dX3_holds_92 rfl rfl ?_
        refine jr_lconst C0 dX3_holds_93 (v := 1) rfl ?_
        refine jr_lxor C0 dX3_holds_94 ?_
        refine jr_lstore_n C0 dX3_holds_95 rfl (by decide) (lv' := [(2, .long (x2 ^^^ (1 : Int64))), (0, .ref (vr_ad G k)), (1, .int (vr_I x1)), (5, .int (vr_I x5))]) rfl ?_
        refine jr_goto C0 dX3_holds_96 (tgt := 140) (by decide) ?_
        refine jr_sub [1, 2, 0, 3] rfl ?_
        exact B140 x1 h_x1 (x2 ^^^ (1 : Int64)) x5 h_x5 _
      refine jr_lload_n C0 2 dX3_holds_123 rfl rfl ?_
      refine jr_iconst C0 dX3_holds_124 ?_
      refine jr_lshl C0 dX3_holds_125 ?_
      refine jr_aload_n C0 0 dX3_holds_126 rfl rfl ?_
      refine jr_aload_n C0 0 dX3_holds_127 rfl rfl ?_
      refine jr_getr C0 hk_k hd_k (by decide) rfl wx_X3 (i := 2) (by decide) wf_X3_18 (j := (k + 3)) rfl dX3_holds_128 ?_
      refine jr_iload C0 3 dX3_holds_131 rfl ?_
      refine jr_iald C0 (by omega) d_k_3 n_k_3 g5 (j := x5.toNat) rfl dX3_holds_133 ?_
      refine jr_vI C0 hk_k hd_k (by decide) rfl (ct_X3_passes l G hk_k hd_k (μ (k + 3) x5.toNat) g6 _) mi_X3_passes wm_X3_89 ⟨Nat.le_of_ble_eq_true rfl, Nat.le_of_ble_eq_true rfl⟩ ⟨rfl, rfl⟩ (As := [.int (vr_I (μ (k + 3) x5.toNat))]) rfl (st := [.long (vr_lshl x2 1)]) rfl (Nat.le_of_ble_eq_true rfl) dX3_holds_134 (fun r7 hr7 => ?_)
      refine jr_i2l C0 dX3_holds_137 ?_
      refine jr_lor C0 dX3_holds_138 ?_
      refine jr_lstore_n C0 dX3_holds_139 rfl (by decide) (lv' := [(2, .long ((vr_lshl x2 1) ||| (vr_i2l r7.1))), (0, .ref (vr_ad G k)), (1, .int (vr_I x1)), (5, .int (vr_I x5))]) rfl ?_
      refine jr_sub [1, 2, 0, 3] rfl ?_
      exact B140 x1 h_x1 ((vr_lshl x2 1) ||| (vr_i2l r7.1)) x5 h_x5 _
  have B30 : ∀ (x1 : Int) (h_x1 : vr_R x1) (x2 : Int64) (y0 : Int) (h_y0 : vr_R y0) (μ : vr_M), vr_J p l e ({ frames := 1, cells := 0, slots := 0, locals := 24 } : Room) s m args below meth c 6 G (vr_Z (vr_QI G) G args s below) 30 [(0, .ref (vr_ad G k)), (1, .int (vr_I x1)), (2, .long x2)] [.int (vr_I y0)] μ (fX3_holds_B30 k x1 x2 y0 μ) := by
    intro x1 h_x1 x2 y0 h_y0 μ
    unfold fX3_holds_B30
    refine jr_istore C0 dX3_holds_30 (by decide) (lv' := [(4, .int (vr_I y0)), (0, .ref (vr_ad G k)), (1, .int (vr_I x1)), (2, .long x2)]) rfl ?_
    refine jr_iload C0 0 dX3_holds_32 rfl ?_
    refine jr_iconst C0 dX3_holds_34 ?_
    refine jr_max C0 h_y0 (⟨by decide, by decide⟩) wm_X3_75 wt_yJ9_max_7cf53 wz_J9 wc_yJ9_max_7cf53 (Nat.le_of_ble_eq_true rfl) (Nat.le_of_ble_eq_true rfl) dX3_holds_35 ?_
    refine jr_istore C0 dX3_holds_38 (by decide) (lv' := [(5, .int (vr_I (max y0 0))), (4, .int (vr_I y0)), (0, .ref (vr_ad G k)), (1, .int (vr_I x1)), (2, .long x2)]) rfl ?_
    refine jr_gd (fun g8 => ?_)
    refine jr_sub [2, 3, 4, 0] rfl ?_
    exact L40 9000 x1 h_x1 x2 (max y0 0) g8 _
  unfold fX3_holds
  refine jr_iload_n C0 1 dX3_holds_0 rfl rfl ?_
  refine jr_if_lt C0 h_a0 dX3_holds_1 (tgt := 10) (by decide) ?_ ?_
  · refine jr_sub [] rfl ?_
    exact B10 _
  refine jr_iload_n C0 1 dX3_holds_4 rfl rfl ?_
  refine jr_bipush C0 dX3_holds_5 rfl ?_
  refine jr_icmp_lt C0 h_a0 (⟨by decide, by decide⟩) dX3_holds_7 (tgt := 12) (by decide) ?_ ?_
  · refine jr_lconst C0 dX3_holds_12 (v := 0) rfl ?_
    refine jr_lstore_n C0 dX3_holds_13 rfl (by decide) (lv' := [(2, .long (0 : Int64)), (0, .ref (vr_ad G k)), (1, .int (vr_I a0))]) rfl ?_
    refine jr_iload_n C0 2 dX3_holds_14 rfl rfl ?_
    refine jr_if_ne C0 h_a0 dX3_holds_15 (tgt := 22) (by decide) ?_ ?_
    · refine jr_aload_n C0 1 dX3_holds_22 rfl rfl ?_
      refine jr_getr C0 hk_k hd_k (by decide) rfl wx_X3 (i := 1) (by decide) wf_X3_15 (j := (k + 2)) rfl dX3_holds_23 ?_
      refine jr_iload_n C0 2 dX3_holds_26 rfl rfl ?_
      refine jr_iconst C0 dX3_holds_27 ?_
      refine jr_isub C0 dX3_holds_28 ?_
      refine jr_gd (fun g9 => ?_)
      refine jr_iald C0 (by omega) d_k_2 n_k_2 g9 (j := (a0 - 1).toNat) rfl dX3_holds_29 ?_
      refine jr_gd (fun g10 => ?_)
      refine jr_sub [1, 2, 0] rfl ?_
      exact B30 a0 h_a0 (0 : Int64) (μ (k + 2) (a0 - 1).toNat) g10 _
    refine jr_iconst C0 dX3_holds_18 ?_
    refine jr_goto C0 dX3_holds_19 (tgt := 30) (by decide) ?_
    refine jr_sub [1, 2, 0] rfl ?_
    exact B30 a0 h_a0 (0 : Int64) 0 (⟨by decide, by decide⟩) _
  refine jr_sub [] rfl ?_
  exact B10 _
theorem dX3_wornWhenBurnt_0 : decode cX3_wornWhenBurnt 0 = .ok (.aload_n 1, 1) := by decide +kernel
theorem dX3_wornWhenBurnt_1 : decode cX3_wornWhenBurnt 1 = .ok (.iload_n 2, 1) := by decide +kernel
theorem dX3_wornWhenBurnt_2 : decode cX3_wornWhenBurnt 2 = .ok (.invokevirtual 56, 3) := by decide +kernel
theorem dX3_wornWhenBurnt_5 : decode cX3_wornWhenBurnt 5 = .ok (.ifCond .ne 5, 3) := by decide +kernel
theorem dX3_wornWhenBurnt_8 : decode cX3_wornWhenBurnt 8 = .ok (.iconst 0, 1) := by decide +kernel
theorem dX3_wornWhenBurnt_9 : decode cX3_wornWhenBurnt 9 = .ok (.ireturn, 1) := by decide +kernel
theorem dX3_wornWhenBurnt_10 : decode cX3_wornWhenBurnt 10 = .ok (.aload_n 1, 1) := by decide +kernel
theorem dX3_wornWhenBurnt_11 : decode cX3_wornWhenBurnt 11 = .ok (.getfield 62, 3) := by decide +kernel
theorem dX3_wornWhenBurnt_14 : decode cX3_wornWhenBurnt 14 = .ok (.iload_n 2, 1) := by decide +kernel
theorem dX3_wornWhenBurnt_15 : decode cX3_wornWhenBurnt 15 = .ok (.iaload, 1) := by decide +kernel
theorem dX3_wornWhenBurnt_16 : decode cX3_wornWhenBurnt 16 = .ok (.istore_n 3, 1) := by decide +kernel
theorem dX3_wornWhenBurnt_17 : decode cX3_wornWhenBurnt 17 = .ok (.aload_n 1, 1) := by decide +kernel
theorem dX3_wornWhenBurnt_18 : decode cX3_wornWhenBurnt 18 = .ok (.getfield 65, 3) := by decide +kernel
theorem dX3_wornWhenBurnt_21 : decode cX3_wornWhenBurnt 21 = .ok (.iload_n 2, 1) := by decide +kernel
theorem dX3_wornWhenBurnt_22 : decode cX3_wornWhenBurnt 22 = .ok (.iaload, 1) := by decide +kernel
theorem dX3_wornWhenBurnt_23 : decode cX3_wornWhenBurnt 23 = .ok (.ifCond .le 5, 3) := by decide +kernel
theorem dX3_wornWhenBurnt_26 : decode cX3_wornWhenBurnt 26 = .ok (.iload_n 3, 1) := by decide +kernel
theorem dX3_wornWhenBurnt_27 : decode cX3_wornWhenBurnt 27 = .ok (.ireturn, 1) := by decide +kernel
theorem dX3_wornWhenBurnt_28 : decode cX3_wornWhenBurnt 28 = .ok (.aload_n 0, 1) := by decide +kernel
theorem dX3_wornWhenBurnt_29 : decode cX3_wornWhenBurnt 29 = .ok (.aload_n 1, 1) := by decide +kernel
theorem dX3_wornWhenBurnt_30 : decode cX3_wornWhenBurnt 30 = .ok (.iload_n 2, 1) := by decide +kernel
theorem dX3_wornWhenBurnt_31 : decode cX3_wornWhenBurnt 31 = .ok (.iload_n 3, 1) := by decide +kernel
theorem dX3_wornWhenBurnt_32 : decode cX3_wornWhenBurnt 32 = .ok (.invokevirtual 68, 3) := by decide +kernel
theorem dX3_wornWhenBurnt_35 : decode cX3_wornWhenBurnt 35 = .ok (.iconst 0, 1) := by decide +kernel
theorem dX3_wornWhenBurnt_36 : decode cX3_wornWhenBurnt 36 = .ok (.istore 4, 2) := by decide +kernel
theorem dX3_wornWhenBurnt_38 : decode cX3_wornWhenBurnt 38 = .ok (.iload 4, 2) := by decide +kernel
theorem dX3_wornWhenBurnt_40 : decode cX3_wornWhenBurnt 40 = .ok (.aload_n 0, 1) := by decide +kernel
theorem dX3_wornWhenBurnt_41 : decode cX3_wornWhenBurnt 41 = .ok (.getfield 27, 3) := by decide +kernel
theorem dX3_wornWhenBurnt_44 : decode cX3_wornWhenBurnt 44 = .ok (.if_icmp .ge 45, 3) := by decide +kernel
theorem dX3_wornWhenBurnt_47 : decode cX3_wornWhenBurnt 47 = .ok (.iload 4, 2) := by decide +kernel
theorem dX3_wornWhenBurnt_49 : decode cX3_wornWhenBurnt 49 = .ok (.bipush 10, 2) := by decide +kernel
theorem dX3_wornWhenBurnt_51 : decode cX3_wornWhenBurnt 51 = .ok (.if_icmp .ge 32, 3) := by decide +kernel
theorem dX3_wornWhenBurnt_54 : decode cX3_wornWhenBurnt 54 = .ok (.aload_n 0, 1) := by decide +kernel
theorem dX3_wornWhenBurnt_55 : decode cX3_wornWhenBurnt 55 = .ok (.getfield 9, 3) := by decide +kernel
theorem dX3_wornWhenBurnt_58 : decode cX3_wornWhenBurnt 58 = .ok (.iload 4, 2) := by decide +kernel
theorem dX3_wornWhenBurnt_60 : decode cX3_wornWhenBurnt 60 = .ok (.iaload, 1) := by decide +kernel
theorem dX3_wornWhenBurnt_61 : decode cX3_wornWhenBurnt 61 = .ok (.iconst (-1), 1) := by decide +kernel
theorem dX3_wornWhenBurnt_62 : decode cX3_wornWhenBurnt 62 = .ok (.if_icmp .ne 21, 3) := by decide +kernel
theorem dX3_wornWhenBurnt_65 : decode cX3_wornWhenBurnt 65 = .ok (.aload_n 0, 1) := by decide +kernel
theorem dX3_wornWhenBurnt_66 : decode cX3_wornWhenBurnt 66 = .ok (.iload 4, 2) := by decide +kernel
theorem dX3_wornWhenBurnt_68 : decode cX3_wornWhenBurnt 68 = .ok (.invokevirtual 72, 3) := by decide +kernel
theorem dX3_wornWhenBurnt_71 : decode cX3_wornWhenBurnt 71 = .ok (.ifCond .eq 12, 3) := by decide +kernel
theorem dX3_wornWhenBurnt_74 : decode cX3_wornWhenBurnt 74 = .ok (.iload_n 3, 1) := by decide +kernel
theorem dX3_wornWhenBurnt_75 : decode cX3_wornWhenBurnt 75 = .ok (.iconst 1, 1) := by decide +kernel
theorem dX3_wornWhenBurnt_76 : decode cX3_wornWhenBurnt 76 = .ok (.iadd, 1) := by decide +kernel
theorem dX3_wornWhenBurnt_77 : decode cX3_wornWhenBurnt 77 = .ok (.bipush 9, 2) := by decide +kernel
theorem dX3_wornWhenBurnt_79 : decode cX3_wornWhenBurnt 79 = .ok (.invokestatic 50, 3) := by decide +kernel
theorem dX3_wornWhenBurnt_82 : decode cX3_wornWhenBurnt 82 = .ok (.ireturn, 1) := by decide +kernel
theorem dX3_wornWhenBurnt_83 : decode cX3_wornWhenBurnt 83 = .ok (.iinc 4 1, 3) := by decide +kernel
theorem dX3_wornWhenBurnt_86 : decode cX3_wornWhenBurnt 86 = .ok (.goto (-48), 3) := by decide +kernel
theorem dX3_wornWhenBurnt_89 : decode cX3_wornWhenBurnt 89 = .ok (.iload_n 3, 1) := by decide +kernel
theorem dX3_wornWhenBurnt_90 : decode cX3_wornWhenBurnt 90 = .ok (.ireturn, 1) := by decide +kernel
def fX3_wornWhenBurnt_B83 (k : Nat) (k0 : Nat) (rc38 : Int → Int → vr_M → Option (Int × vr_M)) (x3 : Int) (x4 : Int) (μ : vr_M) : Option (Int × vr_M) :=
  vr_gd (vr_R (x4 + 1)) (rc38 x3 (x4 + 1) μ)
def fX3_wornWhenBurnt_L38 (k : Nat) (k0 : Nat) : Nat → Int → Int → vr_M → Option (Int × vr_M)
  | 0, _, _, _ => none
  | n + 1, x3, x4, μ => vr_gd (vr_R (μ k 3)) (if (μ k 3) ≤ x4 then some (x3, μ) else if 10 ≤ x4 then fX3_wornWhenBurnt_B83 k k0 (fX3_wornWhenBurnt_L38 k k0 n) x3 x4 μ else vr_gd (0 ≤ x4 ∧ x4 < 10) (vr_gd (vr_R (μ (k + 1) x4.toNat)) (if ¬ (μ (k + 1) x4.toNat) = (-1) then fX3_wornWhenBurnt_B83 k k0 (fX3_wornWhenBurnt_L38 k k0 n) x3 x4 μ else (fX3_holds k x4 μ).bind (fun r5 => if r5.1 = 0 then fX3_wornWhenBurnt_B83 k k0 (fX3_wornWhenBurnt_L38 k k0 n) x3 x4 r5.2 else vr_gd (vr_R (x3 + 1)) (vr_gd (vr_R (min (x3 + 1) 9)) (some (min (x3 + 1) 9, r5.2)))))))
def fX3_wornWhenBurnt (k : Nat) (k0 : Nat) (a1 : Int) (μ : vr_M) : Option (Int × vr_M) :=
  (fX2_has k0 a1 μ).bind (fun r8 => if ¬ r8.1 = 0 then vr_gd (0 ≤ a1 ∧ a1 < 8) (vr_gd (vr_R (r8.2 (k0 + 3) a1.toNat)) (if (r8.2 (k0 + 3) a1.toNat) ≤ 0 then vr_gd (vr_R (r8.2 (k0 + 5) a1.toNat)) ((fX3_look k k0 a1 (r8.2 (k0 + 5) a1.toNat) r8.2).bind (fun r12 => fX3_wornWhenBurnt_L38 k k0 9000 (r8.2 (k0 + 5) a1.toNat) 0 r12.2)) else vr_gd (vr_R (r8.2 (k0 + 5) a1.toNat)) (some (r8.2 (k0 + 5) a1.toNat, r8.2)))) else some (0, r8.2))
theorem mi_X3_wornWhenBurnt : vr_Mi RX3 yX3_wornWhenBurnt cX3_wornWhenBurnt 5 (some .int) 2 := ⟨⟨wi_yX3_wornWhenBurnt, ws_yX3_wornWhenBurnt, wz_X3, wc_yX3_wornWhenBurnt⟩, rfl, by decide, by decide, by decide +kernel⟩
set_option maxRecDepth 100000 in
set_option maxHeartbeats 4000000 in
theorem ct_X3_wornWhenBurnt (l : Launch) (G : vr_G) {k : Nat} (hk_k : k < 78) (hd_k : vr_kd k = 3) {k0 : Nat} (hk_k0 : k0 < 78) (hd_k0 : vr_kd k0 = 2) (a1 : Int) (h_a1 : vr_R a1) (μ : vr_M) : vr_CI l yX3_wornWhenBurnt cX3_wornWhenBurnt 5 (some .int) ({ frames := 2, cells := 0, slots := 0, locals := 49 } : Room) G [.ref (vr_ad G k), .ref (vr_ad G k0), .int (vr_I a1)] μ (fX3_wornWhenBurnt k k0 a1 μ) := by
  refine vr_start (own := RX3) (by decide) rfl (Nat.le_of_ble_eq_true rfl) (fun p e s m args below meth c C0 => ?_)
  obtain ⟨q_k, ⟨d_k_1, d_k_2, d_k_3, d_k_4⟩, n_k_1, n_k_2, n_k_3, n_k_4⟩ := vr_land hk_k hd_k
  obtain ⟨q_k0, ⟨d_k0_1, d_k0_2, d_k0_3, d_k0_4, d_k0_5⟩, n_k0_1, n_k0_2, n_k0_3, n_k0_4, n_k0_5⟩ := vr_hill hk_k0 hd_k0
  show vr_J p l e _ s m args below meth c 5 G (vr_Z (vr_QI G) G args s below) 0 [(0, .ref (vr_ad G k)), (1, .ref (vr_ad G k0)), (2, .int (vr_I a1))] [] μ _
  have L38 : ∀ (n : Nat) (x3 : Int) (h_x3 : vr_R x3) (x4 : Int) (h_x4 : vr_R x4) (μ : vr_M), vr_J p l e ({ frames := 2, cells := 0, slots := 0, locals := 49 } : Room) s m args below meth c 5 G (vr_Z (vr_QI G) G args s below) 38 [(0, .ref (vr_ad G k)), (3, .int (vr_I x3)), (4, .int (vr_I x4))] [] μ (fX3_wornWhenBurnt_L38 k k0 n x3 x4 μ) := by
    intro n38
    induction n38 with
    | zero => intros; exact jr_none
    | succ n38 ih38 =>
      have B83 : ∀ (x3 : Int) (h_x3 : vr_R x3) (x4 : Int) (h_x4 : vr_R x4) (μ : vr_M), vr_J p l e ({ frames := 2, cells := 0, slots := 0, locals := 49 } : Room) s m args below meth c 5 G (vr_Z (vr_QI G) G args s below) 83 [(0, .ref (vr_ad G k)), (3, .int (vr_I x3)), (4, .int (vr_I x4))] [] μ (fX3_wornWhenBurnt_B83 k k0 (fX3_wornWhenBurnt_L38 k k0 n38) x3 x4 μ) := by
        intro x3 h_x3 x4 h_x4 μ
        unfold fX3_wornWhenBurnt_B83
        refine jr_iinc C0 (q := 2) dX3_wornWhenBurnt_83 rfl (by decide) (lv' := [(4, .int (vr_I (x4 + 1))), (0, .ref (vr_ad G k)), (3, .int (vr_I x3))]) rfl ?_
        refine jr_goto C0 dX3_wornWhenBurnt_86 (tgt := 38) (by decide) ?_
        refine jr_gd (fun g1 => ?_)
        refine jr_sub [1, 2, 0] rfl ?_
        exact ih38 x3 h_x3 (x4 + 1) g1 _
      intro x3 h_x3 x4 h_x4 μ
      rw [fX3_wornWhenBurnt_L38.eq_2]
      refine jr_iload C0 2 dX3_wornWhenBurnt_38 rfl ?_
      refine jr_aload_n C0 0 dX3_wornWhenBurnt_40 rfl rfl ?_
      refine jr_geti C0 hk_k hd_k (by decide) rfl wx_X3 (i := 3) (by decide) wf_X3_27 rfl dX3_wornWhenBurnt_41 ?_
      refine jr_gd (fun g2 => ?_)
      refine jr_icmp_ge C0 h_x4 g2 dX3_wornWhenBurnt_44 (tgt := 89) (by decide) ?_ ?_
      · refine jr_iload_n C0 1 dX3_wornWhenBurnt_89 rfl rfl ?_
        exact jr_iret C0 h_x3 dX3_wornWhenBurnt_90
      refine jr_iload C0 2 dX3_wornWhenBurnt_47 rfl ?_
      refine jr_bipush C0 dX3_wornWhenBurnt_49 rfl ?_
      refine jr_icmp_ge C0 h_x4 (⟨by decide, by decide⟩) dX3_wornWhenBurnt_51 (tgt := 83) (by decide) ?_ ?_
      · exact B83 x3 h_x3 x4 h_x4 _
      refine jr_aload_n C0 0 dX3_wornWhenBurnt_54 rfl rfl ?_
      refine jr_getr C0 hk_k hd_k (by decide) rfl wx_X3 (i := 0) (by decide) wf_X3_9 (j := (k + 1)) rfl dX3_wornWhenBurnt_55 ?_
      refine jr_iload C0 2 dX3_wornWhenBurnt_58 rfl ?_
      refine jr_gd (fun g3 => ?_)
      refine jr_iald C0 (by omega) d_k_1 n_k_1 g3 (j := x4.toNat) rfl dX3_wornWhenBurnt_60 ?_
      refine jr_iconst C0 dX3_wornWhenBurnt_61 ?_
      refine jr_gd (fun g4 => ?_)
      refine jr_icmp_ne C0 g4 (⟨by decide, by decide⟩) dX3_wornWhenBurnt_62 (tgt := 83) (by decide) ?_ ?_
      · exact B83 x3 h_x3 x4 h_x4 _
      refine jr_aload_n C0 0 dX3_wornWhenBurnt_65 rfl rfl ?_
      refine jr_iload C0 2 dX3_wornWhenBurnt_66 rfl ?_
      refine jr_vI C0 hk_k hd_k (by decide) rfl (ct_X3_holds l G hk_k hd_k x4 h_x4 _) mi_X3_holds wm_X3_72 ⟨Nat.le_of_ble_eq_true rfl, Nat.le_of_ble_eq_true rfl⟩ ⟨rfl, rfl⟩ (As := [.int (vr_I x4)]) rfl (st := []) rfl (Nat.le_of_ble_eq_true rfl) dX3_wornWhenBurnt_68 (fun r5 hr5 => ?_)
      refine jr_if_eq C0 hr5 dX3_wornWhenBurnt_71 (tgt := 83) (by decide) ?_ ?_
      · exact B83 x3 h_x3 x4 h_x4 _
      refine jr_iload_n C0 1 dX3_wornWhenBurnt_74 rfl rfl ?_
      refine jr_iconst C0 dX3_wornWhenBurnt_75 ?_
      refine jr_iadd C0 dX3_wornWhenBurnt_76 ?_
      refine jr_bipush C0 dX3_wornWhenBurnt_77 rfl ?_
      refine jr_gd (fun g6 => ?_)
      refine jr_min C0 g6 (⟨by decide, by decide⟩) wm_X3_50 wt_yJ9_min_7cf53 wz_J9 wc_yJ9_min_7cf53 (Nat.le_of_ble_eq_true rfl) (Nat.le_of_ble_eq_true rfl) dX3_wornWhenBurnt_79 ?_
      refine jr_gd (fun g7 => ?_)
      exact jr_iret C0 g7 dX3_wornWhenBurnt_82
  unfold fX3_wornWhenBurnt
  refine jr_aload_n C0 1 dX3_wornWhenBurnt_0 rfl rfl ?_
  refine jr_iload_n C0 2 dX3_wornWhenBurnt_1 rfl rfl ?_
  refine jr_vI C0 hk_k0 hd_k0 (by decide) rfl (ct_X2_has l G hk_k0 hd_k0 a1 h_a1 _) mi_X2_has wm_X3_56 ⟨Nat.le_of_ble_eq_true rfl, Nat.le_of_ble_eq_true rfl⟩ ⟨rfl, rfl⟩ (As := [.int (vr_I a1)]) rfl (st := []) rfl (Nat.le_of_ble_eq_true rfl) dX3_wornWhenBurnt_2 (fun r8 hr8 => ?_)
  refine jr_if_ne C0 hr8 dX3_wornWhenBurnt_5 (tgt := 10) (by decide) ?_ ?_
  · refine jr_aload_n C0 1 dX3_wornWhenBurnt_10 rfl rfl ?_
    refine jr_getr C0 hk_k0 hd_k0 (by decide) rfl wx_X2 (i := 4) (by decide) wf_X3_62 (j := (k0 + 5)) rfl dX3_wornWhenBurnt_11 ?_
    refine jr_iload_n C0 2 dX3_wornWhenBurnt_14 rfl rfl ?_
    refine jr_gd (fun g9 => ?_)
    refine jr_iald C0 (by omega) d_k0_5 n_k0_5 g9 (j := a1.toNat) rfl dX3_wornWhenBurnt_15 ?_
    refine jr_istore_n C0 dX3_wornWhenBurnt_16 rfl (by decide) (lv' := [(3, .int (vr_I (r8.2 (k0 + 5) a1.toNat))), (0, .ref (vr_ad G k)), (1, .ref (vr_ad G k0)), (2, .int (vr_I a1))]) rfl ?_
    refine jr_aload_n C0 2 dX3_wornWhenBurnt_17 rfl rfl ?_
    refine jr_getr C0 hk_k0 hd_k0 (by decide) rfl wx_X2 (i := 2) (by decide) wf_X3_65 (j := (k0 + 3)) rfl dX3_wornWhenBurnt_18 ?_
    refine jr_iload_n C0 3 dX3_wornWhenBurnt_21 rfl rfl ?_
    refine jr_iald C0 (by omega) d_k0_3 n_k0_3 g9 (j := a1.toNat) rfl dX3_wornWhenBurnt_22 ?_
    refine jr_gd (fun g10 => ?_)
    refine jr_if_le C0 g10 dX3_wornWhenBurnt_23 (tgt := 28) (by decide) ?_ ?_
    · refine jr_aload_n C0 1 dX3_wornWhenBurnt_28 rfl rfl ?_
      refine jr_aload_n C0 2 dX3_wornWhenBurnt_29 rfl rfl ?_
      refine jr_iload_n C0 3 dX3_wornWhenBurnt_30 rfl rfl ?_
      refine jr_iload_n C0 0 dX3_wornWhenBurnt_31 rfl rfl ?_
      refine jr_gd (fun g11 => ?_)
      refine jr_vV0 C0 hk_k hd_k (by decide) rfl (ct_X3_look l G hk_k hd_k hk_k0 hd_k0 a1 h_a1 (r8.2 (k0 + 5) a1.toNat) g11 _) mi_X3_look wm_X3_68 ⟨Nat.le_of_ble_eq_true rfl, Nat.le_of_ble_eq_true rfl⟩ ⟨rfl, rfl⟩ (As := [.ref (vr_ad G k0), .int (vr_I a1), .int (vr_I (r8.2 (k0 + 5) a1.toNat))]) rfl (st := []) rfl (Nat.le_of_ble_eq_true rfl) dX3_wornWhenBurnt_32 (fun r12 => ?_)
      refine jr_iconst C0 dX3_wornWhenBurnt_35 ?_
      refine jr_istore C0 dX3_wornWhenBurnt_36 (by decide) (lv' := [(4, .int (vr_I 0)), (3, .int (vr_I (r8.2 (k0 + 5) a1.toNat))), (0, .ref (vr_ad G k)), (1, .ref (vr_ad G k0)), (2, .int (vr_I a1))]) rfl ?_
      refine jr_sub [2, 1, 0] rfl ?_
      exact L38 9000 (r8.2 (k0 + 5) a1.toNat) g11 0 (⟨by decide, by decide⟩) _
    refine jr_iload_n C0 0 dX3_wornWhenBurnt_26 rfl rfl ?_
    refine jr_gd (fun g13 => ?_)
    exact jr_iret C0 g13 dX3_wornWhenBurnt_27
  refine jr_iconst C0 dX3_wornWhenBurnt_8 ?_
  exact jr_iret C0 (⟨by decide, by decide⟩) dX3_wornWhenBurnt_9
theorem dX3_yields_0 : decode cX3_yields 0 = .ok (.aload_n 0, 1) := by decide +kernel
theorem dX3_yields_1 : decode cX3_yields 1 = .ok (.aload_n 1, 1) := by decide +kernel
theorem dX3_yields_2 : decode cX3_yields 2 = .ok (.iload_n 2, 1) := by decide +kernel
theorem dX3_yields_3 : decode cX3_yields 3 = .ok (.iload_n 3, 1) := by decide +kernel
theorem dX3_yields_4 : decode cX3_yields 4 = .ok (.invokevirtual 68, 3) := by decide +kernel
theorem dX3_yields_7 : decode cX3_yields 7 = .ok (.iconst 0, 1) := by decide +kernel
theorem dX3_yields_8 : decode cX3_yields 8 = .ok (.istore 4, 2) := by decide +kernel
theorem dX3_yields_10 : decode cX3_yields 10 = .ok (.iconst 0, 1) := by decide +kernel
theorem dX3_yields_11 : decode cX3_yields 11 = .ok (.istore 5, 2) := by decide +kernel
theorem dX3_yields_13 : decode cX3_yields 13 = .ok (.iload 5, 2) := by decide +kernel
theorem dX3_yields_15 : decode cX3_yields 15 = .ok (.aload_n 0, 1) := by decide +kernel
theorem dX3_yields_16 : decode cX3_yields 16 = .ok (.getfield 27, 3) := by decide +kernel
theorem dX3_yields_19 : decode cX3_yields 19 = .ok (.if_icmp .ge 48, 3) := by decide +kernel
theorem dX3_yields_22 : decode cX3_yields 22 = .ok (.iload 5, 2) := by decide +kernel
theorem dX3_yields_24 : decode cX3_yields 24 = .ok (.bipush 10, 2) := by decide +kernel
theorem dX3_yields_26 : decode cX3_yields 26 = .ok (.if_icmp .ge 35, 3) := by decide +kernel
theorem dX3_yields_29 : decode cX3_yields 29 = .ok (.aload_n 0, 1) := by decide +kernel
theorem dX3_yields_30 : decode cX3_yields 30 = .ok (.getfield 9, 3) := by decide +kernel
theorem dX3_yields_33 : decode cX3_yields 33 = .ok (.iload 5, 2) := by decide +kernel
theorem dX3_yields_35 : decode cX3_yields 35 = .ok (.iaload, 1) := by decide +kernel
theorem dX3_yields_36 : decode cX3_yields 36 = .ok (.iconst (-1), 1) := by decide +kernel
theorem dX3_yields_37 : decode cX3_yields 37 = .ok (.if_icmp .eq 24, 3) := by decide +kernel
theorem dX3_yields_40 : decode cX3_yields 40 = .ok (.aload_n 0, 1) := by decide +kernel
theorem dX3_yields_41 : decode cX3_yields 41 = .ok (.iload 5, 2) := by decide +kernel
theorem dX3_yields_43 : decode cX3_yields 43 = .ok (.invokevirtual 72, 3) := by decide +kernel
theorem dX3_yields_46 : decode cX3_yields 46 = .ok (.ifCond .eq 15, 3) := by decide +kernel
theorem dX3_yields_49 : decode cX3_yields 49 = .ok (.iload 4, 2) := by decide +kernel
theorem dX3_yields_51 : decode cX3_yields 51 = .ok (.aload_n 0, 1) := by decide +kernel
theorem dX3_yields_52 : decode cX3_yields 52 = .ok (.getfield 9, 3) := by decide +kernel
theorem dX3_yields_55 : decode cX3_yields 55 = .ok (.iload 5, 2) := by decide +kernel
theorem dX3_yields_57 : decode cX3_yields 57 = .ok (.iaload, 1) := by decide +kernel
theorem dX3_yields_58 : decode cX3_yields 58 = .ok (.iadd, 1) := by decide +kernel
theorem dX3_yields_59 : decode cX3_yields 59 = .ok (.istore 4, 2) := by decide +kernel
theorem dX3_yields_61 : decode cX3_yields 61 = .ok (.iinc 5 1, 3) := by decide +kernel
theorem dX3_yields_64 : decode cX3_yields 64 = .ok (.goto (-51), 3) := by decide +kernel
theorem dX3_yields_67 : decode cX3_yields 67 = .ok (.iload 4, 2) := by decide +kernel
theorem dX3_yields_69 : decode cX3_yields 69 = .ok (.iload_n 3, 1) := by decide +kernel
theorem dX3_yields_70 : decode cX3_yields 70 = .ok (.isub, 1) := by decide +kernel
theorem dX3_yields_71 : decode cX3_yields 71 = .ok (.iconst 0, 1) := by decide +kernel
theorem dX3_yields_72 : decode cX3_yields 72 = .ok (.invokestatic 75, 3) := by decide +kernel
theorem dX3_yields_75 : decode cX3_yields 75 = .ok (.ireturn, 1) := by decide +kernel
def fX3_yields_B61 (k : Nat) (k0 : Nat) (rc13 : Int → Int → Int → vr_M → Option (Int × vr_M)) (x3 : Int) (x4 : Int) (x5 : Int) (μ : vr_M) : Option (Int × vr_M) :=
  vr_gd (vr_R (x5 + 1)) (rc13 x3 x4 (x5 + 1) μ)
def fX3_yields_L13 (k : Nat) (k0 : Nat) : Nat → Int → Int → Int → vr_M → Option (Int × vr_M)
  | 0, _, _, _, _ => none
  | n + 1, x3, x4, x5, μ => vr_gd (vr_R (μ k 3)) (if (μ k 3) ≤ x5 then vr_gd (vr_R (x4 - x3)) (vr_gd (vr_R (max (x4 - x3) 0)) (some (max (x4 - x3) 0, μ))) else if 10 ≤ x5 then fX3_yields_B61 k k0 (fX3_yields_L13 k k0 n) x3 x4 x5 μ else vr_gd (0 ≤ x5 ∧ x5 < 10) (vr_gd (vr_R (μ (k + 1) x5.toNat)) (if (μ (k + 1) x5.toNat) = (-1) then fX3_yields_B61 k k0 (fX3_yields_L13 k k0 n) x3 x4 x5 μ else (fX3_holds k x5 μ).bind (fun r7 => if r7.1 = 0 then fX3_yields_B61 k k0 (fX3_yields_L13 k k0 n) x3 x4 x5 r7.2 else vr_gd (vr_R (x4 + (r7.2 (k + 1) x5.toNat))) (fX3_yields_B61 k k0 (fX3_yields_L13 k k0 n) x3 (x4 + (r7.2 (k + 1) x5.toNat)) x5 r7.2)))))
def fX3_yields (k : Nat) (k0 : Nat) (a1 : Int) (a2 : Int) (μ : vr_M) : Option (Int × vr_M) :=
  (fX3_look k k0 a1 a2 μ).bind (fun r9 => fX3_yields_L13 k k0 9000 a2 0 0 r9.2)
theorem mi_X3_yields : vr_Mi RX3 yX3_yields cX3_yields 6 (some .int) 3 := ⟨⟨wi_yX3_yields, ws_yX3_yields, wz_X3, wc_yX3_yields⟩, rfl, by decide, by decide, by decide +kernel⟩
set_option maxRecDepth 100000 in
set_option maxHeartbeats 4000000 in
theorem ct_X3_yields (l : Launch) (G : vr_G) {k : Nat} (hk_k : k < 78) (hd_k : vr_kd k = 3) {k0 : Nat} (hk_k0 : k0 < 78) (hd_k0 : vr_kd k0 = 2) (a1 : Int) (h_a1 : vr_R a1) (a2 : Int) (h_a2 : vr_R a2) (μ : vr_M) : vr_CI l yX3_yields cX3_yields 6 (some .int) ({ frames := 2, cells := 0, slots := 0, locals := 49 } : Room) G [.ref (vr_ad G k), .ref (vr_ad G k0), .int (vr_I a1), .int (vr_I a2)] μ (fX3_yields k k0 a1 a2 μ) := by
  refine vr_start (own := RX3) (by decide) rfl (Nat.le_of_ble_eq_true rfl) (fun p e s m args below meth c C0 => ?_)
  obtain ⟨q_k, ⟨d_k_1, d_k_2, d_k_3, d_k_4⟩, n_k_1, n_k_2, n_k_3, n_k_4⟩ := vr_land hk_k hd_k
  obtain ⟨q_k0, ⟨d_k0_1, d_k0_2, d_k0_3, d_k0_4, d_k0_5⟩, n_k0_1, n_k0_2, n_k0_3, n_k0_4, n_k0_5⟩ := vr_hill hk_k0 hd_k0
  show vr_J p l e _ s m args below meth c 6 G (vr_Z (vr_QI G) G args s below) 0 [(0, .ref (vr_ad G k)), (1, .ref (vr_ad G k0)), (2, .int (vr_I a1)), (3, .int (vr_I a2))] [] μ _
  have L13 : ∀ (n : Nat) (x3 : Int) (h_x3 : vr_R x3) (x4 : Int) (h_x4 : vr_R x4) (x5 : Int) (h_x5 : vr_R x5) (μ : vr_M), vr_J p l e ({ frames := 2, cells := 0, slots := 0, locals := 49 } : Room) s m args below meth c 6 G (vr_Z (vr_QI G) G args s below) 13 [(0, .ref (vr_ad G k)), (3, .int (vr_I x3)), (4, .int (vr_I x4)), (5, .int (vr_I x5))] [] μ (fX3_yields_L13 k k0 n x3 x4 x5 μ) := by
    intro n13
    induction n13 with
    | zero => intros; exact jr_none
    | succ n13 ih13 =>
      have B61 : ∀ (x3 : Int) (h_x3 : vr_R x3) (x4 : Int) (h_x4 : vr_R x4) (x5 : Int) (h_x5 : vr_R x5) (μ : vr_M), vr_J p l e ({ frames := 2, cells := 0, slots := 0, locals := 49 } : Room) s m args below meth c 6 G (vr_Z (vr_QI G) G args s below) 61 [(0, .ref (vr_ad G k)), (3, .int (vr_I x3)), (4, .int (vr_I x4)), (5, .int (vr_I x5))] [] μ (fX3_yields_B61 k k0 (fX3_yields_L13 k k0 n13) x3 x4 x5 μ) := by
        intro x3 h_x3 x4 h_x4 x5 h_x5 μ
        unfold fX3_yields_B61
        refine jr_iinc C0 (q := 3) dX3_yields_61 rfl (by decide) (lv' := [(5, .int (vr_I (x5 + 1))), (0, .ref (vr_ad G k)), (3, .int (vr_I x3)), (4, .int (vr_I x4))]) rfl ?_
        refine jr_goto C0 dX3_yields_64 (tgt := 13) (by decide) ?_
        refine jr_gd (fun g1 => ?_)
        refine jr_sub [1, 2, 3, 0] rfl ?_
        exact ih13 x3 h_x3 x4 h_x4 (x5 + 1) g1 _
      intro x3 h_x3 x4 h_x4 x5 h_x5 μ
      rw [fX3_yields_L13.eq_2]
      refine jr_iload C0 3 dX3_yields_13 rfl ?_
      refine jr_aload_n C0 0 dX3_yields_15 rfl rfl ?_
      refine jr_geti C0 hk_k hd_k (by decide) rfl wx_X3 (i := 3) (by decide) wf_X3_27 rfl dX3_yields_16 ?_
      refine jr_gd (fun g2 => ?_)
      refine jr_icmp_ge C0 h_x5 g2 dX3_yields_19 (tgt := 67) (by decide) ?_ ?_
      · refine jr_iload C0 2 dX3_yields_67 rfl ?_
        refine jr_iload_n C0 1 dX3_yields_69 rfl rfl ?_
        refine jr_isub C0 dX3_yields_70 ?_
        refine jr_iconst C0 dX3_yields_71 ?_
        refine jr_gd (fun g3 => ?_)
        refine jr_max C0 g3 (⟨by decide, by decide⟩) wm_X3_75 wt_yJ9_max_7cf53 wz_J9 wc_yJ9_max_7cf53 (Nat.le_of_ble_eq_true rfl) (Nat.le_of_ble_eq_true rfl) dX3_yields_72 ?_
        refine jr_gd (fun g4 => ?_)
        exact jr_iret C0 g4 dX3_yields_75
      refine jr_iload C0 3 dX3_yields_22 rfl ?_
      refine jr_bipush C0 dX3_yields_24 rfl ?_
      refine jr_icmp_ge C0 h_x5 (⟨by decide, by decide⟩) dX3_yields_26 (tgt := 61) (by decide) ?_ ?_
      · exact B61 x3 h_x3 x4 h_x4 x5 h_x5 _
      refine jr_aload_n C0 0 dX3_yields_29 rfl rfl ?_
      refine jr_getr C0 hk_k hd_k (by decide) rfl wx_X3 (i := 0) (by decide) wf_X3_9 (j := (k + 1)) rfl dX3_yields_30 ?_
      refine jr_iload C0 3 dX3_yields_33 rfl ?_
      refine jr_gd (fun g5 => ?_)
      refine jr_iald C0 (by omega) d_k_1 n_k_1 g5 (j := x5.toNat) rfl dX3_yields_35 ?_
      refine jr_iconst C0 dX3_yields_36 ?_
      refine jr_gd (fun g6 => ?_)
      refine jr_icmp_eq C0 g6 (⟨by decide, by decide⟩) dX3_yields_37 (tgt := 61) (by decide) ?_ ?_
      · exact B61 x3 h_x3 x4 h_x4 x5 h_x5 _
      refine jr_aload_n C0 0 dX3_yields_40 rfl rfl ?_
      refine jr_iload C0 3 dX3_yields_41 rfl ?_
      refine jr_vI C0 hk_k hd_k (by decide) rfl (ct_X3_holds l G hk_k hd_k x5 h_x5 _) mi_X3_holds wm_X3_72 ⟨Nat.le_of_ble_eq_true rfl, Nat.le_of_ble_eq_true rfl⟩ ⟨rfl, rfl⟩ (As := [.int (vr_I x5)]) rfl (st := []) rfl (Nat.le_of_ble_eq_true rfl) dX3_yields_43 (fun r7 hr7 => ?_)
      refine jr_if_eq C0 hr7 dX3_yields_46 (tgt := 61) (by decide) ?_ ?_
      · exact B61 x3 h_x3 x4 h_x4 x5 h_x5 _
      refine jr_iload C0 2 dX3_yields_49 rfl ?_
      refine jr_aload_n C0 0 dX3_yields_51 rfl rfl ?_
      refine jr_getr C0 hk_k hd_k (by decide) rfl wx_X3 (i := 0) (by decide) wf_X3_9 (j := (k + 1)) rfl dX3_yields_52 ?_
      refine jr_iload C0 3 dX3_yields_55 rfl ?_
      refine jr_iald C0 (by omega) d_k_1 n_k_1 g5 (j := x5.toNat) rfl dX3_yields_57 ?_
      refine jr_iadd C0 dX3_yields_58 ?_
      refine jr_istore C0 dX3_yields_59 (by decide) (lv' := [(4, .int (vr_I (x4 + (r7.2 (k + 1) x5.toNat)))), (0, .ref (vr_ad G k)), (3, .int (vr_I x3)), (5, .int (vr_I x5))]) rfl ?_
      refine jr_gd (fun g8 => ?_)
      refine jr_sub [1, 2, 0, 3] rfl ?_
      exact B61 x3 h_x3 (x4 + (r7.2 (k + 1) x5.toNat)) g8 x5 h_x5 _
  unfold fX3_yields
  refine jr_aload_n C0 0 dX3_yields_0 rfl rfl ?_
  refine jr_aload_n C0 1 dX3_yields_1 rfl rfl ?_
  refine jr_iload_n C0 2 dX3_yields_2 rfl rfl ?_
  refine jr_iload_n C0 3 dX3_yields_3 rfl rfl ?_
  refine jr_vV0 C0 hk_k hd_k (by decide) rfl (ct_X3_look l G hk_k hd_k hk_k0 hd_k0 a1 h_a1 a2 h_a2 _) mi_X3_look wm_X3_68 ⟨Nat.le_of_ble_eq_true rfl, Nat.le_of_ble_eq_true rfl⟩ ⟨rfl, rfl⟩ (As := [.ref (vr_ad G k0), .int (vr_I a1), .int (vr_I a2)]) rfl (st := []) rfl (Nat.le_of_ble_eq_true rfl) dX3_yields_4 (fun r9 => ?_)
  refine jr_iconst C0 dX3_yields_7 ?_
  refine jr_istore C0 dX3_yields_8 (by decide) (lv' := [(4, .int (vr_I 0)), (0, .ref (vr_ad G k)), (1, .ref (vr_ad G k0)), (2, .int (vr_I a1)), (3, .int (vr_I a2))]) rfl ?_
  refine jr_iconst C0 dX3_yields_10 ?_
  refine jr_istore C0 dX3_yields_11 (by decide) (lv' := [(5, .int (vr_I 0)), (4, .int (vr_I 0)), (0, .ref (vr_ad G k)), (1, .ref (vr_ad G k0)), (2, .int (vr_I a1)), (3, .int (vr_I a2))]) rfl ?_
  refine jr_sub [2, 5, 1, 0] rfl ?_
  exact L13 9000 a2 h_a2 0 (⟨by decide, by decide⟩) 0 (⟨by decide, by decide⟩) _
theorem dX0_lookRound_0 : decode cX0_lookRound 0 = .ok (.iconst 0, 1) := by decide +kernel
theorem dX0_lookRound_1 : decode cX0_lookRound 1 = .ok (.istore_n 1, 1) := by decide +kernel
theorem dX0_lookRound_2 : decode cX0_lookRound 2 = .ok (.iload_n 1, 1) := by decide +kernel
theorem dX0_lookRound_3 : decode cX0_lookRound 3 = .ok (.bipush 8, 2) := by decide +kernel
theorem dX0_lookRound_5 : decode cX0_lookRound 5 = .ok (.if_icmp .ge 54, 3) := by decide +kernel
theorem dX0_lookRound_8 : decode cX0_lookRound 8 = .ok (.aload_n 0, 1) := by decide +kernel
theorem dX0_lookRound_9 : decode cX0_lookRound 9 = .ok (.getfield 15, 3) := by decide +kernel
theorem dX0_lookRound_12 : decode cX0_lookRound 12 = .ok (.iload_n 1, 1) := by decide +kernel
theorem dX0_lookRound_13 : decode cX0_lookRound 13 = .ok (.aload_n 0, 1) := by decide +kernel
theorem dX0_lookRound_14 : decode cX0_lookRound 14 = .ok (.getfield 28, 3) := by decide +kernel
theorem dX0_lookRound_17 : decode cX0_lookRound 17 = .ok (.iload_n 1, 1) := by decide +kernel
theorem dX0_lookRound_18 : decode cX0_lookRound 18 = .ok (.invokevirtual 44, 3) := by decide +kernel
theorem dX0_lookRound_21 : decode cX0_lookRound 21 = .ok (.ifCond .eq 30, 3) := by decide +kernel
theorem dX0_lookRound_24 : decode cX0_lookRound 24 = .ok (.aload_n 0, 1) := by decide +kernel
theorem dX0_lookRound_25 : decode cX0_lookRound 25 = .ok (.getfield 32, 3) := by decide +kernel
theorem dX0_lookRound_28 : decode cX0_lookRound 28 = .ok (.aload_n 0, 1) := by decide +kernel
theorem dX0_lookRound_29 : decode cX0_lookRound 29 = .ok (.getfield 28, 3) := by decide +kernel
theorem dX0_lookRound_32 : decode cX0_lookRound 32 = .ok (.iload_n 1, 1) := by decide +kernel
theorem dX0_lookRound_33 : decode cX0_lookRound 33 = .ok (.aload_n 0, 1) := by decide +kernel
theorem dX0_lookRound_34 : decode cX0_lookRound 34 = .ok (.getfield 32, 3) := by decide +kernel
theorem dX0_lookRound_37 : decode cX0_lookRound 37 = .ok (.aload_n 0, 1) := by decide +kernel
theorem dX0_lookRound_38 : decode cX0_lookRound 38 = .ok (.getfield 28, 3) := by decide +kernel
theorem dX0_lookRound_41 : decode cX0_lookRound 41 = .ok (.iload_n 1, 1) := by decide +kernel
theorem dX0_lookRound_42 : decode cX0_lookRound 42 = .ok (.invokevirtual 48, 3) := by decide +kernel
theorem dX0_lookRound_45 : decode cX0_lookRound 45 = .ok (.invokevirtual 54, 3) := by decide +kernel
theorem dX0_lookRound_48 : decode cX0_lookRound 48 = .ok (.goto 4, 3) := by decide +kernel
theorem dX0_lookRound_51 : decode cX0_lookRound 51 = .ok (.iconst 0, 1) := by decide +kernel
theorem dX0_lookRound_52 : decode cX0_lookRound 52 = .ok (.iastore, 1) := by decide +kernel
theorem dX0_lookRound_53 : decode cX0_lookRound 53 = .ok (.iinc 1 1, 3) := by decide +kernel
theorem dX0_lookRound_56 : decode cX0_lookRound 56 = .ok (.goto (-54), 3) := by decide +kernel
theorem dX0_lookRound_59 : decode cX0_lookRound 59 = .ok (.return_, 1) := by decide +kernel
def fX0_lookRound_B52 (rc2 : Int → vr_M → Option (Int × vr_M)) (x1 : Int) (y1 : Int) (y2 : Int) (μ : vr_M) : Option (Int × vr_M) :=
  vr_gd (0 ≤ y1 ∧ y1 < 8) (vr_gd (vr_R (x1 + 1)) (rc2 (x1 + 1) (vr_u μ 59 y1.toNat y2)))
def fX0_lookRound_L2 : Nat → Int → vr_M → Option (Int × vr_M)
  | 0, _, _ => none
  | n + 1, x1, μ => if 8 ≤ x1 then some (0, μ) else (fX2_has 52 x1 μ).bind (fun r3 => if r3.1 = 0 then fX0_lookRound_B52 (fX0_lookRound_L2 n) x1 x1 0 r3.2 else (fX3_wornWhenBurnt 8 52 x1 r3.2).bind (fun r4 => (fX3_yields 8 52 x1 r4.1 r4.2).bind (fun r5 => fX0_lookRound_B52 (fX0_lookRound_L2 n) x1 x1 r5.1 r5.2)))
def fX0_lookRound (μ : vr_M) : Option (Int × vr_M) :=
  fX0_lookRound_L2 9000 0 μ
theorem mi_X0_lookRound : vr_Mi RX0 yX0_lookRound cX0_lookRound 2 none 0 := ⟨⟨wi_yX0_lookRound, ws_yX0_lookRound, wz_X0, wc_yX0_lookRound⟩, rfl, by decide, by decide, by decide +kernel⟩
set_option maxRecDepth 100000 in
set_option maxHeartbeats 4000000 in
theorem ct_X0_lookRound (l : Launch) (G : vr_G) (μ : vr_M) : vr_CV l yX0_lookRound cX0_lookRound 2 none ({ frames := 3, cells := 0, slots := 0, locals := 74 } : Room) G [.ref (vr_ad G 58)] μ (fX0_lookRound μ) := by
  refine vr_start (own := RX0) (by decide) rfl (Nat.le_of_ble_eq_true rfl) (fun p e s m args below meth c C0 => ?_)
  show vr_J p l e _ s m args below meth c 2 G (vr_Z (vr_QV G) G args s below) 0 [(0, .ref (vr_ad G 58))] [] μ _
  have L2 : ∀ (n : Nat) (x1 : Int) (h_x1 : vr_R x1) (μ : vr_M), vr_J p l e ({ frames := 3, cells := 0, slots := 0, locals := 74 } : Room) s m args below meth c 2 G (vr_Z (vr_QV G) G args s below) 2 [(0, .ref (vr_ad G 58)), (1, .int (vr_I x1))] [] μ (fX0_lookRound_L2 n x1 μ) := by
    intro n2
    induction n2 with
    | zero => intros; exact jr_none
    | succ n2 ih2 =>
      have B52 : ∀ (x1 : Int) (h_x1 : vr_R x1) (y1 : Int) (h_y1 : vr_R y1) (y2 : Int) (h_y2 : vr_R y2) (μ : vr_M), vr_J p l e ({ frames := 3, cells := 0, slots := 0, locals := 74 } : Room) s m args below meth c 2 G (vr_Z (vr_QV G) G args s below) 52 [(0, .ref (vr_ad G 58)), (1, .int (vr_I x1))] [.int (vr_I y2), .int (vr_I y1), .ref (vr_ad G 59)] μ (fX0_lookRound_B52 (fX0_lookRound_L2 n2) x1 y1 y2 μ) := by
        intro x1 h_x1 y1 h_y1 y2 h_y2 μ
        unfold fX0_lookRound_B52
        refine jr_gd (fun g1 => ?_)
        refine jr_iast C0 (by decide) kd_59 kl_59 g1 (j := y1.toNat) rfl dX0_lookRound_52 ?_
        refine jr_iinc C0 (q := 1) dX0_lookRound_53 rfl (by decide) (lv' := [(1, .int (vr_I (x1 + 1))), (0, .ref (vr_ad G 58))]) rfl ?_
        refine jr_goto C0 dX0_lookRound_56 (tgt := 2) (by decide) ?_
        refine jr_gd (fun g2 => ?_)
        refine jr_sub [1, 0] rfl ?_
        exact ih2 (x1 + 1) g2 _
      intro x1 h_x1 μ
      rw [fX0_lookRound_L2.eq_2]
      refine jr_iload_n C0 1 dX0_lookRound_2 rfl rfl ?_
      refine jr_bipush C0 dX0_lookRound_3 rfl ?_
      refine jr_icmp_ge C0 h_x1 (⟨by decide, by decide⟩) dX0_lookRound_5 (tgt := 59) (by decide) ?_ ?_
      · exact jr_vret C0 dX0_lookRound_59
      refine jr_aload_n C0 0 dX0_lookRound_8 rfl rfl ?_
      refine jr_getr C0 (by decide) kd_58 (by decide) rfl wx_X0 (i := 4) (by decide) wf_X0_15 (j := 59) rfl dX0_lookRound_9 ?_
      refine jr_iload_n C0 1 dX0_lookRound_12 rfl rfl ?_
      refine jr_aload_n C0 0 dX0_lookRound_13 rfl rfl ?_
      refine jr_getr C0 (by decide) kd_58 (by decide) rfl wx_X0 (i := 0) (by decide) wf_X0_28 (j := 52) rfl dX0_lookRound_14 ?_
      refine jr_iload_n C0 1 dX0_lookRound_17 rfl rfl ?_
      refine jr_vI C0 (by decide) kd_52 (by decide) rfl (ct_X2_has l G (by decide) kd_52 x1 h_x1 _) mi_X2_has wm_X0_44 ⟨Nat.le_of_ble_eq_true rfl, Nat.le_of_ble_eq_true rfl⟩ ⟨rfl, rfl⟩ (As := [.int (vr_I x1)]) rfl (st := [.int (vr_I x1), .ref (vr_ad G 59)]) rfl (Nat.le_of_ble_eq_true rfl) dX0_lookRound_18 (fun r3 hr3 => ?_)
      refine jr_if_eq C0 hr3 dX0_lookRound_21 (tgt := 51) (by decide) ?_ ?_
      · refine jr_iconst C0 dX0_lookRound_51 ?_
        exact B52 x1 h_x1 x1 h_x1 0 (⟨by decide, by decide⟩) _
      refine jr_aload_n C0 0 dX0_lookRound_24 rfl rfl ?_
      refine jr_getr C0 (by decide) kd_58 (by decide) rfl wx_X0 (i := 1) (by decide) wf_X0_32 (j := 8) rfl dX0_lookRound_25 ?_
      refine jr_aload_n C0 0 dX0_lookRound_28 rfl rfl ?_
      refine jr_getr C0 (by decide) kd_58 (by decide) rfl wx_X0 (i := 0) (by decide) wf_X0_28 (j := 52) rfl dX0_lookRound_29 ?_
      refine jr_iload_n C0 1 dX0_lookRound_32 rfl rfl ?_
      refine jr_aload_n C0 0 dX0_lookRound_33 rfl rfl ?_
      refine jr_getr C0 (by decide) kd_58 (by decide) rfl wx_X0 (i := 1) (by decide) wf_X0_32 (j := 8) rfl dX0_lookRound_34 ?_
      refine jr_aload_n C0 0 dX0_lookRound_37 rfl rfl ?_
      refine jr_getr C0 (by decide) kd_58 (by decide) rfl wx_X0 (i := 0) (by decide) wf_X0_28 (j := 52) rfl dX0_lookRound_38 ?_
      refine jr_iload_n C0 1 dX0_lookRound_41 rfl rfl ?_
      refine jr_vI C0 (by decide) kd_8 (by decide) rfl (ct_X3_wornWhenBurnt l G (by decide) kd_8 (by decide) kd_52 x1 h_x1 _) mi_X3_wornWhenBurnt wm_X0_48 ⟨Nat.le_of_ble_eq_true rfl, Nat.le_of_ble_eq_true rfl⟩ ⟨rfl, rfl⟩ (As := [.ref (vr_ad G 52), .int (vr_I x1)]) rfl (st := [.int (vr_I x1), .ref (vr_ad G 52), .ref (vr_ad G 8), .int (vr_I x1), .ref (vr_ad G 59)]) rfl (Nat.le_of_ble_eq_true rfl) dX0_lookRound_42 (fun r4 hr4 => ?_)
      refine jr_vI C0 (by decide) kd_8 (by decide) rfl (ct_X3_yields l G (by decide) kd_8 (by decide) kd_52 x1 h_x1 r4.1 hr4 _) mi_X3_yields wm_X0_54 ⟨Nat.le_of_ble_eq_true rfl, Nat.le_of_ble_eq_true rfl⟩ ⟨rfl, rfl⟩ (As := [.ref (vr_ad G 52), .int (vr_I x1), .int (vr_I r4.1)]) rfl (st := [.int (vr_I x1), .ref (vr_ad G 59)]) rfl (Nat.le_of_ble_eq_true rfl) dX0_lookRound_45 (fun r5 hr5 => ?_)
      refine jr_goto C0 dX0_lookRound_48 (tgt := 52) (by decide) ?_
      exact B52 x1 h_x1 x1 h_x1 r5.1 hr5 _
  unfold fX0_lookRound
  refine jr_iconst C0 dX0_lookRound_0 ?_
  refine jr_istore_n C0 dX0_lookRound_1 rfl (by decide) (lv' := [(1, .int (vr_I 0)), (0, .ref (vr_ad G 58))]) rfl ?_
  refine jr_sub [1, 0] rfl ?_
  exact L2 9000 0 (⟨by decide, by decide⟩) _
theorem dX0_gift_0 : decode cX0_gift 0 = .ok (.aload_n 0, 1) := by decide +kernel
theorem dX0_gift_1 : decode cX0_gift 1 = .ok (.getfield 28, 3) := by decide +kernel
theorem dX0_gift_4 : decode cX0_gift 4 = .ok (.iload_n 1, 1) := by decide +kernel
theorem dX0_gift_5 : decode cX0_gift 5 = .ok (.invokevirtual 44, 3) := by decide +kernel
theorem dX0_gift_8 : decode cX0_gift 8 = .ok (.ifCond .eq 30, 3) := by decide +kernel
theorem dX0_gift_11 : decode cX0_gift 11 = .ok (.aload_n 0, 1) := by decide +kernel
theorem dX0_gift_12 : decode cX0_gift 12 = .ok (.getfield 28, 3) := by decide +kernel
theorem dX0_gift_15 : decode cX0_gift 15 = .ok (.getfield 58, 3) := by decide +kernel
theorem dX0_gift_18 : decode cX0_gift 18 = .ok (.iload_n 1, 1) := by decide +kernel
theorem dX0_gift_19 : decode cX0_gift 19 = .ok (.iaload, 1) := by decide +kernel
theorem dX0_gift_20 : decode cX0_gift 20 = .ok (.iload_n 2, 1) := by decide +kernel
theorem dX0_gift_21 : decode cX0_gift 21 = .ok (.isub, 1) := by decide +kernel
theorem dX0_gift_22 : decode cX0_gift 22 = .ok (.invokestatic 61, 3) := by decide +kernel
theorem dX0_gift_25 : decode cX0_gift 25 = .ok (.iload_n 3, 1) := by decide +kernel
theorem dX0_gift_26 : decode cX0_gift 26 = .ok (.if_icmp .gt 12, 3) := by decide +kernel
theorem dX0_gift_29 : decode cX0_gift 29 = .ok (.aload_n 0, 1) := by decide +kernel
theorem dX0_gift_30 : decode cX0_gift 30 = .ok (.getfield 15, 3) := by decide +kernel
theorem dX0_gift_33 : decode cX0_gift 33 = .ok (.iload_n 1, 1) := by decide +kernel
theorem dX0_gift_34 : decode cX0_gift 34 = .ok (.iaload, 1) := by decide +kernel
theorem dX0_gift_35 : decode cX0_gift 35 = .ok (.goto 4, 3) := by decide +kernel
theorem dX0_gift_38 : decode cX0_gift 38 = .ok (.iconst 0, 1) := by decide +kernel
theorem dX0_gift_39 : decode cX0_gift 39 = .ok (.ireturn, 1) := by decide +kernel
def fX0_gift_B39 (y0 : Int) (μ : vr_M) : Option (Int × vr_M) :=
  some (y0, μ)
def fX0_gift_B38 (μ : vr_M) : Option (Int × vr_M) :=
  fX0_gift_B39 0 μ
def fX0_gift (a0 : Int) (a1 : Int) (a2 : Int) (μ : vr_M) : Option (Int × vr_M) :=
  (fX2_has 52 a0 μ).bind (fun r1 => if r1.1 = 0 then fX0_gift_B38 r1.2 else vr_gd (0 ≤ a0 ∧ a0 < 8) (vr_gd (vr_R ((r1.2 54 a0.toNat) - a1)) (vr_gd (vr_R (if 0 ≤ ((r1.2 54 a0.toNat) - a1) then ((r1.2 54 a0.toNat) - a1) else -((r1.2 54 a0.toNat) - a1))) (if a2 < (if 0 ≤ ((r1.2 54 a0.toNat) - a1) then ((r1.2 54 a0.toNat) - a1) else -((r1.2 54 a0.toNat) - a1)) then fX0_gift_B38 r1.2 else vr_gd (vr_R (r1.2 59 a0.toNat)) (fX0_gift_B39 (r1.2 59 a0.toNat) r1.2)))))
theorem mi_X0_gift : vr_Mi RX0 yX0_gift cX0_gift 4 (some .int) 3 := ⟨⟨wi_yX0_gift, ws_yX0_gift, wz_X0, wc_yX0_gift⟩, rfl, by decide, by decide, by decide +kernel⟩
set_option maxRecDepth 100000 in
set_option maxHeartbeats 4000000 in
theorem ct_X0_gift (l : Launch) (G : vr_G) (a0 : Int) (h_a0 : vr_R a0) (a1 : Int) (h_a1 : vr_R a1) (a2 : Int) (h_a2 : vr_R a2) (μ : vr_M) : vr_CI l yX0_gift cX0_gift 4 (some .int) ({ frames := 1, cells := 0, slots := 0, locals := 21 } : Room) G [.ref (vr_ad G 58), .int (vr_I a0), .int (vr_I a1), .int (vr_I a2)] μ (fX0_gift a0 a1 a2 μ) := by
  refine vr_start (own := RX0) (by decide) rfl (Nat.le_of_ble_eq_true rfl) (fun p e s m args below meth c C0 => ?_)
  show vr_J p l e _ s m args below meth c 4 G (vr_Z (vr_QI G) G args s below) 0 [(0, .ref (vr_ad G 58)), (1, .int (vr_I a0)), (2, .int (vr_I a1)), (3, .int (vr_I a2))] [] μ _
  have B39 : ∀ (y0 : Int) (h_y0 : vr_R y0) (μ : vr_M), vr_J p l e ({ frames := 1, cells := 0, slots := 0, locals := 21 } : Room) s m args below meth c 4 G (vr_Z (vr_QI G) G args s below) 39 [] [.int (vr_I y0)] μ (fX0_gift_B39 y0 μ) := by
    intro y0 h_y0 μ
    unfold fX0_gift_B39
    exact jr_iret C0 h_y0 dX0_gift_39
  have B38 : ∀ (μ : vr_M), vr_J p l e ({ frames := 1, cells := 0, slots := 0, locals := 21 } : Room) s m args below meth c 4 G (vr_Z (vr_QI G) G args s below) 38 [] [] μ (fX0_gift_B38 μ) := by
    intro μ
    unfold fX0_gift_B38
    refine jr_iconst C0 dX0_gift_38 ?_
    exact B39 0 (⟨by decide, by decide⟩) _
  unfold fX0_gift
  refine jr_aload_n C0 0 dX0_gift_0 rfl rfl ?_
  refine jr_getr C0 (by decide) kd_58 (by decide) rfl wx_X0 (i := 0) (by decide) wf_X0_28 (j := 52) rfl dX0_gift_1 ?_
  refine jr_iload_n C0 1 dX0_gift_4 rfl rfl ?_
  refine jr_vI C0 (by decide) kd_52 (by decide) rfl (ct_X2_has l G (by decide) kd_52 a0 h_a0 _) mi_X2_has wm_X0_44 ⟨Nat.le_of_ble_eq_true rfl, Nat.le_of_ble_eq_true rfl⟩ ⟨rfl, rfl⟩ (As := [.int (vr_I a0)]) rfl (st := []) rfl (Nat.le_of_ble_eq_true rfl) dX0_gift_5 (fun r1 hr1 => ?_)
  refine jr_if_eq C0 hr1 dX0_gift_8 (tgt := 38) (by decide) ?_ ?_
  · refine jr_sub [] rfl ?_
    exact B38 _
  refine jr_aload_n C0 0 dX0_gift_11 rfl rfl ?_
  refine jr_getr C0 (by decide) kd_58 (by decide) rfl wx_X0 (i := 0) (by decide) wf_X0_28 (j := 52) rfl dX0_gift_12 ?_
  refine jr_getr C0 (by decide) kd_52 (by decide) rfl wx_X2 (i := 1) (by decide) wf_X0_58 (j := 54) rfl dX0_gift_15 ?_
  refine jr_iload_n C0 1 dX0_gift_18 rfl rfl ?_
  refine jr_gd (fun g2 => ?_)
  refine jr_iald C0 (by decide) kd_54 kl_54 g2 (j := a0.toNat) rfl dX0_gift_19 ?_
  refine jr_iload_n C0 2 dX0_gift_20 rfl rfl ?_
  refine jr_isub C0 dX0_gift_21 ?_
  refine jr_gd (fun g3 => ?_)
  refine jr_abs C0 g3 wm_X0_61 wt_yJ9_abs_0f7a4 wz_J9 wc_yJ9_abs_0f7a4 (Nat.le_of_ble_eq_true rfl) (Nat.le_of_ble_eq_true rfl) dX0_gift_22 ?_
  refine jr_iload_n C0 3 dX0_gift_25 rfl rfl ?_
  refine jr_gd (fun g4 => ?_)
  refine jr_icmp_gt C0 g4 h_a2 dX0_gift_26 (tgt := 38) (by decide) ?_ ?_
  · refine jr_sub [] rfl ?_
    exact B38 _
  refine jr_aload_n C0 0 dX0_gift_29 rfl rfl ?_
  refine jr_getr C0 (by decide) kd_58 (by decide) rfl wx_X0 (i := 4) (by decide) wf_X0_15 (j := 59) rfl dX0_gift_30 ?_
  refine jr_iload_n C0 1 dX0_gift_33 rfl rfl ?_
  refine jr_iald C0 (by decide) kd_59 kl_59 g2 (j := a0.toNat) rfl dX0_gift_34 ?_
  refine jr_goto C0 dX0_gift_35 (tgt := 39) (by decide) ?_
  refine jr_gd (fun g5 => ?_)
  refine jr_sub [] rfl ?_
  exact B39 (r1.2 59 a0.toNat) g5 _
theorem dX0_giftOf_0 : decode cX0_giftOf 0 = .ok (.iconst 0, 1) := by decide +kernel
theorem dX0_giftOf_1 : decode cX0_giftOf 1 = .ok (.istore_n 3, 1) := by decide +kernel
theorem dX0_giftOf_2 : decode cX0_giftOf 2 = .ok (.iconst 0, 1) := by decide +kernel
theorem dX0_giftOf_3 : decode cX0_giftOf 3 = .ok (.istore 4, 2) := by decide +kernel
theorem dX0_giftOf_5 : decode cX0_giftOf 5 = .ok (.iload 4, 2) := by decide +kernel
theorem dX0_giftOf_7 : decode cX0_giftOf 7 = .ok (.bipush 8, 2) := by decide +kernel
theorem dX0_giftOf_9 : decode cX0_giftOf 9 = .ok (.if_icmp .ge 35, 3) := by decide +kernel
theorem dX0_giftOf_12 : decode cX0_giftOf 12 = .ok (.iload_n 1, 1) := by decide +kernel
theorem dX0_giftOf_13 : decode cX0_giftOf 13 = .ok (.iload 4, 2) := by decide +kernel
theorem dX0_giftOf_15 : decode cX0_giftOf 15 = .ok (.ishr, 1) := by decide +kernel
theorem dX0_giftOf_16 : decode cX0_giftOf 16 = .ok (.iconst 1, 1) := by decide +kernel
theorem dX0_giftOf_17 : decode cX0_giftOf 17 = .ok (.iand, 1) := by decide +kernel
theorem dX0_giftOf_18 : decode cX0_giftOf 18 = .ok (.ifCond .eq 20, 3) := by decide +kernel
theorem dX0_giftOf_21 : decode cX0_giftOf 21 = .ok (.iload_n 3, 1) := by decide +kernel
theorem dX0_giftOf_22 : decode cX0_giftOf 22 = .ok (.aload_n 0, 1) := by decide +kernel
theorem dX0_giftOf_23 : decode cX0_giftOf 23 = .ok (.iload 4, 2) := by decide +kernel
theorem dX0_giftOf_25 : decode cX0_giftOf 25 = .ok (.iload_n 2, 1) := by decide +kernel
theorem dX0_giftOf_26 : decode cX0_giftOf 26 = .ok (.aload_n 0, 1) := by decide +kernel
theorem dX0_giftOf_27 : decode cX0_giftOf 27 = .ok (.getfield 32, 3) := by decide +kernel
theorem dX0_giftOf_30 : decode cX0_giftOf 30 = .ok (.getfield 67, 3) := by decide +kernel
theorem dX0_giftOf_33 : decode cX0_giftOf 33 = .ok (.invokevirtual 70, 3) := by decide +kernel
theorem dX0_giftOf_36 : decode cX0_giftOf 36 = .ok (.iadd, 1) := by decide +kernel
theorem dX0_giftOf_37 : decode cX0_giftOf 37 = .ok (.istore_n 3, 1) := by decide +kernel
theorem dX0_giftOf_38 : decode cX0_giftOf 38 = .ok (.iinc 4 1, 3) := by decide +kernel
theorem dX0_giftOf_41 : decode cX0_giftOf 41 = .ok (.goto (-36), 3) := by decide +kernel
theorem dX0_giftOf_44 : decode cX0_giftOf 44 = .ok (.iload_n 3, 1) := by decide +kernel
theorem dX0_giftOf_45 : decode cX0_giftOf 45 = .ok (.ireturn, 1) := by decide +kernel
def fX0_giftOf_B38 (rc5 : Int → Int → Int → Int → vr_M → Option (Int × vr_M)) (x1 : Int) (x2 : Int) (x3 : Int) (x4 : Int) (μ : vr_M) : Option (Int × vr_M) :=
  vr_gd (vr_R (x4 + 1)) (rc5 x1 x2 x3 (x4 + 1) μ)
def fX0_giftOf_L5 : Nat → Int → Int → Int → Int → vr_M → Option (Int × vr_M)
  | 0, _, _, _, _, _ => none
  | n + 1, x1, x2, x3, x4, μ => if 8 ≤ x4 then some (x3, μ) else if (vr_and (vr_shr x1 x4) 1) = 0 then fX0_giftOf_B38 (fX0_giftOf_L5 n) x1 x2 x3 x4 μ else vr_gd (vr_R (μ 8 5)) ((fX0_gift x4 x2 (μ 8 5) μ).bind (fun r3 => vr_gd (vr_R (x3 + r3.1)) (fX0_giftOf_B38 (fX0_giftOf_L5 n) x1 x2 (x3 + r3.1) x4 r3.2)))
def fX0_giftOf (a0 : Int) (a1 : Int) (μ : vr_M) : Option (Int × vr_M) :=
  fX0_giftOf_L5 9000 a0 a1 0 0 μ
theorem mi_X0_giftOf : vr_Mi RX0 yX0_giftOf cX0_giftOf 5 (some .int) 2 := ⟨⟨wi_yX0_giftOf, ws_yX0_giftOf, wz_X0, wc_yX0_giftOf⟩, rfl, by decide, by decide, by decide +kernel⟩
set_option maxRecDepth 100000 in
set_option maxHeartbeats 4000000 in
theorem ct_X0_giftOf (l : Launch) (G : vr_G) (a0 : Int) (h_a0 : vr_R a0) (a1 : Int) (h_a1 : vr_R a1) (μ : vr_M) : vr_CI l yX0_giftOf cX0_giftOf 5 (some .int) ({ frames := 2, cells := 0, slots := 0, locals := 44 } : Room) G [.ref (vr_ad G 58), .int (vr_I a0), .int (vr_I a1)] μ (fX0_giftOf a0 a1 μ) := by
  refine vr_start (own := RX0) (by decide) rfl (Nat.le_of_ble_eq_true rfl) (fun p e s m args below meth c C0 => ?_)
  show vr_J p l e _ s m args below meth c 5 G (vr_Z (vr_QI G) G args s below) 0 [(0, .ref (vr_ad G 58)), (1, .int (vr_I a0)), (2, .int (vr_I a1))] [] μ _
  have L5 : ∀ (n : Nat) (x1 : Int) (h_x1 : vr_R x1) (x2 : Int) (h_x2 : vr_R x2) (x3 : Int) (h_x3 : vr_R x3) (x4 : Int) (h_x4 : vr_R x4) (μ : vr_M), vr_J p l e ({ frames := 2, cells := 0, slots := 0, locals := 44 } : Room) s m args below meth c 5 G (vr_Z (vr_QI G) G args s below) 5 [(0, .ref (vr_ad G 58)), (1, .int (vr_I x1)), (2, .int (vr_I x2)), (3, .int (vr_I x3)), (4, .int (vr_I x4))] [] μ (fX0_giftOf_L5 n x1 x2 x3 x4 μ) := by
    intro n5
    induction n5 with
    | zero => intros; exact jr_none
    | succ n5 ih5 =>
      have B38 : ∀ (x1 : Int) (h_x1 : vr_R x1) (x2 : Int) (h_x2 : vr_R x2) (x3 : Int) (h_x3 : vr_R x3) (x4 : Int) (h_x4 : vr_R x4) (μ : vr_M), vr_J p l e ({ frames := 2, cells := 0, slots := 0, locals := 44 } : Room) s m args below meth c 5 G (vr_Z (vr_QI G) G args s below) 38 [(0, .ref (vr_ad G 58)), (1, .int (vr_I x1)), (2, .int (vr_I x2)), (3, .int (vr_I x3)), (4, .int (vr_I x4))] [] μ (fX0_giftOf_B38 (fX0_giftOf_L5 n5) x1 x2 x3 x4 μ) := by
        intro x1 h_x1 x2 h_x2 x3 h_x3 x4 h_x4 μ
        unfold fX0_giftOf_B38
        refine jr_iinc C0 (q := 4) dX0_giftOf_38 rfl (by decide) (lv' := [(4, .int (vr_I (x4 + 1))), (0, .ref (vr_ad G 58)), (1, .int (vr_I x1)), (2, .int (vr_I x2)), (3, .int (vr_I x3))]) rfl ?_
        refine jr_goto C0 dX0_giftOf_41 (tgt := 5) (by decide) ?_
        refine jr_gd (fun g1 => ?_)
        refine jr_sub [1, 2, 3, 4, 0] rfl ?_
        exact ih5 x1 h_x1 x2 h_x2 x3 h_x3 (x4 + 1) g1 _
      intro x1 h_x1 x2 h_x2 x3 h_x3 x4 h_x4 μ
      rw [fX0_giftOf_L5.eq_2]
      refine jr_iload C0 4 dX0_giftOf_5 rfl ?_
      refine jr_bipush C0 dX0_giftOf_7 rfl ?_
      refine jr_icmp_ge C0 h_x4 (⟨by decide, by decide⟩) dX0_giftOf_9 (tgt := 44) (by decide) ?_ ?_
      · refine jr_iload_n C0 3 dX0_giftOf_44 rfl rfl ?_
        exact jr_iret C0 h_x3 dX0_giftOf_45
      refine jr_iload_n C0 1 dX0_giftOf_12 rfl rfl ?_
      refine jr_iload C0 4 dX0_giftOf_13 rfl ?_
      refine jr_ishr C0 dX0_giftOf_15 ?_
      refine jr_iconst C0 dX0_giftOf_16 ?_
      refine jr_iand C0 dX0_giftOf_17 ?_
      refine jr_if_eq C0 (vr_RT _) dX0_giftOf_18 (tgt := 38) (by decide) ?_ ?_
      · exact B38 x1 h_x1 x2 h_x2 x3 h_x3 x4 h_x4 _
      refine jr_iload_n C0 3 dX0_giftOf_21 rfl rfl ?_
      refine jr_aload_n C0 0 dX0_giftOf_22 rfl rfl ?_
      refine jr_iload C0 4 dX0_giftOf_23 rfl ?_
      refine jr_iload_n C0 2 dX0_giftOf_25 rfl rfl ?_
      refine jr_aload_n C0 0 dX0_giftOf_26 rfl rfl ?_
      refine jr_getr C0 (by decide) kd_58 (by decide) rfl wx_X0 (i := 1) (by decide) wf_X0_32 (j := 8) rfl dX0_giftOf_27 ?_
      refine jr_geti C0 (by decide) kd_8 (by decide) rfl wx_X3 (i := 5) (by decide) wf_X0_67 rfl dX0_giftOf_30 ?_
      refine jr_gd (fun g2 => ?_)
      refine jr_vI C0 (by decide) kd_58 (by decide) rfl (ct_X0_gift l G x4 h_x4 x2 h_x2 (μ 8 5) g2 _) mi_X0_gift wm_X0_70 ⟨Nat.le_of_ble_eq_true rfl, Nat.le_of_ble_eq_true rfl⟩ ⟨rfl, rfl⟩ (As := [.int (vr_I x4), .int (vr_I x2), .int (vr_I (μ 8 5))]) rfl (st := [.int (vr_I x3)]) rfl (Nat.le_of_ble_eq_true rfl) dX0_giftOf_33 (fun r3 hr3 => ?_)
      refine jr_iadd C0 dX0_giftOf_36 ?_
      refine jr_istore_n C0 dX0_giftOf_37 rfl (by decide) (lv' := [(3, .int (vr_I (x3 + r3.1))), (0, .ref (vr_ad G 58)), (1, .int (vr_I x1)), (2, .int (vr_I x2)), (4, .int (vr_I x4))]) rfl ?_
      refine jr_gd (fun g4 => ?_)
      refine jr_sub [1, 2, 3, 0, 4] rfl ?_
      exact B38 x1 h_x1 x2 h_x2 (x3 + r3.1) g4 x4 h_x4 _
  unfold fX0_giftOf
  refine jr_iconst C0 dX0_giftOf_0 ?_
  refine jr_istore_n C0 dX0_giftOf_1 rfl (by decide) (lv' := [(3, .int (vr_I 0)), (0, .ref (vr_ad G 58)), (1, .int (vr_I a0)), (2, .int (vr_I a1))]) rfl ?_
  refine jr_iconst C0 dX0_giftOf_2 ?_
  refine jr_istore C0 dX0_giftOf_3 (by decide) (lv' := [(4, .int (vr_I 0)), (3, .int (vr_I 0)), (0, .ref (vr_ad G 58)), (1, .int (vr_I a0)), (2, .int (vr_I a1))]) rfl ?_
  refine jr_sub [2, 3, 4, 1, 0] rfl ?_
  exact L5 9000 a0 h_a0 a1 h_a1 0 (⟨by decide, by decide⟩) 0 (⟨by decide, by decide⟩) _
theorem dX0_picksInTurn_0 : decode cX0_picksInTurn 0 = .ok (.iconst 0, 1) := by decide +kernel
theorem dX0_picksInTurn_1 : decode cX0_picksInTurn 1 = .ok (.istore_n 1, 1) := by decide +kernel
theorem dX0_picksInTurn_2 : decode cX0_picksInTurn 2 = .ok (.iconst 0, 1) := by decide +kernel
theorem dX0_picksInTurn_3 : decode cX0_picksInTurn 3 = .ok (.istore_n 2, 1) := by decide +kernel
theorem dX0_picksInTurn_4 : decode cX0_picksInTurn 4 = .ok (.iload_n 2, 1) := by decide +kernel
theorem dX0_picksInTurn_5 : decode cX0_picksInTurn 5 = .ok (.aload_n 0, 1) := by decide +kernel
theorem dX0_picksInTurn_6 : decode cX0_picksInTurn 6 = .ok (.getfield 28, 3) := by decide +kernel
theorem dX0_picksInTurn_9 : decode cX0_picksInTurn 9 = .ok (.getfield 87, 3) := by decide +kernel
theorem dX0_picksInTurn_12 : decode cX0_picksInTurn 12 = .ok (.if_icmp .ge 43, 3) := by decide +kernel
theorem dX0_picksInTurn_15 : decode cX0_picksInTurn 15 = .ok (.aload_n 0, 1) := by decide +kernel
theorem dX0_picksInTurn_16 : decode cX0_picksInTurn 16 = .ok (.getfield 9, 3) := by decide +kernel
theorem dX0_picksInTurn_19 : decode cX0_picksInTurn 19 = .ok (.ifCond .le 36, 3) := by decide +kernel
theorem dX0_picksInTurn_22 : decode cX0_picksInTurn 22 = .ok (.iload_n 2, 1) := by decide +kernel
theorem dX0_picksInTurn_23 : decode cX0_picksInTurn 23 = .ok (.aload_n 0, 1) := by decide +kernel
theorem dX0_picksInTurn_24 : decode cX0_picksInTurn 24 = .ok (.getfield 9, 3) := by decide +kernel
theorem dX0_picksInTurn_27 : decode cX0_picksInTurn 27 = .ok (.irem, 1) := by decide +kernel
theorem dX0_picksInTurn_28 : decode cX0_picksInTurn 28 = .ok (.aload_n 0, 1) := by decide +kernel
theorem dX0_picksInTurn_29 : decode cX0_picksInTurn 29 = .ok (.getfield 28, 3) := by decide +kernel
theorem dX0_picksInTurn_32 : decode cX0_picksInTurn 32 = .ok (.getfield 39, 3) := by decide +kernel
theorem dX0_picksInTurn_35 : decode cX0_picksInTurn 35 = .ok (.aload_n 0, 1) := by decide +kernel
theorem dX0_picksInTurn_36 : decode cX0_picksInTurn 36 = .ok (.getfield 9, 3) := by decide +kernel
theorem dX0_picksInTurn_39 : decode cX0_picksInTurn 39 = .ok (.irem, 1) := by decide +kernel
theorem dX0_picksInTurn_40 : decode cX0_picksInTurn 40 = .ok (.if_icmp .ne 9, 3) := by decide +kernel
theorem dX0_picksInTurn_43 : decode cX0_picksInTurn 43 = .ok (.iload_n 1, 1) := by decide +kernel
theorem dX0_picksInTurn_44 : decode cX0_picksInTurn 44 = .ok (.iconst 1, 1) := by decide +kernel
theorem dX0_picksInTurn_45 : decode cX0_picksInTurn 45 = .ok (.iload_n 2, 1) := by decide +kernel
theorem dX0_picksInTurn_46 : decode cX0_picksInTurn 46 = .ok (.ishl, 1) := by decide +kernel
theorem dX0_picksInTurn_47 : decode cX0_picksInTurn 47 = .ok (.ior, 1) := by decide +kernel
theorem dX0_picksInTurn_48 : decode cX0_picksInTurn 48 = .ok (.istore_n 1, 1) := by decide +kernel
theorem dX0_picksInTurn_49 : decode cX0_picksInTurn 49 = .ok (.iinc 2 1, 3) := by decide +kernel
theorem dX0_picksInTurn_52 : decode cX0_picksInTurn 52 = .ok (.goto (-48), 3) := by decide +kernel
theorem dX0_picksInTurn_55 : decode cX0_picksInTurn 55 = .ok (.iload_n 1, 1) := by decide +kernel
theorem dX0_picksInTurn_56 : decode cX0_picksInTurn 56 = .ok (.ireturn, 1) := by decide +kernel
def fX0_picksInTurn_B55 (x1 : Int) (μ : vr_M) : Option (Int × vr_M) :=
  some (x1, μ)
def fX0_picksInTurn_B49 (rc4 : Int → Int → vr_M → Option (Int × vr_M)) (x1 : Int) (x2 : Int) (μ : vr_M) : Option (Int × vr_M) :=
  vr_gd (vr_R (x2 + 1)) (rc4 x1 (x2 + 1) μ)
def fX0_picksInTurn_L4 : Nat → Int → Int → vr_M → Option (Int × vr_M)
  | 0, _, _, _ => none
  | n + 1, x1, x2, μ => vr_gd (vr_R (μ 52 5)) (if (μ 52 5) ≤ x2 then fX0_picksInTurn_B55 x1 μ else vr_gd (vr_R (μ 58 3)) (if (μ 58 3) ≤ 0 then fX0_picksInTurn_B55 x1 μ else vr_gd (¬ (μ 58 3) = 0) (vr_gd (vr_R (μ 52 8)) (vr_gd (vr_R (x2.tmod (μ 58 3))) (vr_gd (vr_R ((μ 52 8).tmod (μ 58 3))) (if ¬ (x2.tmod (μ 58 3)) = ((μ 52 8).tmod (μ 58 3)) then fX0_picksInTurn_B49 (fX0_picksInTurn_L4 n) x1 x2 μ else fX0_picksInTurn_B49 (fX0_picksInTurn_L4 n) (vr_or x1 (vr_shl 1 x2)) x2 μ))))))
def fX0_picksInTurn (μ : vr_M) : Option (Int × vr_M) :=
  fX0_picksInTurn_L4 9000 0 0 μ
theorem mi_X0_picksInTurn : vr_Mi RX0 yX0_picksInTurn cX0_picksInTurn 3 (some .int) 0 := ⟨⟨wi_yX0_picksInTurn, ws_yX0_picksInTurn, wz_X0, wc_yX0_picksInTurn⟩, rfl, by decide, by decide, by decide +kernel⟩
set_option maxRecDepth 100000 in
set_option maxHeartbeats 4000000 in
theorem ct_X0_picksInTurn (l : Launch) (G : vr_G) (μ : vr_M) : vr_CI l yX0_picksInTurn cX0_picksInTurn 3 (some .int) ({ frames := 0, cells := 0, slots := 0, locals := 0 } : Room) G [.ref (vr_ad G 58)] μ (fX0_picksInTurn μ) := by
  refine vr_start (own := RX0) (by decide) rfl (Nat.le_of_ble_eq_true rfl) (fun p e s m args below meth c C0 => ?_)
  show vr_J p l e _ s m args below meth c 3 G (vr_Z (vr_QI G) G args s below) 0 [(0, .ref (vr_ad G 58))] [] μ _
  have B55 : ∀ (x1 : Int) (h_x1 : vr_R x1) (μ : vr_M), vr_J p l e ({ frames := 0, cells := 0, slots := 0, locals := 0 } : Room) s m args below meth c 3 G (vr_Z (vr_QI G) G args s below) 55 [(1, .int (vr_I x1))] [] μ (fX0_picksInTurn_B55 x1 μ) := by
    intro x1 h_x1 μ
    unfold fX0_picksInTurn_B55
    refine jr_iload_n C0 0 dX0_picksInTurn_55 rfl rfl ?_
    exact jr_iret C0 h_x1 dX0_picksInTurn_56
  have L4 : ∀ (n : Nat) (x1 : Int) (h_x1 : vr_R x1) (x2 : Int) (h_x2 : vr_R x2) (μ : vr_M), vr_J p l e ({ frames := 0, cells := 0, slots := 0, locals := 0 } : Room) s m args below meth c 3 G (vr_Z (vr_QI G) G args s below) 4 [(0, .ref (vr_ad G 58)), (1, .int (vr_I x1)), (2, .int (vr_I x2))] [] μ (fX0_picksInTurn_L4 n x1 x2 μ) := by
    intro n4
    induction n4 with
    | zero => intros; exact jr_none
    | succ n4 ih4 =>
      have B49 : ∀ (x1 : Int) (h_x1 : vr_R x1) (x2 : Int) (h_x2 : vr_R x2) (μ : vr_M), vr_J p l e ({ frames := 0, cells := 0, slots := 0, locals := 0 } : Room) s m args below meth c 3 G (vr_Z (vr_QI G) G args s below) 49 [(0, .ref (vr_ad G 58)), (1, .int (vr_I x1)), (2, .int (vr_I x2))] [] μ (fX0_picksInTurn_B49 (fX0_picksInTurn_L4 n4) x1 x2 μ) := by
        intro x1 h_x1 x2 h_x2 μ
        unfold fX0_picksInTurn_B49
        refine jr_iinc C0 (q := 2) dX0_picksInTurn_49 rfl (by decide) (lv' := [(2, .int (vr_I (x2 + 1))), (0, .ref (vr_ad G 58)), (1, .int (vr_I x1))]) rfl ?_
        refine jr_goto C0 dX0_picksInTurn_52 (tgt := 4) (by decide) ?_
        refine jr_gd (fun g1 => ?_)
        refine jr_sub [1, 2, 0] rfl ?_
        exact ih4 x1 h_x1 (x2 + 1) g1 _
      intro x1 h_x1 x2 h_x2 μ
      rw [fX0_picksInTurn_L4.eq_2]
      refine jr_iload_n C0 2 dX0_picksInTurn_4 rfl rfl ?_
      refine jr_aload_n C0 0 dX0_picksInTurn_5 rfl rfl ?_
      refine jr_getr C0 (by decide) kd_58 (by decide) rfl wx_X0 (i := 0) (by decide) wf_X0_28 (j := 52) rfl dX0_picksInTurn_6 ?_
      refine jr_geti C0 (by decide) kd_52 (by decide) rfl wx_X2 (i := 5) (by decide) wf_X0_87 rfl dX0_picksInTurn_9 ?_
      refine jr_gd (fun g2 => ?_)
      refine jr_icmp_ge C0 h_x2 g2 dX0_picksInTurn_12 (tgt := 55) (by decide) ?_ ?_
      · refine jr_sub [1] rfl ?_
        exact B55 x1 h_x1 _
      refine jr_aload_n C0 0 dX0_picksInTurn_15 rfl rfl ?_
      refine jr_geti C0 (by decide) kd_58 (by decide) rfl wx_X0 (i := 3) (by decide) wf_X0_9 rfl dX0_picksInTurn_16 ?_
      refine jr_gd (fun g3 => ?_)
      refine jr_if_le C0 g3 dX0_picksInTurn_19 (tgt := 55) (by decide) ?_ ?_
      · refine jr_sub [1] rfl ?_
        exact B55 x1 h_x1 _
      refine jr_iload_n C0 2 dX0_picksInTurn_22 rfl rfl ?_
      refine jr_aload_n C0 0 dX0_picksInTurn_23 rfl rfl ?_
      refine jr_geti C0 (by decide) kd_58 (by decide) rfl wx_X0 (i := 3) (by decide) wf_X0_9 rfl dX0_picksInTurn_24 ?_
      refine jr_gd (fun g4 => ?_)
      refine jr_irem C0 h_x2 g3 g4 dX0_picksInTurn_27 ?_
      refine jr_aload_n C0 0 dX0_picksInTurn_28 rfl rfl ?_
      refine jr_getr C0 (by decide) kd_58 (by decide) rfl wx_X0 (i := 0) (by decide) wf_X0_28 (j := 52) rfl dX0_picksInTurn_29 ?_
      refine jr_geti C0 (by decide) kd_52 (by decide) rfl wx_X2 (i := 8) (by decide) wf_X0_39 rfl dX0_picksInTurn_32 ?_
      refine jr_aload_n C0 0 dX0_picksInTurn_35 rfl rfl ?_
      refine jr_geti C0 (by decide) kd_58 (by decide) rfl wx_X0 (i := 3) (by decide) wf_X0_9 rfl dX0_picksInTurn_36 ?_
      refine jr_gd (fun g5 => ?_)
      refine jr_irem C0 g5 g3 g4 dX0_picksInTurn_39 ?_
      refine jr_gd (fun g6 => ?_)
      refine jr_gd (fun g7 => ?_)
      refine jr_icmp_ne C0 g6 g7 dX0_picksInTurn_40 (tgt := 49) (by decide) ?_ ?_
      · exact B49 x1 h_x1 x2 h_x2 _
      refine jr_iload_n C0 1 dX0_picksInTurn_43 rfl rfl ?_
      refine jr_iconst C0 dX0_picksInTurn_44 ?_
      refine jr_iload_n C0 2 dX0_picksInTurn_45 rfl rfl ?_
      refine jr_ishl C0 dX0_picksInTurn_46 ?_
      refine jr_ior C0 dX0_picksInTurn_47 ?_
      refine jr_istore_n C0 dX0_picksInTurn_48 rfl (by decide) (lv' := [(1, .int (vr_I (vr_or x1 (vr_shl 1 x2)))), (0, .ref (vr_ad G 58)), (2, .int (vr_I x2))]) rfl ?_
      refine jr_sub [1, 0, 2] rfl ?_
      exact B49 (vr_or x1 (vr_shl 1 x2)) (vr_RT _) x2 h_x2 _
  unfold fX0_picksInTurn
  refine jr_iconst C0 dX0_picksInTurn_0 ?_
  refine jr_istore_n C0 dX0_picksInTurn_1 rfl (by decide) (lv' := [(1, .int (vr_I 0)), (0, .ref (vr_ad G 58))]) rfl ?_
  refine jr_iconst C0 dX0_picksInTurn_2 ?_
  refine jr_istore_n C0 dX0_picksInTurn_3 rfl (by decide) (lv' := [(2, .int (vr_I 0)), (1, .int (vr_I 0)), (0, .ref (vr_ad G 58))]) rfl ?_
  refine jr_sub [2, 1, 0] rfl ?_
  exact L4 9000 0 (⟨by decide, by decide⟩) 0 (⟨by decide, by decide⟩) _
theorem dX2_all_0 : decode cX2_all 0 = .ok (.iconst 1, 1) := by decide +kernel
theorem dX2_all_1 : decode cX2_all 1 = .ok (.aload_n 0, 1) := by decide +kernel
theorem dX2_all_2 : decode cX2_all 2 = .ok (.getfield 31, 3) := by decide +kernel
theorem dX2_all_5 : decode cX2_all 5 = .ok (.ishl, 1) := by decide +kernel
theorem dX2_all_6 : decode cX2_all 6 = .ok (.iconst 1, 1) := by decide +kernel
theorem dX2_all_7 : decode cX2_all 7 = .ok (.isub, 1) := by decide +kernel
theorem dX2_all_8 : decode cX2_all 8 = .ok (.ireturn, 1) := by decide +kernel
def fX2_all (k : Nat) (μ : vr_M) : Option (Int × vr_M) :=
  vr_gd (vr_R ((vr_shl 1 (μ k 5)) - 1)) (some ((vr_shl 1 (μ k 5)) - 1, μ))
theorem mi_X2_all : vr_Mi RX2 yX2_all cX2_all 1 (some .int) 0 := ⟨⟨wi_yX2_all, ws_yX2_all, wz_X2, wc_yX2_all⟩, rfl, by decide, by decide, by decide +kernel⟩
set_option maxRecDepth 100000 in
set_option maxHeartbeats 4000000 in
theorem ct_X2_all (l : Launch) (G : vr_G) {k : Nat} (hk_k : k < 78) (hd_k : vr_kd k = 2) (μ : vr_M) : vr_CI l yX2_all cX2_all 1 (some .int) ({ frames := 0, cells := 0, slots := 0, locals := 0 } : Room) G [.ref (vr_ad G k)] μ (fX2_all k μ) := by
  refine vr_start (own := RX2) (by decide) rfl (Nat.le_of_ble_eq_true rfl) (fun p e s m args below meth c C0 => ?_)
  obtain ⟨q_k, ⟨d_k_1, d_k_2, d_k_3, d_k_4, d_k_5⟩, n_k_1, n_k_2, n_k_3, n_k_4, n_k_5⟩ := vr_hill hk_k hd_k
  show vr_J p l e _ s m args below meth c 1 G (vr_Z (vr_QI G) G args s below) 0 [(0, .ref (vr_ad G k))] [] μ _
  unfold fX2_all
  refine jr_iconst C0 dX2_all_0 ?_
  refine jr_aload_n C0 0 dX2_all_1 rfl rfl ?_
  refine jr_geti C0 hk_k hd_k (by decide) rfl wx_X2 (i := 5) (by decide) wf_X2_31 rfl dX2_all_2 ?_
  refine jr_ishl C0 dX2_all_5 ?_
  refine jr_iconst C0 dX2_all_6 ?_
  refine jr_isub C0 dX2_all_7 ?_
  refine jr_gd (fun g1 => ?_)
  exact jr_iret C0 g1 dX2_all_8
theorem dJ6_numberOfTrailingZeros_0f7a4_0 : decode cJ6_numberOfTrailingZeros_0f7a4 0 = .ok (.iload_n 0, 1) := by decide +kernel
theorem dJ6_numberOfTrailingZeros_0f7a4_1 : decode cJ6_numberOfTrailingZeros_0f7a4 1 = .ok (.iconst (-1), 1) := by decide +kernel
theorem dJ6_numberOfTrailingZeros_0f7a4_2 : decode cJ6_numberOfTrailingZeros_0f7a4 2 = .ok (.ixor, 1) := by decide +kernel
theorem dJ6_numberOfTrailingZeros_0f7a4_3 : decode cJ6_numberOfTrailingZeros_0f7a4 3 = .ok (.iload_n 0, 1) := by decide +kernel
theorem dJ6_numberOfTrailingZeros_0f7a4_4 : decode cJ6_numberOfTrailingZeros_0f7a4 4 = .ok (.iconst 1, 1) := by decide +kernel
theorem dJ6_numberOfTrailingZeros_0f7a4_5 : decode cJ6_numberOfTrailingZeros_0f7a4 5 = .ok (.isub, 1) := by decide +kernel
theorem dJ6_numberOfTrailingZeros_0f7a4_6 : decode cJ6_numberOfTrailingZeros_0f7a4 6 = .ok (.iand, 1) := by decide +kernel
theorem dJ6_numberOfTrailingZeros_0f7a4_7 : decode cJ6_numberOfTrailingZeros_0f7a4 7 = .ok (.istore_n 0, 1) := by decide +kernel
theorem dJ6_numberOfTrailingZeros_0f7a4_8 : decode cJ6_numberOfTrailingZeros_0f7a4 8 = .ok (.iload_n 0, 1) := by decide +kernel
theorem dJ6_numberOfTrailingZeros_0f7a4_9 : decode cJ6_numberOfTrailingZeros_0f7a4 9 = .ok (.ifCond .gt 8, 3) := by decide +kernel
theorem dJ6_numberOfTrailingZeros_0f7a4_12 : decode cJ6_numberOfTrailingZeros_0f7a4 12 = .ok (.iload_n 0, 1) := by decide +kernel
theorem dJ6_numberOfTrailingZeros_0f7a4_13 : decode cJ6_numberOfTrailingZeros_0f7a4 13 = .ok (.bipush 32, 2) := by decide +kernel
theorem dJ6_numberOfTrailingZeros_0f7a4_15 : decode cJ6_numberOfTrailingZeros_0f7a4 15 = .ok (.iand, 1) := by decide +kernel
theorem dJ6_numberOfTrailingZeros_0f7a4_16 : decode cJ6_numberOfTrailingZeros_0f7a4 16 = .ok (.ireturn, 1) := by decide +kernel
theorem dJ6_numberOfTrailingZeros_0f7a4_17 : decode cJ6_numberOfTrailingZeros_0f7a4 17 = .ok (.iconst 1, 1) := by decide +kernel
theorem dJ6_numberOfTrailingZeros_0f7a4_18 : decode cJ6_numberOfTrailingZeros_0f7a4 18 = .ok (.istore_n 1, 1) := by decide +kernel
theorem dJ6_numberOfTrailingZeros_0f7a4_19 : decode cJ6_numberOfTrailingZeros_0f7a4 19 = .ok (.iload_n 0, 1) := by decide +kernel
theorem dJ6_numberOfTrailingZeros_0f7a4_20 : decode cJ6_numberOfTrailingZeros_0f7a4 20 = .ok (.ldc_w 264, 3) := by decide +kernel
theorem dJ6_numberOfTrailingZeros_0f7a4_23 : decode cJ6_numberOfTrailingZeros_0f7a4 23 = .ok (.if_icmp .le 11, 3) := by decide +kernel
theorem dJ6_numberOfTrailingZeros_0f7a4_26 : decode cJ6_numberOfTrailingZeros_0f7a4 26 = .ok (.iinc 1 16, 3) := by decide +kernel
theorem dJ6_numberOfTrailingZeros_0f7a4_29 : decode cJ6_numberOfTrailingZeros_0f7a4 29 = .ok (.iload_n 0, 1) := by decide +kernel
theorem dJ6_numberOfTrailingZeros_0f7a4_30 : decode cJ6_numberOfTrailingZeros_0f7a4 30 = .ok (.bipush 16, 2) := by decide +kernel
theorem dJ6_numberOfTrailingZeros_0f7a4_32 : decode cJ6_numberOfTrailingZeros_0f7a4 32 = .ok (.iushr, 1) := by decide +kernel
theorem dJ6_numberOfTrailingZeros_0f7a4_33 : decode cJ6_numberOfTrailingZeros_0f7a4 33 = .ok (.istore_n 0, 1) := by decide +kernel
theorem dJ6_numberOfTrailingZeros_0f7a4_34 : decode cJ6_numberOfTrailingZeros_0f7a4 34 = .ok (.iload_n 0, 1) := by decide +kernel
theorem dJ6_numberOfTrailingZeros_0f7a4_35 : decode cJ6_numberOfTrailingZeros_0f7a4 35 = .ok (.sipush 256, 3) := by decide +kernel
theorem dJ6_numberOfTrailingZeros_0f7a4_38 : decode cJ6_numberOfTrailingZeros_0f7a4 38 = .ok (.if_icmp .le 11, 3) := by decide +kernel
theorem dJ6_numberOfTrailingZeros_0f7a4_41 : decode cJ6_numberOfTrailingZeros_0f7a4 41 = .ok (.iinc 1 8, 3) := by decide +kernel
theorem dJ6_numberOfTrailingZeros_0f7a4_44 : decode cJ6_numberOfTrailingZeros_0f7a4 44 = .ok (.iload_n 0, 1) := by decide +kernel
theorem dJ6_numberOfTrailingZeros_0f7a4_45 : decode cJ6_numberOfTrailingZeros_0f7a4 45 = .ok (.bipush 8, 2) := by decide +kernel
theorem dJ6_numberOfTrailingZeros_0f7a4_47 : decode cJ6_numberOfTrailingZeros_0f7a4 47 = .ok (.iushr, 1) := by decide +kernel
theorem dJ6_numberOfTrailingZeros_0f7a4_48 : decode cJ6_numberOfTrailingZeros_0f7a4 48 = .ok (.istore_n 0, 1) := by decide +kernel
theorem dJ6_numberOfTrailingZeros_0f7a4_49 : decode cJ6_numberOfTrailingZeros_0f7a4 49 = .ok (.iload_n 0, 1) := by decide +kernel
theorem dJ6_numberOfTrailingZeros_0f7a4_50 : decode cJ6_numberOfTrailingZeros_0f7a4 50 = .ok (.bipush 16, 2) := by decide +kernel
theorem dJ6_numberOfTrailingZeros_0f7a4_52 : decode cJ6_numberOfTrailingZeros_0f7a4 52 = .ok (.if_icmp .le 10, 3) := by decide +kernel
theorem dJ6_numberOfTrailingZeros_0f7a4_55 : decode cJ6_numberOfTrailingZeros_0f7a4 55 = .ok (.iinc 1 4, 3) := by decide +kernel
theorem dJ6_numberOfTrailingZeros_0f7a4_58 : decode cJ6_numberOfTrailingZeros_0f7a4 58 = .ok (.iload_n 0, 1) := by decide +kernel
theorem dJ6_numberOfTrailingZeros_0f7a4_59 : decode cJ6_numberOfTrailingZeros_0f7a4 59 = .ok (.iconst 4, 1) := by decide +kernel
theorem dJ6_numberOfTrailingZeros_0f7a4_60 : decode cJ6_numberOfTrailingZeros_0f7a4 60 = .ok (.iushr, 1) := by decide +kernel
theorem dJ6_numberOfTrailingZeros_0f7a4_61 : decode cJ6_numberOfTrailingZeros_0f7a4 61 = .ok (.istore_n 0, 1) := by decide +kernel
theorem dJ6_numberOfTrailingZeros_0f7a4_62 : decode cJ6_numberOfTrailingZeros_0f7a4 62 = .ok (.iload_n 0, 1) := by decide +kernel
theorem dJ6_numberOfTrailingZeros_0f7a4_63 : decode cJ6_numberOfTrailingZeros_0f7a4 63 = .ok (.iconst 4, 1) := by decide +kernel
theorem dJ6_numberOfTrailingZeros_0f7a4_64 : decode cJ6_numberOfTrailingZeros_0f7a4 64 = .ok (.if_icmp .le 10, 3) := by decide +kernel
theorem dJ6_numberOfTrailingZeros_0f7a4_67 : decode cJ6_numberOfTrailingZeros_0f7a4 67 = .ok (.iinc 1 2, 3) := by decide +kernel
theorem dJ6_numberOfTrailingZeros_0f7a4_70 : decode cJ6_numberOfTrailingZeros_0f7a4 70 = .ok (.iload_n 0, 1) := by decide +kernel
theorem dJ6_numberOfTrailingZeros_0f7a4_71 : decode cJ6_numberOfTrailingZeros_0f7a4 71 = .ok (.iconst 2, 1) := by decide +kernel
theorem dJ6_numberOfTrailingZeros_0f7a4_72 : decode cJ6_numberOfTrailingZeros_0f7a4 72 = .ok (.iushr, 1) := by decide +kernel
theorem dJ6_numberOfTrailingZeros_0f7a4_73 : decode cJ6_numberOfTrailingZeros_0f7a4 73 = .ok (.istore_n 0, 1) := by decide +kernel
theorem dJ6_numberOfTrailingZeros_0f7a4_74 : decode cJ6_numberOfTrailingZeros_0f7a4 74 = .ok (.iload_n 1, 1) := by decide +kernel
theorem dJ6_numberOfTrailingZeros_0f7a4_75 : decode cJ6_numberOfTrailingZeros_0f7a4 75 = .ok (.iload_n 0, 1) := by decide +kernel
theorem dJ6_numberOfTrailingZeros_0f7a4_76 : decode cJ6_numberOfTrailingZeros_0f7a4 76 = .ok (.iconst 1, 1) := by decide +kernel
theorem dJ6_numberOfTrailingZeros_0f7a4_77 : decode cJ6_numberOfTrailingZeros_0f7a4 77 = .ok (.iushr, 1) := by decide +kernel
theorem dJ6_numberOfTrailingZeros_0f7a4_78 : decode cJ6_numberOfTrailingZeros_0f7a4 78 = .ok (.iadd, 1) := by decide +kernel
theorem dJ6_numberOfTrailingZeros_0f7a4_79 : decode cJ6_numberOfTrailingZeros_0f7a4 79 = .ok (.ireturn, 1) := by decide +kernel
def fJ6_numberOfTrailingZeros_0f7a4_B74 (x0 : Int) (x1 : Int) (μ : vr_M) : Option (Int × vr_M) :=
  vr_gd (vr_R (x1 + (vr_ushr x0 1))) (some (x1 + (vr_ushr x0 1), μ))
def fJ6_numberOfTrailingZeros_0f7a4_B62 (x0 : Int) (x1 : Int) (μ : vr_M) : Option (Int × vr_M) :=
  if x0 ≤ 4 then fJ6_numberOfTrailingZeros_0f7a4_B74 x0 x1 μ else vr_gd (vr_R (x1 + 2)) (fJ6_numberOfTrailingZeros_0f7a4_B74 (vr_ushr x0 2) (x1 + 2) μ)
def fJ6_numberOfTrailingZeros_0f7a4_B49 (x0 : Int) (x1 : Int) (μ : vr_M) : Option (Int × vr_M) :=
  if x0 ≤ 16 then fJ6_numberOfTrailingZeros_0f7a4_B62 x0 x1 μ else vr_gd (vr_R (x1 + 4)) (fJ6_numberOfTrailingZeros_0f7a4_B62 (vr_ushr x0 4) (x1 + 4) μ)
def fJ6_numberOfTrailingZeros_0f7a4_B34 (x0 : Int) (x1 : Int) (μ : vr_M) : Option (Int × vr_M) :=
  if x0 ≤ 256 then fJ6_numberOfTrailingZeros_0f7a4_B49 x0 x1 μ else vr_gd (vr_R (x1 + 8)) (fJ6_numberOfTrailingZeros_0f7a4_B49 (vr_ushr x0 8) (x1 + 8) μ)
def fJ6_numberOfTrailingZeros_0f7a4 (a0 : Int) (μ : vr_M) : Option (Int × vr_M) :=
  if 0 < (vr_and (vr_xor a0 (-1)) (a0 - 1)) then if (vr_and (vr_xor a0 (-1)) (a0 - 1)) ≤ 65536 then fJ6_numberOfTrailingZeros_0f7a4_B34 (vr_and (vr_xor a0 (-1)) (a0 - 1)) 1 μ else vr_gd (vr_R (1 + 16)) (fJ6_numberOfTrailingZeros_0f7a4_B34 (vr_ushr (vr_and (vr_xor a0 (-1)) (a0 - 1)) 16) (1 + 16) μ) else some (vr_and (vr_and (vr_xor a0 (-1)) (a0 - 1)) 32, μ)
theorem mi_J6_numberOfTrailingZeros_0f7a4 : vr_Ms yJ6_numberOfTrailingZeros_0f7a4 cJ6_numberOfTrailingZeros_0f7a4 2 (some .int) 1 := ⟨⟨wt_yJ6_numberOfTrailingZeros_0f7a4, wz_J6, wc_yJ6_numberOfTrailingZeros_0f7a4⟩, by decide, by decide, by decide +kernel⟩
set_option maxRecDepth 100000 in
set_option maxHeartbeats 4000000 in
theorem ct_J6_numberOfTrailingZeros_0f7a4 (l : Launch) (G : vr_G) (a0 : Int) (h_a0 : vr_R a0) (μ : vr_M) : vr_CI l yJ6_numberOfTrailingZeros_0f7a4 cJ6_numberOfTrailingZeros_0f7a4 2 (some .int) ({ frames := 0, cells := 0, slots := 0, locals := 0 } : Room) G [.int (vr_I a0)] μ (fJ6_numberOfTrailingZeros_0f7a4 a0 μ) := by
  refine vr_start (own := RJ6) (by decide) rfl (Nat.le_of_ble_eq_true rfl) (fun p e s m args below meth c C0 => ?_)
  show vr_J p l e _ s m args below meth c 2 G (vr_Z (vr_QI G) G args s below) 0 [(0, .int (vr_I a0))] [] μ _
  have B74 : ∀ (x0 : Int) (h_x0 : vr_R x0) (x1 : Int) (h_x1 : vr_R x1) (μ : vr_M), vr_J p l e ({ frames := 0, cells := 0, slots := 0, locals := 0 } : Room) s m args below meth c 2 G (vr_Z (vr_QI G) G args s below) 74 [(0, .int (vr_I x0)), (1, .int (vr_I x1))] [] μ (fJ6_numberOfTrailingZeros_0f7a4_B74 x0 x1 μ) := by
    intro x0 h_x0 x1 h_x1 μ
    unfold fJ6_numberOfTrailingZeros_0f7a4_B74
    refine jr_iload_n C0 1 dJ6_numberOfTrailingZeros_0f7a4_74 rfl rfl ?_
    refine jr_iload_n C0 0 dJ6_numberOfTrailingZeros_0f7a4_75 rfl rfl ?_
    refine jr_iconst C0 dJ6_numberOfTrailingZeros_0f7a4_76 ?_
    refine jr_iushr C0 dJ6_numberOfTrailingZeros_0f7a4_77 ?_
    refine jr_iadd C0 dJ6_numberOfTrailingZeros_0f7a4_78 ?_
    refine jr_gd (fun g1 => ?_)
    exact jr_iret C0 g1 dJ6_numberOfTrailingZeros_0f7a4_79
  have B62 : ∀ (x0 : Int) (h_x0 : vr_R x0) (x1 : Int) (h_x1 : vr_R x1) (μ : vr_M), vr_J p l e ({ frames := 0, cells := 0, slots := 0, locals := 0 } : Room) s m args below meth c 2 G (vr_Z (vr_QI G) G args s below) 62 [(0, .int (vr_I x0)), (1, .int (vr_I x1))] [] μ (fJ6_numberOfTrailingZeros_0f7a4_B62 x0 x1 μ) := by
    intro x0 h_x0 x1 h_x1 μ
    unfold fJ6_numberOfTrailingZeros_0f7a4_B62
    refine jr_iload_n C0 0 dJ6_numberOfTrailingZeros_0f7a4_62 rfl rfl ?_
    refine jr_iconst C0 dJ6_numberOfTrailingZeros_0f7a4_63 ?_
    refine jr_icmp_le C0 h_x0 (⟨by decide, by decide⟩) dJ6_numberOfTrailingZeros_0f7a4_64 (tgt := 74) (by decide) ?_ ?_
    · exact B74 x0 h_x0 x1 h_x1 _
    refine jr_iinc C0 (q := 1) dJ6_numberOfTrailingZeros_0f7a4_67 rfl (by decide) (lv' := [(1, .int (vr_I (x1 + 2))), (0, .int (vr_I x0))]) rfl ?_
    refine jr_iload_n C0 1 dJ6_numberOfTrailingZeros_0f7a4_70 rfl rfl ?_
    refine jr_iconst C0 dJ6_numberOfTrailingZeros_0f7a4_71 ?_
    refine jr_iushr C0 dJ6_numberOfTrailingZeros_0f7a4_72 ?_
    refine jr_istore_n C0 dJ6_numberOfTrailingZeros_0f7a4_73 rfl (by decide) (lv' := [(0, .int (vr_I (vr_ushr x0 2))), (1, .int (vr_I (x1 + 2)))]) rfl ?_
    refine jr_gd (fun g2 => ?_)
    exact B74 (vr_ushr x0 2) (vr_RT _) (x1 + 2) g2 _
  have B49 : ∀ (x0 : Int) (h_x0 : vr_R x0) (x1 : Int) (h_x1 : vr_R x1) (μ : vr_M), vr_J p l e ({ frames := 0, cells := 0, slots := 0, locals := 0 } : Room) s m args below meth c 2 G (vr_Z (vr_QI G) G args s below) 49 [(0, .int (vr_I x0)), (1, .int (vr_I x1))] [] μ (fJ6_numberOfTrailingZeros_0f7a4_B49 x0 x1 μ) := by
    intro x0 h_x0 x1 h_x1 μ
    unfold fJ6_numberOfTrailingZeros_0f7a4_B49
    refine jr_iload_n C0 0 dJ6_numberOfTrailingZeros_0f7a4_49 rfl rfl ?_
    refine jr_bipush C0 dJ6_numberOfTrailingZeros_0f7a4_50 rfl ?_
    refine jr_icmp_le C0 h_x0 (⟨by decide, by decide⟩) dJ6_numberOfTrailingZeros_0f7a4_52 (tgt := 62) (by decide) ?_ ?_
    · exact B62 x0 h_x0 x1 h_x1 _
    refine jr_iinc C0 (q := 1) dJ6_numberOfTrailingZeros_0f7a4_55 rfl (by decide) (lv' := [(1, .int (vr_I (x1 + 4))), (0, .int (vr_I x0))]) rfl ?_
    refine jr_iload_n C0 1 dJ6_numberOfTrailingZeros_0f7a4_58 rfl rfl ?_
    refine jr_iconst C0 dJ6_numberOfTrailingZeros_0f7a4_59 ?_
    refine jr_iushr C0 dJ6_numberOfTrailingZeros_0f7a4_60 ?_
    refine jr_istore_n C0 dJ6_numberOfTrailingZeros_0f7a4_61 rfl (by decide) (lv' := [(0, .int (vr_I (vr_ushr x0 4))), (1, .int (vr_I (x1 + 4)))]) rfl ?_
    refine jr_gd (fun g3 => ?_)
    exact B62 (vr_ushr x0 4) (vr_RT _) (x1 + 4) g3 _
  have B34 : ∀ (x0 : Int) (h_x0 : vr_R x0) (x1 : Int) (h_x1 : vr_R x1) (μ : vr_M), vr_J p l e ({ frames := 0, cells := 0, slots := 0, locals := 0 } : Room) s m args below meth c 2 G (vr_Z (vr_QI G) G args s below) 34 [(0, .int (vr_I x0)), (1, .int (vr_I x1))] [] μ (fJ6_numberOfTrailingZeros_0f7a4_B34 x0 x1 μ) := by
    intro x0 h_x0 x1 h_x1 μ
    unfold fJ6_numberOfTrailingZeros_0f7a4_B34
    refine jr_iload_n C0 0 dJ6_numberOfTrailingZeros_0f7a4_34 rfl rfl ?_
    refine jr_sipush C0 dJ6_numberOfTrailingZeros_0f7a4_35 rfl ?_
    refine jr_icmp_le C0 h_x0 (⟨by decide, by decide⟩) dJ6_numberOfTrailingZeros_0f7a4_38 (tgt := 49) (by decide) ?_ ?_
    · exact B49 x0 h_x0 x1 h_x1 _
    refine jr_iinc C0 (q := 1) dJ6_numberOfTrailingZeros_0f7a4_41 rfl (by decide) (lv' := [(1, .int (vr_I (x1 + 8))), (0, .int (vr_I x0))]) rfl ?_
    refine jr_iload_n C0 1 dJ6_numberOfTrailingZeros_0f7a4_44 rfl rfl ?_
    refine jr_bipush C0 dJ6_numberOfTrailingZeros_0f7a4_45 rfl ?_
    refine jr_iushr C0 dJ6_numberOfTrailingZeros_0f7a4_47 ?_
    refine jr_istore_n C0 dJ6_numberOfTrailingZeros_0f7a4_48 rfl (by decide) (lv' := [(0, .int (vr_I (vr_ushr x0 8))), (1, .int (vr_I (x1 + 8)))]) rfl ?_
    refine jr_gd (fun g4 => ?_)
    exact B49 (vr_ushr x0 8) (vr_RT _) (x1 + 8) g4 _
  unfold fJ6_numberOfTrailingZeros_0f7a4
  refine jr_iload_n C0 0 dJ6_numberOfTrailingZeros_0f7a4_0 rfl rfl ?_
  refine jr_iconst C0 dJ6_numberOfTrailingZeros_0f7a4_1 ?_
  refine jr_ixor C0 dJ6_numberOfTrailingZeros_0f7a4_2 ?_
  refine jr_iload_n C0 0 dJ6_numberOfTrailingZeros_0f7a4_3 rfl rfl ?_
  refine jr_iconst C0 dJ6_numberOfTrailingZeros_0f7a4_4 ?_
  refine jr_isub C0 dJ6_numberOfTrailingZeros_0f7a4_5 ?_
  refine jr_iand C0 dJ6_numberOfTrailingZeros_0f7a4_6 ?_
  refine jr_istore_n C0 dJ6_numberOfTrailingZeros_0f7a4_7 rfl (by decide) (lv' := [(0, .int (vr_I (vr_and (vr_xor a0 (-1)) (a0 - 1))))]) rfl ?_
  refine jr_iload_n C0 0 dJ6_numberOfTrailingZeros_0f7a4_8 rfl rfl ?_
  refine jr_if_gt C0 (vr_RT _) dJ6_numberOfTrailingZeros_0f7a4_9 (tgt := 17) (by decide) ?_ ?_
  · refine jr_iconst C0 dJ6_numberOfTrailingZeros_0f7a4_17 ?_
    refine jr_istore_n C0 dJ6_numberOfTrailingZeros_0f7a4_18 rfl (by decide) (lv' := [(1, .int (vr_I 1)), (0, .int (vr_I (vr_and (vr_xor a0 (-1)) (a0 - 1))))]) rfl ?_
    refine jr_iload_n C0 1 dJ6_numberOfTrailingZeros_0f7a4_19 rfl rfl ?_
    refine jr_ldcw C0 (n := 65536) wk_J6_264 rfl dJ6_numberOfTrailingZeros_0f7a4_20 ?_
    refine jr_icmp_le C0 (vr_RT _) (⟨by decide, by decide⟩) dJ6_numberOfTrailingZeros_0f7a4_23 (tgt := 34) (by decide) ?_ ?_
    · refine jr_sub [1, 0] rfl ?_
      exact B34 (vr_and (vr_xor a0 (-1)) (a0 - 1)) (vr_RT _) 1 (⟨by decide, by decide⟩) _
    refine jr_iinc C0 (q := 0) dJ6_numberOfTrailingZeros_0f7a4_26 rfl (by decide) (lv' := [(1, .int (vr_I (1 + 16))), (0, .int (vr_I (vr_and (vr_xor a0 (-1)) (a0 - 1))))]) rfl ?_
    refine jr_iload_n C0 1 dJ6_numberOfTrailingZeros_0f7a4_29 rfl rfl ?_
    refine jr_bipush C0 dJ6_numberOfTrailingZeros_0f7a4_30 rfl ?_
    refine jr_iushr C0 dJ6_numberOfTrailingZeros_0f7a4_32 ?_
    refine jr_istore_n C0 dJ6_numberOfTrailingZeros_0f7a4_33 rfl (by decide) (lv' := [(0, .int (vr_I (vr_ushr (vr_and (vr_xor a0 (-1)) (a0 - 1)) 16))), (1, .int (vr_I (1 + 16)))]) rfl ?_
    refine jr_gd (fun g5 => ?_)
    exact B34 (vr_ushr (vr_and (vr_xor a0 (-1)) (a0 - 1)) 16) (vr_RT _) (1 + 16) g5 _
  refine jr_iload_n C0 0 dJ6_numberOfTrailingZeros_0f7a4_12 rfl rfl ?_
  refine jr_bipush C0 dJ6_numberOfTrailingZeros_0f7a4_13 rfl ?_
  refine jr_iand C0 dJ6_numberOfTrailingZeros_0f7a4_15 ?_
  exact jr_iret C0 (vr_RT _) dJ6_numberOfTrailingZeros_0f7a4_16
theorem dJ6_bitCount_0f7a4_0 : decode cJ6_bitCount_0f7a4 0 = .ok (.iload_n 0, 1) := by decide +kernel
theorem dJ6_bitCount_0f7a4_1 : decode cJ6_bitCount_0f7a4 1 = .ok (.iload_n 0, 1) := by decide +kernel
theorem dJ6_bitCount_0f7a4_2 : decode cJ6_bitCount_0f7a4 2 = .ok (.iconst 1, 1) := by decide +kernel
theorem dJ6_bitCount_0f7a4_3 : decode cJ6_bitCount_0f7a4 3 = .ok (.iushr, 1) := by decide +kernel
theorem dJ6_bitCount_0f7a4_4 : decode cJ6_bitCount_0f7a4 4 = .ok (.ldc_w 265, 3) := by decide +kernel
theorem dJ6_bitCount_0f7a4_7 : decode cJ6_bitCount_0f7a4 7 = .ok (.iand, 1) := by decide +kernel
theorem dJ6_bitCount_0f7a4_8 : decode cJ6_bitCount_0f7a4 8 = .ok (.isub, 1) := by decide +kernel
theorem dJ6_bitCount_0f7a4_9 : decode cJ6_bitCount_0f7a4 9 = .ok (.istore_n 0, 1) := by decide +kernel
theorem dJ6_bitCount_0f7a4_10 : decode cJ6_bitCount_0f7a4 10 = .ok (.iload_n 0, 1) := by decide +kernel
theorem dJ6_bitCount_0f7a4_11 : decode cJ6_bitCount_0f7a4 11 = .ok (.ldc_w 266, 3) := by decide +kernel
theorem dJ6_bitCount_0f7a4_14 : decode cJ6_bitCount_0f7a4 14 = .ok (.iand, 1) := by decide +kernel
theorem dJ6_bitCount_0f7a4_15 : decode cJ6_bitCount_0f7a4 15 = .ok (.iload_n 0, 1) := by decide +kernel
theorem dJ6_bitCount_0f7a4_16 : decode cJ6_bitCount_0f7a4 16 = .ok (.iconst 2, 1) := by decide +kernel
theorem dJ6_bitCount_0f7a4_17 : decode cJ6_bitCount_0f7a4 17 = .ok (.iushr, 1) := by decide +kernel
theorem dJ6_bitCount_0f7a4_18 : decode cJ6_bitCount_0f7a4 18 = .ok (.ldc_w 266, 3) := by decide +kernel
theorem dJ6_bitCount_0f7a4_21 : decode cJ6_bitCount_0f7a4 21 = .ok (.iand, 1) := by decide +kernel
theorem dJ6_bitCount_0f7a4_22 : decode cJ6_bitCount_0f7a4 22 = .ok (.iadd, 1) := by decide +kernel
theorem dJ6_bitCount_0f7a4_23 : decode cJ6_bitCount_0f7a4 23 = .ok (.istore_n 0, 1) := by decide +kernel
theorem dJ6_bitCount_0f7a4_24 : decode cJ6_bitCount_0f7a4 24 = .ok (.iload_n 0, 1) := by decide +kernel
theorem dJ6_bitCount_0f7a4_25 : decode cJ6_bitCount_0f7a4 25 = .ok (.iload_n 0, 1) := by decide +kernel
theorem dJ6_bitCount_0f7a4_26 : decode cJ6_bitCount_0f7a4 26 = .ok (.iconst 4, 1) := by decide +kernel
theorem dJ6_bitCount_0f7a4_27 : decode cJ6_bitCount_0f7a4 27 = .ok (.iushr, 1) := by decide +kernel
theorem dJ6_bitCount_0f7a4_28 : decode cJ6_bitCount_0f7a4 28 = .ok (.iadd, 1) := by decide +kernel
theorem dJ6_bitCount_0f7a4_29 : decode cJ6_bitCount_0f7a4 29 = .ok (.ldc_w 267, 3) := by decide +kernel
theorem dJ6_bitCount_0f7a4_32 : decode cJ6_bitCount_0f7a4 32 = .ok (.iand, 1) := by decide +kernel
theorem dJ6_bitCount_0f7a4_33 : decode cJ6_bitCount_0f7a4 33 = .ok (.istore_n 0, 1) := by decide +kernel
theorem dJ6_bitCount_0f7a4_34 : decode cJ6_bitCount_0f7a4 34 = .ok (.iload_n 0, 1) := by decide +kernel
theorem dJ6_bitCount_0f7a4_35 : decode cJ6_bitCount_0f7a4 35 = .ok (.iload_n 0, 1) := by decide +kernel
theorem dJ6_bitCount_0f7a4_36 : decode cJ6_bitCount_0f7a4 36 = .ok (.bipush 8, 2) := by decide +kernel
theorem dJ6_bitCount_0f7a4_38 : decode cJ6_bitCount_0f7a4 38 = .ok (.iushr, 1) := by decide +kernel
theorem dJ6_bitCount_0f7a4_39 : decode cJ6_bitCount_0f7a4 39 = .ok (.iadd, 1) := by decide +kernel
theorem dJ6_bitCount_0f7a4_40 : decode cJ6_bitCount_0f7a4 40 = .ok (.istore_n 0, 1) := by decide +kernel
theorem dJ6_bitCount_0f7a4_41 : decode cJ6_bitCount_0f7a4 41 = .ok (.iload_n 0, 1) := by decide +kernel
theorem dJ6_bitCount_0f7a4_42 : decode cJ6_bitCount_0f7a4 42 = .ok (.iload_n 0, 1) := by decide +kernel
theorem dJ6_bitCount_0f7a4_43 : decode cJ6_bitCount_0f7a4 43 = .ok (.bipush 16, 2) := by decide +kernel
theorem dJ6_bitCount_0f7a4_45 : decode cJ6_bitCount_0f7a4 45 = .ok (.iushr, 1) := by decide +kernel
theorem dJ6_bitCount_0f7a4_46 : decode cJ6_bitCount_0f7a4 46 = .ok (.iadd, 1) := by decide +kernel
theorem dJ6_bitCount_0f7a4_47 : decode cJ6_bitCount_0f7a4 47 = .ok (.istore_n 0, 1) := by decide +kernel
theorem dJ6_bitCount_0f7a4_48 : decode cJ6_bitCount_0f7a4 48 = .ok (.iload_n 0, 1) := by decide +kernel
theorem dJ6_bitCount_0f7a4_49 : decode cJ6_bitCount_0f7a4 49 = .ok (.bipush 63, 2) := by decide +kernel
theorem dJ6_bitCount_0f7a4_51 : decode cJ6_bitCount_0f7a4 51 = .ok (.iand, 1) := by decide +kernel
theorem dJ6_bitCount_0f7a4_52 : decode cJ6_bitCount_0f7a4 52 = .ok (.ireturn, 1) := by decide +kernel
def fJ6_bitCount_0f7a4 (a0 : Int) (μ : vr_M) : Option (Int × vr_M) :=
  some (vr_and (((vr_and (((vr_and (a0 - (vr_and (vr_ushr a0 1) 1431655765)) 858993459) + (vr_and (vr_ushr (a0 - (vr_and (vr_ushr a0 1) 1431655765)) 2) 858993459)) + (vr_ushr ((vr_and (a0 - (vr_and (vr_ushr a0 1) 1431655765)) 858993459) + (vr_and (vr_ushr (a0 - (vr_and (vr_ushr a0 1) 1431655765)) 2) 858993459)) 4)) 252645135) + (vr_ushr (vr_and (((vr_and (a0 - (vr_and (vr_ushr a0 1) 1431655765)) 858993459) + (vr_and (vr_ushr (a0 - (vr_and (vr_ushr a0 1) 1431655765)) 2) 858993459)) + (vr_ushr ((vr_and (a0 - (vr_and (vr_ushr a0 1) 1431655765)) 858993459) + (vr_and (vr_ushr (a0 - (vr_and (vr_ushr a0 1) 1431655765)) 2) 858993459)) 4)) 252645135) 8)) + (vr_ushr ((vr_and (((vr_and (a0 - (vr_and (vr_ushr a0 1) 1431655765)) 858993459) + (vr_and (vr_ushr (a0 - (vr_and (vr_ushr a0 1) 1431655765)) 2) 858993459)) + (vr_ushr ((vr_and (a0 - (vr_and (vr_ushr a0 1) 1431655765)) 858993459) + (vr_and (vr_ushr (a0 - (vr_and (vr_ushr a0 1) 1431655765)) 2) 858993459)) 4)) 252645135) + (vr_ushr (vr_and (((vr_and (a0 - (vr_and (vr_ushr a0 1) 1431655765)) 858993459) + (vr_and (vr_ushr (a0 - (vr_and (vr_ushr a0 1) 1431655765)) 2) 858993459)) + (vr_ushr ((vr_and (a0 - (vr_and (vr_ushr a0 1) 1431655765)) 858993459) + (vr_and (vr_ushr (a0 - (vr_and (vr_ushr a0 1) 1431655765)) 2) 858993459)) 4)) 252645135) 8)) 16)) 63, μ)
theorem mi_J6_bitCount_0f7a4 : vr_Ms yJ6_bitCount_0f7a4 cJ6_bitCount_0f7a4 1 (some .int) 1 := ⟨⟨wt_yJ6_bitCount_0f7a4, wz_J6, wc_yJ6_bitCount_0f7a4⟩, by decide, by decide, by decide +kernel⟩
set_option maxRecDepth 100000 in
set_option maxHeartbeats 4000000 in
theorem ct_J6_bitCount_0f7a4 (l : Launch) (G : vr_G) (a0 : Int) (h_a0 : vr_R a0) (μ : vr_M) : vr_CI l yJ6_bitCount_0f7a4 cJ6_bitCount_0f7a4 1 (some .int) ({ frames := 0, cells := 0, slots := 0, locals := 0 } : Room) G [.int (vr_I a0)] μ (fJ6_bitCount_0f7a4 a0 μ) := by
  refine vr_start (own := RJ6) (by decide) rfl (Nat.le_of_ble_eq_true rfl) (fun p e s m args below meth c C0 => ?_)
  show vr_J p l e _ s m args below meth c 1 G (vr_Z (vr_QI G) G args s below) 0 [(0, .int (vr_I a0))] [] μ _
  unfold fJ6_bitCount_0f7a4
  refine jr_iload_n C0 0 dJ6_bitCount_0f7a4_0 rfl rfl ?_
  refine jr_iload_n C0 0 dJ6_bitCount_0f7a4_1 rfl rfl ?_
  refine jr_iconst C0 dJ6_bitCount_0f7a4_2 ?_
  refine jr_iushr C0 dJ6_bitCount_0f7a4_3 ?_
  refine jr_ldcw C0 (n := 1431655765) wk_J6_265 rfl dJ6_bitCount_0f7a4_4 ?_
  refine jr_iand C0 dJ6_bitCount_0f7a4_7 ?_
  refine jr_isub C0 dJ6_bitCount_0f7a4_8 ?_
  refine jr_istore_n C0 dJ6_bitCount_0f7a4_9 rfl (by decide) (lv' := [(0, .int (vr_I (a0 - (vr_and (vr_ushr a0 1) 1431655765))))]) rfl ?_
  refine jr_iload_n C0 0 dJ6_bitCount_0f7a4_10 rfl rfl ?_
  refine jr_ldcw C0 (n := 858993459) wk_J6_266 rfl dJ6_bitCount_0f7a4_11 ?_
  refine jr_iand C0 dJ6_bitCount_0f7a4_14 ?_
  refine jr_iload_n C0 0 dJ6_bitCount_0f7a4_15 rfl rfl ?_
  refine jr_iconst C0 dJ6_bitCount_0f7a4_16 ?_
  refine jr_iushr C0 dJ6_bitCount_0f7a4_17 ?_
  refine jr_ldcw C0 (n := 858993459) wk_J6_266 rfl dJ6_bitCount_0f7a4_18 ?_
  refine jr_iand C0 dJ6_bitCount_0f7a4_21 ?_
  refine jr_iadd C0 dJ6_bitCount_0f7a4_22 ?_
  refine jr_istore_n C0 dJ6_bitCount_0f7a4_23 rfl (by decide) (lv' := [(0, .int (vr_I ((vr_and (a0 - (vr_and (vr_ushr a0 1) 1431655765)) 858993459) + (vr_and (vr_ushr (a0 - (vr_and (vr_ushr a0 1) 1431655765)) 2) 858993459))))]) rfl ?_
  refine jr_iload_n C0 0 dJ6_bitCount_0f7a4_24 rfl rfl ?_
  refine jr_iload_n C0 0 dJ6_bitCount_0f7a4_25 rfl rfl ?_
  refine jr_iconst C0 dJ6_bitCount_0f7a4_26 ?_
  refine jr_iushr C0 dJ6_bitCount_0f7a4_27 ?_
  refine jr_iadd C0 dJ6_bitCount_0f7a4_28 ?_
  refine jr_ldcw C0 (n := 252645135) wk_J6_267 rfl dJ6_bitCount_0f7a4_29 ?_
  refine jr_iand C0 dJ6_bitCount_0f7a4_32 ?_
  refine jr_istore_n C0 dJ6_bitCount_0f7a4_33 rfl (by decide) (lv' := [(0, .int (vr_I (vr_and (((vr_and (a0 - (vr_and (vr_ushr a0 1) 1431655765)) 858993459) + (vr_and (vr_ushr (a0 - (vr_and (vr_ushr a0 1) 1431655765)) 2) 858993459)) + (vr_ushr ((vr_and (a0 - (vr_and (vr_ushr a0 1) 1431655765)) 858993459) + (vr_and (vr_ushr (a0 - (vr_and (vr_ushr a0 1) 1431655765)) 2) 858993459)) 4)) 252645135)))]) rfl ?_
  refine jr_iload_n C0 0 dJ6_bitCount_0f7a4_34 rfl rfl ?_
  refine jr_iload_n C0 0 dJ6_bitCount_0f7a4_35 rfl rfl ?_
  refine jr_bipush C0 dJ6_bitCount_0f7a4_36 rfl ?_
  refine jr_iushr C0 dJ6_bitCount_0f7a4_38 ?_
  refine jr_iadd C0 dJ6_bitCount_0f7a4_39 ?_
  refine jr_istore_n C0 dJ6_bitCount_0f7a4_40 rfl (by decide) (lv' := [(0, .int (vr_I ((vr_and (((vr_and (a0 - (vr_and (vr_ushr a0 1) 1431655765)) 858993459) + (vr_and (vr_ushr (a0 - (vr_and (vr_ushr a0 1) 1431655765)) 2) 858993459)) + (vr_ushr ((vr_and (a0 - (vr_and (vr_ushr a0 1) 1431655765)) 858993459) + (vr_and (vr_ushr (a0 - (vr_and (vr_ushr a0 1) 1431655765)) 2) 858993459)) 4)) 252645135) + (vr_ushr (vr_and (((vr_and (a0 - (vr_and (vr_ushr a0 1) 1431655765)) 858993459) + (vr_and (vr_ushr (a0 - (vr_and (vr_ushr a0 1) 1431655765)) 2) 858993459)) + (vr_ushr ((vr_and (a0 - (vr_and (vr_ushr a0 1) 1431655765)) 858993459) + (vr_and (vr_ushr (a0 - (vr_and (vr_ushr a0 1) 1431655765)) 2) 858993459)) 4)) 252645135) 8))))]) rfl ?_
  refine jr_iload_n C0 0 dJ6_bitCount_0f7a4_41 rfl rfl ?_
  refine jr_iload_n C0 0 dJ6_bitCount_0f7a4_42 rfl rfl ?_
  refine jr_bipush C0 dJ6_bitCount_0f7a4_43 rfl ?_
  refine jr_iushr C0 dJ6_bitCount_0f7a4_45 ?_
  refine jr_iadd C0 dJ6_bitCount_0f7a4_46 ?_
  refine jr_istore_n C0 dJ6_bitCount_0f7a4_47 rfl (by decide) (lv' := [(0, .int (vr_I (((vr_and (((vr_and (a0 - (vr_and (vr_ushr a0 1) 1431655765)) 858993459) + (vr_and (vr_ushr (a0 - (vr_and (vr_ushr a0 1) 1431655765)) 2) 858993459)) + (vr_ushr ((vr_and (a0 - (vr_and (vr_ushr a0 1) 1431655765)) 858993459) + (vr_and (vr_ushr (a0 - (vr_and (vr_ushr a0 1) 1431655765)) 2) 858993459)) 4)) 252645135) + (vr_ushr (vr_and (((vr_and (a0 - (vr_and (vr_ushr a0 1) 1431655765)) 858993459) + (vr_and (vr_ushr (a0 - (vr_and (vr_ushr a0 1) 1431655765)) 2) 858993459)) + (vr_ushr ((vr_and (a0 - (vr_and (vr_ushr a0 1) 1431655765)) 858993459) + (vr_and (vr_ushr (a0 - (vr_and (vr_ushr a0 1) 1431655765)) 2) 858993459)) 4)) 252645135) 8)) + (vr_ushr ((vr_and (((vr_and (a0 - (vr_and (vr_ushr a0 1) 1431655765)) 858993459) + (vr_and (vr_ushr (a0 - (vr_and (vr_ushr a0 1) 1431655765)) 2) 858993459)) + (vr_ushr ((vr_and (a0 - (vr_and (vr_ushr a0 1) 1431655765)) 858993459) + (vr_and (vr_ushr (a0 - (vr_and (vr_ushr a0 1) 1431655765)) 2) 858993459)) 4)) 252645135) + (vr_ushr (vr_and (((vr_and (a0 - (vr_and (vr_ushr a0 1) 1431655765)) 858993459) + (vr_and (vr_ushr (a0 - (vr_and (vr_ushr a0 1) 1431655765)) 2) 858993459)) + (vr_ushr ((vr_and (a0 - (vr_and (vr_ushr a0 1) 1431655765)) 858993459) + (vr_and (vr_ushr (a0 - (vr_and (vr_ushr a0 1) 1431655765)) 2) 858993459)) 4)) 252645135) 8)) 16))))]) rfl ?_
  refine jr_iload_n C0 0 dJ6_bitCount_0f7a4_48 rfl rfl ?_
  refine jr_bipush C0 dJ6_bitCount_0f7a4_49 rfl ?_
  refine jr_iand C0 dJ6_bitCount_0f7a4_51 ?_
  exact jr_iret C0 (vr_RT _) dJ6_bitCount_0f7a4_52
theorem dX0_isBetter_0 : decode cX0_isBetter 0 = .ok (.iload_n 2, 1) := by decide +kernel
theorem dX0_isBetter_1 : decode cX0_isBetter 1 = .ok (.invokestatic 115, 3) := by decide +kernel
theorem dX0_isBetter_4 : decode cX0_isBetter 4 = .ok (.iload_n 1, 1) := by decide +kernel
theorem dX0_isBetter_5 : decode cX0_isBetter 5 = .ok (.invokestatic 115, 3) := by decide +kernel
theorem dX0_isBetter_8 : decode cX0_isBetter 8 = .ok (.isub, 1) := by decide +kernel
theorem dX0_isBetter_9 : decode cX0_isBetter 9 = .ok (.istore_n 3, 1) := by decide +kernel
theorem dX0_isBetter_10 : decode cX0_isBetter 10 = .ok (.iload_n 3, 1) := by decide +kernel
theorem dX0_isBetter_11 : decode cX0_isBetter 11 = .ok (.ifCond .gt 22, 3) := by decide +kernel
theorem dX0_isBetter_14 : decode cX0_isBetter 14 = .ok (.iload_n 3, 1) := by decide +kernel
theorem dX0_isBetter_15 : decode cX0_isBetter 15 = .ok (.ifCond .ne 22, 3) := by decide +kernel
theorem dX0_isBetter_18 : decode cX0_isBetter 18 = .ok (.aload_n 0, 1) := by decide +kernel
theorem dX0_isBetter_19 : decode cX0_isBetter 19 = .ok (.getfield 25, 3) := by decide +kernel
theorem dX0_isBetter_22 : decode cX0_isBetter 22 = .ok (.iload_n 1, 1) := by decide +kernel
theorem dX0_isBetter_23 : decode cX0_isBetter 23 = .ok (.iaload, 1) := by decide +kernel
theorem dX0_isBetter_24 : decode cX0_isBetter 24 = .ok (.aload_n 0, 1) := by decide +kernel
theorem dX0_isBetter_25 : decode cX0_isBetter 25 = .ok (.getfield 25, 3) := by decide +kernel
theorem dX0_isBetter_28 : decode cX0_isBetter 28 = .ok (.iload_n 2, 1) := by decide +kernel
theorem dX0_isBetter_29 : decode cX0_isBetter 29 = .ok (.iaload, 1) := by decide +kernel
theorem dX0_isBetter_30 : decode cX0_isBetter 30 = .ok (.if_icmp .ge 7, 3) := by decide +kernel
theorem dX0_isBetter_33 : decode cX0_isBetter 33 = .ok (.iconst 1, 1) := by decide +kernel
theorem dX0_isBetter_34 : decode cX0_isBetter 34 = .ok (.goto 4, 3) := by decide +kernel
theorem dX0_isBetter_37 : decode cX0_isBetter 37 = .ok (.iconst 0, 1) := by decide +kernel
theorem dX0_isBetter_38 : decode cX0_isBetter 38 = .ok (.ireturn, 1) := by decide +kernel
def fX0_isBetter_B38 (y0 : Int) (μ : vr_M) : Option (Int × vr_M) :=
  vr_gd (y0 = 0 ∨ y0 = 1) (some (y0, μ))
def fX0_isBetter_B33 (μ : vr_M) : Option (Int × vr_M) :=
  fX0_isBetter_B38 1 μ
def fX0_isBetter_B37 (μ : vr_M) : Option (Int × vr_M) :=
  fX0_isBetter_B38 0 μ
def fX0_isBetter (a0 : Int) (a1 : Int) (μ : vr_M) : Option (Int × vr_M) :=
  (fJ6_bitCount_0f7a4 a1 μ).bind (fun r2 => (fJ6_bitCount_0f7a4 a0 r2.2).bind (fun r3 => vr_gd (vr_R (r2.1 - r3.1)) (if 0 < (r2.1 - r3.1) then fX0_isBetter_B33 r3.2 else if ¬ (r2.1 - r3.1) = 0 then fX0_isBetter_B37 r3.2 else vr_gd (0 ≤ a0 ∧ a0 < 256) (vr_gd (0 ≤ a1 ∧ a1 < 256) (vr_gd (vr_R (r3.2 62 a0.toNat)) (vr_gd (vr_R (r3.2 62 a1.toNat)) (if (r3.2 62 a1.toNat) ≤ (r3.2 62 a0.toNat) then fX0_isBetter_B37 r3.2 else fX0_isBetter_B33 r3.2)))))))
theorem mi_X0_isBetter : vr_Mi RX0 yX0_isBetter cX0_isBetter 4 (some .boolean) 2 := ⟨⟨wi_yX0_isBetter, ws_yX0_isBetter, wz_X0, wc_yX0_isBetter⟩, rfl, by decide, by decide, by decide +kernel⟩
set_option maxRecDepth 100000 in
set_option maxHeartbeats 4000000 in
theorem ct_X0_isBetter (l : Launch) (G : vr_G) (a0 : Int) (h_a0 : vr_R a0) (a1 : Int) (h_a1 : vr_R a1) (μ : vr_M) : vr_CI l yX0_isBetter cX0_isBetter 4 (some .boolean) ({ frames := 1, cells := 0, slots := 0, locals := 20 } : Room) G [.ref (vr_ad G 58), .int (vr_I a0), .int (vr_I a1)] μ (fX0_isBetter a0 a1 μ) := by
  refine vr_start (own := RX0) (by decide) rfl (Nat.le_of_ble_eq_true rfl) (fun p e s m args below meth c C0 => ?_)
  show vr_J p l e _ s m args below meth c 4 G (vr_Z (vr_QI G) G args s below) 0 [(0, .ref (vr_ad G 58)), (1, .int (vr_I a0)), (2, .int (vr_I a1))] [] μ _
  have B38 : ∀ (y0 : Int) (h_y0 : vr_R y0) (μ : vr_M), vr_J p l e ({ frames := 1, cells := 0, slots := 0, locals := 20 } : Room) s m args below meth c 4 G (vr_Z (vr_QI G) G args s below) 38 [] [.int (vr_I y0)] μ (fX0_isBetter_B38 y0 μ) := by
    intro y0 h_y0 μ
    unfold fX0_isBetter_B38
    refine jr_gd (fun g1 => ?_)
    exact jr_zret C0 h_y0 (vr_nz g1) dX0_isBetter_38
  have B33 : ∀ (μ : vr_M), vr_J p l e ({ frames := 1, cells := 0, slots := 0, locals := 20 } : Room) s m args below meth c 4 G (vr_Z (vr_QI G) G args s below) 33 [] [] μ (fX0_isBetter_B33 μ) := by
    intro μ
    unfold fX0_isBetter_B33
    refine jr_iconst C0 dX0_isBetter_33 ?_
    refine jr_goto C0 dX0_isBetter_34 (tgt := 38) (by decide) ?_
    exact B38 1 (⟨by decide, by decide⟩) _
  have B37 : ∀ (μ : vr_M), vr_J p l e ({ frames := 1, cells := 0, slots := 0, locals := 20 } : Room) s m args below meth c 4 G (vr_Z (vr_QI G) G args s below) 37 [] [] μ (fX0_isBetter_B37 μ) := by
    intro μ
    unfold fX0_isBetter_B37
    refine jr_iconst C0 dX0_isBetter_37 ?_
    exact B38 0 (⟨by decide, by decide⟩) _
  unfold fX0_isBetter
  refine jr_iload_n C0 2 dX0_isBetter_0 rfl rfl ?_
  refine jr_sI C0 (ct_J6_bitCount_0f7a4 l G a1 h_a1 _) mi_J6_bitCount_0f7a4 wm_X0_115 ⟨Nat.le_of_ble_eq_true rfl, Nat.le_of_ble_eq_true rfl⟩ ⟨rfl, rfl⟩ (As := [.int (vr_I a1)]) rfl (st := []) rfl (Nat.le_of_ble_eq_true rfl) dX0_isBetter_1 (fun r2 hr2 => ?_)
  refine jr_iload_n C0 1 dX0_isBetter_4 rfl rfl ?_
  refine jr_sI C0 (ct_J6_bitCount_0f7a4 l G a0 h_a0 _) mi_J6_bitCount_0f7a4 wm_X0_115 ⟨Nat.le_of_ble_eq_true rfl, Nat.le_of_ble_eq_true rfl⟩ ⟨rfl, rfl⟩ (As := [.int (vr_I a0)]) rfl (st := [.int (vr_I r2.1)]) rfl (Nat.le_of_ble_eq_true rfl) dX0_isBetter_5 (fun r3 hr3 => ?_)
  refine jr_isub C0 dX0_isBetter_8 ?_
  refine jr_istore_n C0 dX0_isBetter_9 rfl (by decide) (lv' := [(3, .int (vr_I (r2.1 - r3.1))), (0, .ref (vr_ad G 58)), (1, .int (vr_I a0)), (2, .int (vr_I a1))]) rfl ?_
  refine jr_iload_n C0 0 dX0_isBetter_10 rfl rfl ?_
  refine jr_gd (fun g4 => ?_)
  refine jr_if_gt C0 g4 dX0_isBetter_11 (tgt := 33) (by decide) ?_ ?_
  · refine jr_sub [] rfl ?_
    exact B33 _
  refine jr_iload_n C0 0 dX0_isBetter_14 rfl rfl ?_
  refine jr_if_ne C0 g4 dX0_isBetter_15 (tgt := 37) (by decide) ?_ ?_
  · refine jr_sub [] rfl ?_
    exact B37 _
  refine jr_aload_n C0 1 dX0_isBetter_18 rfl rfl ?_
  refine jr_getr C0 (by decide) kd_58 (by decide) rfl wx_X0 (i := 7) (by decide) wf_X0_25 (j := 62) rfl dX0_isBetter_19 ?_
  refine jr_iload_n C0 2 dX0_isBetter_22 rfl rfl ?_
  refine jr_gd (fun g5 => ?_)
  refine jr_iald C0 (by decide) kd_62 kl_62 g5 (j := a0.toNat) rfl dX0_isBetter_23 ?_
  refine jr_aload_n C0 1 dX0_isBetter_24 rfl rfl ?_
  refine jr_getr C0 (by decide) kd_58 (by decide) rfl wx_X0 (i := 7) (by decide) wf_X0_25 (j := 62) rfl dX0_isBetter_25 ?_
  refine jr_iload_n C0 3 dX0_isBetter_28 rfl rfl ?_
  refine jr_gd (fun g6 => ?_)
  refine jr_iald C0 (by decide) kd_62 kl_62 g6 (j := a1.toNat) rfl dX0_isBetter_29 ?_
  refine jr_gd (fun g7 => ?_)
  refine jr_gd (fun g8 => ?_)
  refine jr_icmp_ge C0 g7 g8 dX0_isBetter_30 (tgt := 37) (by decide) ?_ ?_
  · refine jr_sub [] rfl ?_
    exact B37 _
  refine jr_sub [] rfl ?_
  exact B33 _
theorem dX0_picksFewest_0 : decode cX0_picksFewest 0 = .ok (.iconst 0, 1) := by decide +kernel
theorem dX0_picksFewest_1 : decode cX0_picksFewest 1 = .ok (.istore_n 1, 1) := by decide +kernel
theorem dX0_picksFewest_2 : decode cX0_picksFewest 2 = .ok (.iconst 0, 1) := by decide +kernel
theorem dX0_picksFewest_3 : decode cX0_picksFewest 3 = .ok (.istore_n 2, 1) := by decide +kernel
theorem dX0_picksFewest_4 : decode cX0_picksFewest 4 = .ok (.iconst 1, 1) := by decide +kernel
theorem dX0_picksFewest_5 : decode cX0_picksFewest 5 = .ok (.istore_n 3, 1) := by decide +kernel
theorem dX0_picksFewest_6 : decode cX0_picksFewest 6 = .ok (.iload_n 3, 1) := by decide +kernel
theorem dX0_picksFewest_7 : decode cX0_picksFewest 7 = .ok (.aload_n 0, 1) := by decide +kernel
theorem dX0_picksFewest_8 : decode cX0_picksFewest 8 = .ok (.getfield 28, 3) := by decide +kernel
theorem dX0_picksFewest_11 : decode cX0_picksFewest 11 = .ok (.invokevirtual 103, 3) := by decide +kernel
theorem dX0_picksFewest_14 : decode cX0_picksFewest 14 = .ok (.if_icmp .gt 104, 3) := by decide +kernel
theorem dX0_picksFewest_17 : decode cX0_picksFewest 17 = .ok (.iload_n 3, 1) := by decide +kernel
theorem dX0_picksFewest_18 : decode cX0_picksFewest 18 = .ok (.aload_n 0, 1) := by decide +kernel
theorem dX0_picksFewest_19 : decode cX0_picksFewest 19 = .ok (.getfield 25, 3) := by decide +kernel
theorem dX0_picksFewest_22 : decode cX0_picksFewest 22 = .ok (.arraylength, 1) := by decide +kernel
theorem dX0_picksFewest_23 : decode cX0_picksFewest 23 = .ok (.if_icmp .ge 95, 3) := by decide +kernel
theorem dX0_picksFewest_26 : decode cX0_picksFewest 26 = .ok (.iload_n 3, 1) := by decide +kernel
theorem dX0_picksFewest_27 : decode cX0_picksFewest 27 = .ok (.invokestatic 106, 3) := by decide +kernel
theorem dX0_picksFewest_30 : decode cX0_picksFewest 30 = .ok (.bipush 8, 2) := by decide +kernel
theorem dX0_picksFewest_32 : decode cX0_picksFewest 32 = .ok (.irem, 1) := by decide +kernel
theorem dX0_picksFewest_33 : decode cX0_picksFewest 33 = .ok (.istore 4, 2) := by decide +kernel
theorem dX0_picksFewest_35 : decode cX0_picksFewest 35 = .ok (.aload_n 0, 1) := by decide +kernel
theorem dX0_picksFewest_36 : decode cX0_picksFewest 36 = .ok (.getfield 25, 3) := by decide +kernel
theorem dX0_picksFewest_39 : decode cX0_picksFewest 39 = .ok (.iload_n 3, 1) := by decide +kernel
theorem dX0_picksFewest_40 : decode cX0_picksFewest 40 = .ok (.aload_n 0, 1) := by decide +kernel
theorem dX0_picksFewest_41 : decode cX0_picksFewest 41 = .ok (.getfield 25, 3) := by decide +kernel
theorem dX0_picksFewest_44 : decode cX0_picksFewest 44 = .ok (.iload_n 3, 1) := by decide +kernel
theorem dX0_picksFewest_45 : decode cX0_picksFewest 45 = .ok (.iload_n 3, 1) := by decide +kernel
theorem dX0_picksFewest_46 : decode cX0_picksFewest 46 = .ok (.iconst 1, 1) := by decide +kernel
theorem dX0_picksFewest_47 : decode cX0_picksFewest 47 = .ok (.isub, 1) := by decide +kernel
theorem dX0_picksFewest_48 : decode cX0_picksFewest 48 = .ok (.iand, 1) := by decide +kernel
theorem dX0_picksFewest_49 : decode cX0_picksFewest 49 = .ok (.iaload, 1) := by decide +kernel
theorem dX0_picksFewest_50 : decode cX0_picksFewest 50 = .ok (.aload_n 0, 1) := by decide +kernel
theorem dX0_picksFewest_51 : decode cX0_picksFewest 51 = .ok (.getfield 19, 3) := by decide +kernel
theorem dX0_picksFewest_54 : decode cX0_picksFewest 54 = .ok (.iload 4, 2) := by decide +kernel
theorem dX0_picksFewest_56 : decode cX0_picksFewest 56 = .ok (.iaload, 1) := by decide +kernel
theorem dX0_picksFewest_57 : decode cX0_picksFewest 57 = .ok (.iadd, 1) := by decide +kernel
theorem dX0_picksFewest_58 : decode cX0_picksFewest 58 = .ok (.iastore, 1) := by decide +kernel
theorem dX0_picksFewest_59 : decode cX0_picksFewest 59 = .ok (.aload_n 0, 1) := by decide +kernel
theorem dX0_picksFewest_60 : decode cX0_picksFewest 60 = .ok (.getfield 25, 3) := by decide +kernel
theorem dX0_picksFewest_63 : decode cX0_picksFewest 63 = .ok (.iload_n 3, 1) := by decide +kernel
theorem dX0_picksFewest_64 : decode cX0_picksFewest 64 = .ok (.iaload, 1) := by decide +kernel
theorem dX0_picksFewest_65 : decode cX0_picksFewest 65 = .ok (.aload_n 0, 1) := by decide +kernel
theorem dX0_picksFewest_66 : decode cX0_picksFewest 66 = .ok (.getfield 28, 3) := by decide +kernel
theorem dX0_picksFewest_69 : decode cX0_picksFewest 69 = .ok (.getfield 84, 3) := by decide +kernel
theorem dX0_picksFewest_72 : decode cX0_picksFewest 72 = .ok (.if_icmp .lt 18, 3) := by decide +kernel
theorem dX0_picksFewest_75 : decode cX0_picksFewest 75 = .ok (.iload_n 1, 1) := by decide +kernel
theorem dX0_picksFewest_76 : decode cX0_picksFewest 76 = .ok (.ifCond .eq 12, 3) := by decide +kernel
theorem dX0_picksFewest_79 : decode cX0_picksFewest 79 = .ok (.aload_n 0, 1) := by decide +kernel
theorem dX0_picksFewest_80 : decode cX0_picksFewest 80 = .ok (.iload_n 3, 1) := by decide +kernel
theorem dX0_picksFewest_81 : decode cX0_picksFewest 81 = .ok (.iload_n 1, 1) := by decide +kernel
theorem dX0_picksFewest_82 : decode cX0_picksFewest 82 = .ok (.invokevirtual 111, 3) := by decide +kernel
theorem dX0_picksFewest_85 : decode cX0_picksFewest 85 = .ok (.ifCond .eq 5, 3) := by decide +kernel
theorem dX0_picksFewest_88 : decode cX0_picksFewest 88 = .ok (.iload_n 3, 1) := by decide +kernel
theorem dX0_picksFewest_89 : decode cX0_picksFewest 89 = .ok (.istore_n 1, 1) := by decide +kernel
theorem dX0_picksFewest_90 : decode cX0_picksFewest 90 = .ok (.iload_n 3, 1) := by decide +kernel
theorem dX0_picksFewest_91 : decode cX0_picksFewest 91 = .ok (.iconst 1, 1) := by decide +kernel
theorem dX0_picksFewest_92 : decode cX0_picksFewest 92 = .ok (.iload 4, 2) := by decide +kernel
theorem dX0_picksFewest_94 : decode cX0_picksFewest 94 = .ok (.ishl, 1) := by decide +kernel
theorem dX0_picksFewest_95 : decode cX0_picksFewest 95 = .ok (.if_icmp .ne 17, 3) := by decide +kernel
theorem dX0_picksFewest_98 : decode cX0_picksFewest 98 = .ok (.aload_n 0, 1) := by decide +kernel
theorem dX0_picksFewest_99 : decode cX0_picksFewest 99 = .ok (.getfield 19, 3) := by decide +kernel
theorem dX0_picksFewest_102 : decode cX0_picksFewest 102 = .ok (.iload 4, 2) := by decide +kernel
theorem dX0_picksFewest_104 : decode cX0_picksFewest 104 = .ok (.iaload, 1) := by decide +kernel
theorem dX0_picksFewest_105 : decode cX0_picksFewest 105 = .ok (.ifCond .le 7, 3) := by decide +kernel
theorem dX0_picksFewest_108 : decode cX0_picksFewest 108 = .ok (.iload_n 2, 1) := by decide +kernel
theorem dX0_picksFewest_109 : decode cX0_picksFewest 109 = .ok (.iload_n 3, 1) := by decide +kernel
theorem dX0_picksFewest_110 : decode cX0_picksFewest 110 = .ok (.ior, 1) := by decide +kernel
theorem dX0_picksFewest_111 : decode cX0_picksFewest 111 = .ok (.istore_n 2, 1) := by decide +kernel
theorem dX0_picksFewest_112 : decode cX0_picksFewest 112 = .ok (.iinc 3 1, 3) := by decide +kernel
theorem dX0_picksFewest_115 : decode cX0_picksFewest 115 = .ok (.goto (-109), 3) := by decide +kernel
theorem dX0_picksFewest_118 : decode cX0_picksFewest 118 = .ok (.iload_n 1, 1) := by decide +kernel
theorem dX0_picksFewest_119 : decode cX0_picksFewest 119 = .ok (.ifCond .ne 7, 3) := by decide +kernel
theorem dX0_picksFewest_122 : decode cX0_picksFewest 122 = .ok (.iload_n 2, 1) := by decide +kernel
theorem dX0_picksFewest_123 : decode cX0_picksFewest 123 = .ok (.goto 4, 3) := by decide +kernel
theorem dX0_picksFewest_126 : decode cX0_picksFewest 126 = .ok (.iload_n 1, 1) := by decide +kernel
theorem dX0_picksFewest_127 : decode cX0_picksFewest 127 = .ok (.ireturn, 1) := by decide +kernel
def fX0_picksFewest_B127 (y0 : Int) (μ : vr_M) : Option (Int × vr_M) :=
  some (y0, μ)
def fX0_picksFewest_B118 (x1 : Int) (x2 : Int) (μ : vr_M) : Option (Int × vr_M) :=
  if ¬ x1 = 0 then fX0_picksFewest_B127 x1 μ else fX0_picksFewest_B127 x2 μ
def fX0_picksFewest_B112 (rc6 : Int → Int → Int → vr_M → Option (Int × vr_M)) (x1 : Int) (x2 : Int) (x3 : Int) (μ : vr_M) : Option (Int × vr_M) :=
  vr_gd (vr_R (x3 + 1)) (rc6 x1 x2 (x3 + 1) μ)
def fX0_picksFewest_B90 (rc6 : Int → Int → Int → vr_M → Option (Int × vr_M)) (x1 : Int) (x2 : Int) (x3 : Int) (x4 : Int) (μ : vr_M) : Option (Int × vr_M) :=
  if ¬ x3 = (vr_shl 1 x4) then fX0_picksFewest_B112 rc6 x1 x2 x3 μ else vr_gd (0 ≤ x4 ∧ x4 < 8) (vr_gd (vr_R (μ 60 x4.toNat)) (if (μ 60 x4.toNat) ≤ 0 then fX0_picksFewest_B112 rc6 x1 x2 x3 μ else fX0_picksFewest_B112 rc6 x1 (vr_or x2 x3) x3 μ))
def fX0_picksFewest_B88 (rc6 : Int → Int → Int → vr_M → Option (Int × vr_M)) (x2 : Int) (x3 : Int) (x4 : Int) (μ : vr_M) : Option (Int × vr_M) :=
  fX0_picksFewest_B90 rc6 x3 x2 x3 x4 μ
def fX0_picksFewest_L6 : Nat → Int → Int → Int → vr_M → Option (Int × vr_M)
  | 0, _, _, _, _ => none
  | n + 1, x1, x2, x3, μ => (fX2_all 52 μ).bind (fun r4 => if r4.1 < x3 then fX0_picksFewest_B118 x1 x2 r4.2 else if 256 ≤ x3 then fX0_picksFewest_B118 x1 x2 r4.2 else (fJ6_numberOfTrailingZeros_0f7a4 x3 r4.2).bind (fun r5 => vr_gd (0 ≤ (vr_and x3 (x3 - 1)) ∧ (vr_and x3 (x3 - 1)) < 256) (vr_gd (0 ≤ (r5.1.tmod 8) ∧ (r5.1.tmod 8) < 8) (vr_gd (0 ≤ x3 ∧ x3 < 256) ((fun μ9 => vr_gd (vr_R (μ9 62 x3.toNat)) (vr_gd (vr_R (μ9 52 7)) (if (μ9 62 x3.toNat) < (μ9 52 7) then vr_gd (vr_R (r5.1.tmod 8)) (fX0_picksFewest_B90 (fX0_picksFewest_L6 n) x1 x2 x3 (r5.1.tmod 8) μ9) else if x1 = 0 then vr_gd (vr_R (r5.1.tmod 8)) (fX0_picksFewest_B88 (fX0_picksFewest_L6 n) x2 x3 (r5.1.tmod 8) μ9) else (fX0_isBetter x3 x1 μ9).bind (fun r14 => if r14.1 = 0 then vr_gd (vr_R (r5.1.tmod 8)) (fX0_picksFewest_B90 (fX0_picksFewest_L6 n) x1 x2 x3 (r5.1.tmod 8) r14.2) else vr_gd (vr_R (r5.1.tmod 8)) (fX0_picksFewest_B88 (fX0_picksFewest_L6 n) x2 x3 (r5.1.tmod 8) r14.2))))) (vr_u r5.2 62 x3.toNat ((r5.2 62 (vr_and x3 (x3 - 1)).toNat) + (r5.2 60 (r5.1.tmod 8).toNat))))))))
def fX0_picksFewest (μ : vr_M) : Option (Int × vr_M) :=
  fX0_picksFewest_L6 9000 0 0 1 μ
theorem mi_X0_picksFewest : vr_Mi RX0 yX0_picksFewest cX0_picksFewest 5 (some .int) 0 := ⟨⟨wi_yX0_picksFewest, ws_yX0_picksFewest, wz_X0, wc_yX0_picksFewest⟩, rfl, by decide, by decide, by decide +kernel⟩
set_option maxRecDepth 100000 in
set_option maxHeartbeats 4000000 in
theorem ct_X0_picksFewest (l : Launch) (G : vr_G) (μ : vr_M) : vr_CI l yX0_picksFewest cX0_picksFewest 5 (some .int) ({ frames := 2, cells := 0, slots := 0, locals := 43 } : Room) G [.ref (vr_ad G 58)] μ (fX0_picksFewest μ) := by
  refine vr_start (own := RX0) (by decide) rfl (Nat.le_of_ble_eq_true rfl) (fun p e s m args below meth c C0 => ?_)
  show vr_J p l e _ s m args below meth c 5 G (vr_Z (vr_QI G) G args s below) 0 [(0, .ref (vr_ad G 58))] [] μ _
  have B127 : ∀ (y0 : Int) (h_y0 : vr_R y0) (μ : vr_M), vr_J p l e ({ frames := 2, cells := 0, slots := 0, locals := 43 } : Room) s m args below meth c 5 G (vr_Z (vr_QI G) G args s below) 127 [] [.int (vr_I y0)] μ (fX0_picksFewest_B127 y0 μ) := by
    intro y0 h_y0 μ
    unfold fX0_picksFewest_B127
    exact jr_iret C0 h_y0 dX0_picksFewest_127
  have B118 : ∀ (x1 : Int) (h_x1 : vr_R x1) (x2 : Int) (h_x2 : vr_R x2) (μ : vr_M), vr_J p l e ({ frames := 2, cells := 0, slots := 0, locals := 43 } : Room) s m args below meth c 5 G (vr_Z (vr_QI G) G args s below) 118 [(1, .int (vr_I x1)), (2, .int (vr_I x2))] [] μ (fX0_picksFewest_B118 x1 x2 μ) := by
    intro x1 h_x1 x2 h_x2 μ
    unfold fX0_picksFewest_B118
    refine jr_iload_n C0 0 dX0_picksFewest_118 rfl rfl ?_
    refine jr_if_ne C0 h_x1 dX0_picksFewest_119 (tgt := 126) (by decide) ?_ ?_
    · refine jr_iload_n C0 0 dX0_picksFewest_126 rfl rfl ?_
      refine jr_sub [] rfl ?_
      exact B127 x1 h_x1 _
    refine jr_iload_n C0 1 dX0_picksFewest_122 rfl rfl ?_
    refine jr_goto C0 dX0_picksFewest_123 (tgt := 127) (by decide) ?_
    refine jr_sub [] rfl ?_
    exact B127 x2 h_x2 _
  have L6 : ∀ (n : Nat) (x1 : Int) (h_x1 : vr_R x1) (x2 : Int) (h_x2 : vr_R x2) (x3 : Int) (h_x3 : vr_R x3) (μ : vr_M), vr_J p l e ({ frames := 2, cells := 0, slots := 0, locals := 43 } : Room) s m args below meth c 5 G (vr_Z (vr_QI G) G args s below) 6 [(0, .ref (vr_ad G 58)), (1, .int (vr_I x1)), (2, .int (vr_I x2)), (3, .int (vr_I x3))] [] μ (fX0_picksFewest_L6 n x1 x2 x3 μ) := by
    intro n6
    induction n6 with
    | zero => intros; exact jr_none
    | succ n6 ih6 =>
      have B112 : ∀ (x1 : Int) (h_x1 : vr_R x1) (x2 : Int) (h_x2 : vr_R x2) (x3 : Int) (h_x3 : vr_R x3) (μ : vr_M), vr_J p l e ({ frames := 2, cells := 0, slots := 0, locals := 43 } : Room) s m args below meth c 5 G (vr_Z (vr_QI G) G args s below) 112 [(0, .ref (vr_ad G 58)), (1, .int (vr_I x1)), (2, .int (vr_I x2)), (3, .int (vr_I x3))] [] μ (fX0_picksFewest_B112 (fX0_picksFewest_L6 n6) x1 x2 x3 μ) := by
        intro x1 h_x1 x2 h_x2 x3 h_x3 μ
        unfold fX0_picksFewest_B112
        refine jr_iinc C0 (q := 3) dX0_picksFewest_112 rfl (by decide) (lv' := [(3, .int (vr_I (x3 + 1))), (0, .ref (vr_ad G 58)), (1, .int (vr_I x1)), (2, .int (vr_I x2))]) rfl ?_
        refine jr_goto C0 dX0_picksFewest_115 (tgt := 6) (by decide) ?_
        refine jr_gd (fun g1 => ?_)
        refine jr_sub [1, 2, 3, 0] rfl ?_
        exact ih6 x1 h_x1 x2 h_x2 (x3 + 1) g1 _
      have B90 : ∀ (x1 : Int) (h_x1 : vr_R x1) (x2 : Int) (h_x2 : vr_R x2) (x3 : Int) (h_x3 : vr_R x3) (x4 : Int) (h_x4 : vr_R x4) (μ : vr_M), vr_J p l e ({ frames := 2, cells := 0, slots := 0, locals := 43 } : Room) s m args below meth c 5 G (vr_Z (vr_QI G) G args s below) 90 [(0, .ref (vr_ad G 58)), (1, .int (vr_I x1)), (2, .int (vr_I x2)), (3, .int (vr_I x3)), (4, .int (vr_I x4))] [] μ (fX0_picksFewest_B90 (fX0_picksFewest_L6 n6) x1 x2 x3 x4 μ) := by
        intro x1 h_x1 x2 h_x2 x3 h_x3 x4 h_x4 μ
        unfold fX0_picksFewest_B90
        refine jr_iload_n C0 3 dX0_picksFewest_90 rfl rfl ?_
        refine jr_iconst C0 dX0_picksFewest_91 ?_
        refine jr_iload C0 4 dX0_picksFewest_92 rfl ?_
        refine jr_ishl C0 dX0_picksFewest_94 ?_
        refine jr_icmp_ne C0 h_x3 (vr_RT _) dX0_picksFewest_95 (tgt := 112) (by decide) ?_ ?_
        · refine jr_sub [0, 1, 2, 3] rfl ?_
          exact B112 x1 h_x1 x2 h_x2 x3 h_x3 _
        refine jr_aload_n C0 0 dX0_picksFewest_98 rfl rfl ?_
        refine jr_getr C0 (by decide) kd_58 (by decide) rfl wx_X0 (i := 5) (by decide) wf_X0_19 (j := 60) rfl dX0_picksFewest_99 ?_
        refine jr_iload C0 4 dX0_picksFewest_102 rfl ?_
        refine jr_gd (fun g2 => ?_)
        refine jr_iald C0 (by decide) kd_60 kl_60 g2 (j := x4.toNat) rfl dX0_picksFewest_104 ?_
        refine jr_gd (fun g3 => ?_)
        refine jr_if_le C0 g3 dX0_picksFewest_105 (tgt := 112) (by decide) ?_ ?_
        · refine jr_sub [0, 1, 2, 3] rfl ?_
          exact B112 x1 h_x1 x2 h_x2 x3 h_x3 _
        refine jr_iload_n C0 2 dX0_picksFewest_108 rfl rfl ?_
        refine jr_iload_n C0 3 dX0_picksFewest_109 rfl rfl ?_
        refine jr_ior C0 dX0_picksFewest_110 ?_
        refine jr_istore_n C0 dX0_picksFewest_111 rfl (by decide) (lv' := [(2, .int (vr_I (vr_or x2 x3))), (0, .ref (vr_ad G 58)), (1, .int (vr_I x1)), (3, .int (vr_I x3)), (4, .int (vr_I x4))]) rfl ?_
        refine jr_sub [1, 2, 0, 3] rfl ?_
        exact B112 x1 h_x1 (vr_or x2 x3) (vr_RT _) x3 h_x3 _
      have B88 : ∀ (x2 : Int) (h_x2 : vr_R x2) (x3 : Int) (h_x3 : vr_R x3) (x4 : Int) (h_x4 : vr_R x4) (μ : vr_M), vr_J p l e ({ frames := 2, cells := 0, slots := 0, locals := 43 } : Room) s m args below meth c 5 G (vr_Z (vr_QI G) G args s below) 88 [(0, .ref (vr_ad G 58)), (2, .int (vr_I x2)), (3, .int (vr_I x3)), (4, .int (vr_I x4))] [] μ (fX0_picksFewest_B88 (fX0_picksFewest_L6 n6) x2 x3 x4 μ) := by
        intro x2 h_x2 x3 h_x3 x4 h_x4 μ
        unfold fX0_picksFewest_B88
        refine jr_iload_n C0 2 dX0_picksFewest_88 rfl rfl ?_
        refine jr_istore_n C0 dX0_picksFewest_89 rfl (by decide) (lv' := [(1, .int (vr_I x3)), (0, .ref (vr_ad G 58)), (2, .int (vr_I x2)), (3, .int (vr_I x3)), (4, .int (vr_I x4))]) rfl ?_
        refine jr_sub [1, 0, 2, 3, 4] rfl ?_
        exact B90 x3 h_x3 x2 h_x2 x3 h_x3 x4 h_x4 _
      intro x1 h_x1 x2 h_x2 x3 h_x3 μ
      rw [fX0_picksFewest_L6.eq_2]
      refine jr_iload_n C0 3 dX0_picksFewest_6 rfl rfl ?_
      refine jr_aload_n C0 0 dX0_picksFewest_7 rfl rfl ?_
      refine jr_getr C0 (by decide) kd_58 (by decide) rfl wx_X0 (i := 0) (by decide) wf_X0_28 (j := 52) rfl dX0_picksFewest_8 ?_
      refine jr_vI C0 (by decide) kd_52 (by decide) rfl (ct_X2_all l G (by decide) kd_52 _) mi_X2_all wm_X0_103 ⟨Nat.le_of_ble_eq_true rfl, Nat.le_of_ble_eq_true rfl⟩ ⟨rfl, rfl⟩ (As := []) rfl (st := [.int (vr_I x3)]) rfl (Nat.le_of_ble_eq_true rfl) dX0_picksFewest_11 (fun r4 hr4 => ?_)
      refine jr_icmp_gt C0 h_x3 hr4 dX0_picksFewest_14 (tgt := 118) (by decide) ?_ ?_
      · refine jr_sub [1, 2] rfl ?_
        exact B118 x1 h_x1 x2 h_x2 _
      refine jr_iload_n C0 3 dX0_picksFewest_17 rfl rfl ?_
      refine jr_aload_n C0 0 dX0_picksFewest_18 rfl rfl ?_
      refine jr_getr C0 (by decide) kd_58 (by decide) rfl wx_X0 (i := 7) (by decide) wf_X0_25 (j := 62) rfl dX0_picksFewest_19 ?_
      refine jr_alen C0 (by decide) kd_62 kl_62 dX0_picksFewest_22 ?_
      refine jr_icmp_ge C0 h_x3 (⟨by decide, by decide⟩) dX0_picksFewest_23 (tgt := 118) (by decide) ?_ ?_
      · refine jr_sub [1, 2] rfl ?_
        exact B118 x1 h_x1 x2 h_x2 _
      refine jr_iload_n C0 3 dX0_picksFewest_26 rfl rfl ?_
      refine jr_sI C0 (ct_J6_numberOfTrailingZeros_0f7a4 l G x3 h_x3 _) mi_J6_numberOfTrailingZeros_0f7a4 wm_X0_106 ⟨Nat.le_of_ble_eq_true rfl, Nat.le_of_ble_eq_true rfl⟩ ⟨rfl, rfl⟩ (As := [.int (vr_I x3)]) rfl (st := []) rfl (Nat.le_of_ble_eq_true rfl) dX0_picksFewest_27 (fun r5 hr5 => ?_)
      refine jr_bipush C0 dX0_picksFewest_30 rfl ?_
      refine jr_irem C0 hr5 (⟨by decide, by decide⟩) (by decide) dX0_picksFewest_32 ?_
      refine jr_istore C0 dX0_picksFewest_33 (by decide) (lv' := [(4, .int (vr_I (r5.1.tmod 8))), (0, .ref (vr_ad G 58)), (1, .int (vr_I x1)), (2, .int (vr_I x2)), (3, .int (vr_I x3))]) rfl ?_
      refine jr_aload_n C0 1 dX0_picksFewest_35 rfl rfl ?_
      refine jr_getr C0 (by decide) kd_58 (by decide) rfl wx_X0 (i := 7) (by decide) wf_X0_25 (j := 62) rfl dX0_picksFewest_36 ?_
      refine jr_iload_n C0 4 dX0_picksFewest_39 rfl rfl ?_
      refine jr_aload_n C0 1 dX0_picksFewest_40 rfl rfl ?_
      refine jr_getr C0 (by decide) kd_58 (by decide) rfl wx_X0 (i := 7) (by decide) wf_X0_25 (j := 62) rfl dX0_picksFewest_41 ?_
      refine jr_iload_n C0 4 dX0_picksFewest_44 rfl rfl ?_
      refine jr_iload_n C0 4 dX0_picksFewest_45 rfl rfl ?_
      refine jr_iconst C0 dX0_picksFewest_46 ?_
      refine jr_isub C0 dX0_picksFewest_47 ?_
      refine jr_iand C0 dX0_picksFewest_48 ?_
      refine jr_gd (fun g6 => ?_)
      refine jr_iald C0 (by decide) kd_62 kl_62 g6 (j := (vr_and x3 (x3 - 1)).toNat) rfl dX0_picksFewest_49 ?_
      refine jr_aload_n C0 1 dX0_picksFewest_50 rfl rfl ?_
      refine jr_getr C0 (by decide) kd_58 (by decide) rfl wx_X0 (i := 5) (by decide) wf_X0_19 (j := 60) rfl dX0_picksFewest_51 ?_
      refine jr_iload C0 0 dX0_picksFewest_54 rfl ?_
      refine jr_gd (fun g7 => ?_)
      refine jr_iald C0 (by decide) kd_60 kl_60 g7 (j := (r5.1.tmod 8).toNat) rfl dX0_picksFewest_56 ?_
      refine jr_iadd C0 dX0_picksFewest_57 ?_
      refine jr_gd (fun g8 => ?_)
      refine jr_iast C0 (by decide) kd_62 kl_62 g8 (j := x3.toNat) rfl dX0_picksFewest_58 ?_
      refine jr_aload_n C0 1 dX0_picksFewest_59 rfl rfl ?_
      refine jr_getr C0 (by decide) kd_58 (by decide) rfl wx_X0 (i := 7) (by decide) wf_X0_25 (j := 62) rfl dX0_picksFewest_60 ?_
      refine jr_iload_n C0 4 dX0_picksFewest_63 rfl rfl ?_
      refine jr_iald C0 (by decide) kd_62 kl_62 g8 (j := x3.toNat) rfl dX0_picksFewest_64 ?_
      refine jr_aload_n C0 1 dX0_picksFewest_65 rfl rfl ?_
      refine jr_getr C0 (by decide) kd_58 (by decide) rfl wx_X0 (i := 0) (by decide) wf_X0_28 (j := 52) rfl dX0_picksFewest_66 ?_
      refine jr_geti C0 (by decide) kd_52 (by decide) rfl wx_X2 (i := 7) (by decide) wf_X0_84 rfl dX0_picksFewest_69 ?_
      refine jr_gd (fun g10 => ?_)
      refine jr_gd (fun g11 => ?_)
      refine jr_icmp_lt C0 g10 g11 dX0_picksFewest_72 (tgt := 90) (by decide) ?_ ?_
      · refine jr_gd (fun g12 => ?_)
        refine jr_sub [1, 2, 3, 4, 0] rfl ?_
        exact B90 x1 h_x1 x2 h_x2 x3 h_x3 (r5.1.tmod 8) g12 _
      refine jr_iload_n C0 2 dX0_picksFewest_75 rfl rfl ?_
      refine jr_if_eq C0 h_x1 dX0_picksFewest_76 (tgt := 88) (by decide) ?_ ?_
      · refine jr_gd (fun g13 => ?_)
        refine jr_sub [1, 3, 4, 0] rfl ?_
        exact B88 x2 h_x2 x3 h_x3 (r5.1.tmod 8) g13 _
      refine jr_aload_n C0 1 dX0_picksFewest_79 rfl rfl ?_
      refine jr_iload_n C0 4 dX0_picksFewest_80 rfl rfl ?_
      refine jr_iload_n C0 2 dX0_picksFewest_81 rfl rfl ?_
      refine jr_vI C0 (by decide) kd_58 (by decide) rfl (ct_X0_isBetter l G x3 h_x3 x1 h_x1 _) mi_X0_isBetter wm_X0_111 ⟨Nat.le_of_ble_eq_true rfl, Nat.le_of_ble_eq_true rfl⟩ ⟨rfl, rfl⟩ (As := [.int (vr_I x3), .int (vr_I x1)]) rfl (st := []) rfl (Nat.le_of_ble_eq_true rfl) dX0_picksFewest_82 (fun r14 hr14 => ?_)
      refine jr_if_eq C0 hr14 dX0_picksFewest_85 (tgt := 90) (by decide) ?_ ?_
      · refine jr_gd (fun g15 => ?_)
        refine jr_sub [1, 2, 3, 4, 0] rfl ?_
        exact B90 x1 h_x1 x2 h_x2 x3 h_x3 (r5.1.tmod 8) g15 _
      refine jr_gd (fun g16 => ?_)
      refine jr_sub [1, 3, 4, 0] rfl ?_
      exact B88 x2 h_x2 x3 h_x3 (r5.1.tmod 8) g16 _
  unfold fX0_picksFewest
  refine jr_iconst C0 dX0_picksFewest_0 ?_
  refine jr_istore_n C0 dX0_picksFewest_1 rfl (by decide) (lv' := [(1, .int (vr_I 0)), (0, .ref (vr_ad G 58))]) rfl ?_
  refine jr_iconst C0 dX0_picksFewest_2 ?_
  refine jr_istore_n C0 dX0_picksFewest_3 rfl (by decide) (lv' := [(2, .int (vr_I 0)), (1, .int (vr_I 0)), (0, .ref (vr_ad G 58))]) rfl ?_
  refine jr_iconst C0 dX0_picksFewest_4 ?_
  refine jr_istore_n C0 dX0_picksFewest_5 rfl (by decide) (lv' := [(3, .int (vr_I 1)), (2, .int (vr_I 0)), (1, .int (vr_I 0)), (0, .ref (vr_ad G 58))]) rfl ?_
  refine jr_sub [3, 2, 1, 0] rfl ?_
  exact L6 9000 0 (⟨by decide, by decide⟩) 0 (⟨by decide, by decide⟩) 1 (⟨by decide, by decide⟩) _
end
