section
-- ===== PART A: goes FIRST, ahead of the names: the tables' words, and 'selects' of the private methods out of them =====
/-- a private method of a class that the tables say can be made, by its rows of tables_1 -/
def lw_okq (q : MethodName × Nat) : Prop := (q.1.cls ≠ "java/lang/invoke/MethodHandle" ∧ q.1.cls ≠ "java/lang/invoke/VarHandle") ∧ Cond.instantiable q.1.cls q.2 ∈ tables_1 ∧ Cond.privateMethod q.1 ∈ tables_1 ∧ Cond.instanceMethod q.1 ∈ tables_1
theorem lw_p0 : lw_okq (⟨"UntoldFacts$Reader", "step", "()V"⟩, 9) := ⟨⟨by decide +kernel, by decide +kernel⟩, List.mem_of_getElem? (i := 94) (by decide +kernel), List.mem_of_getElem? (i := 337) (by decide +kernel), List.mem_of_getElem? (i := 338) (by decide +kernel)⟩
theorem lw_p1 : lw_okq (⟨"UntoldFacts$Reader", "byteAt", "(I)I"⟩, 9) := ⟨⟨by decide +kernel, by decide +kernel⟩, List.mem_of_getElem? (i := 94) (by decide +kernel), List.mem_of_getElem? (i := 341) (by decide +kernel), List.mem_of_getElem? (i := 342) (by decide +kernel)⟩
theorem lw_p2 : lw_okq (⟨"UntoldFacts$Reader", "kindAt", "(I)I"⟩, 9) := ⟨⟨by decide +kernel, by decide +kernel⟩, List.mem_of_getElem? (i := 94) (by decide +kernel), List.mem_of_getElem? (i := 345) (by decide +kernel), List.mem_of_getElem? (i := 346) (by decide +kernel)⟩
theorem lw_p3 : lw_okq (⟨"UntoldFacts$Reader", "valueOfToken", "()I"⟩, 9) := ⟨⟨by decide +kernel, by decide +kernel⟩, List.mem_of_getElem? (i := 94) (by decide +kernel), List.mem_of_getElem? (i := 349) (by decide +kernel), List.mem_of_getElem? (i := 350) (by decide +kernel)⟩
theorem lw_p4 : lw_okq (⟨"UntoldFacts$Reader", "readClause", "()V"⟩, 9) := ⟨⟨by decide +kernel, by decide +kernel⟩, List.mem_of_getElem? (i := 94) (by decide +kernel), List.mem_of_getElem? (i := 353) (by decide +kernel), List.mem_of_getElem? (i := 354) (by decide +kernel)⟩
theorem lw_p5 : lw_okq (⟨"UntoldFacts$Reader", "isWord", "(Ljava/lang/String;)Z"⟩, 9) := ⟨⟨by decide +kernel, by decide +kernel⟩, List.mem_of_getElem? (i := 94) (by decide +kernel), List.mem_of_getElem? (i := 358) (by decide +kernel), List.mem_of_getElem? (i := 359) (by decide +kernel)⟩
theorem lw_p6 : lw_okq (⟨"UntoldFacts$Reader", "readHats", "()V"⟩, 9) := ⟨⟨by decide +kernel, by decide +kernel⟩, List.mem_of_getElem? (i := 94) (by decide +kernel), List.mem_of_getElem? (i := 410) (by decide +kernel), List.mem_of_getElem? (i := 411) (by decide +kernel)⟩
theorem lw_p7 : lw_okq (⟨"UntoldFacts$Reader", "fail", "(I)V"⟩, 9) := ⟨⟨by decide +kernel, by decide +kernel⟩, List.mem_of_getElem? (i := 94) (by decide +kernel), List.mem_of_getElem? (i := 414) (by decide +kernel), List.mem_of_getElem? (i := 415) (by decide +kernel)⟩
theorem lw_p8 : lw_okq (⟨"UntoldFacts$Reader", "failAt", "(II)V"⟩, 9) := ⟨⟨by decide +kernel, by decide +kernel⟩, List.mem_of_getElem? (i := 94) (by decide +kernel), List.mem_of_getElem? (i := 418) (by decide +kernel), List.mem_of_getElem? (i := 419) (by decide +kernel)⟩
theorem lw_p9 : lw_okq (⟨"UntoldFacts$Reader", "readNumber", "(II)I"⟩, 9) := ⟨⟨by decide +kernel, by decide +kernel⟩, List.mem_of_getElem? (i := 94) (by decide +kernel), List.mem_of_getElem? (i := 422) (by decide +kernel), List.mem_of_getElem? (i := 423) (by decide +kernel)⟩
theorem lw_p10 : lw_okq (⟨"UntoldFacts$Reader", "readEnd", "()V"⟩, 9) := ⟨⟨by decide +kernel, by decide +kernel⟩, List.mem_of_getElem? (i := 94) (by decide +kernel), List.mem_of_getElem? (i := 426) (by decide +kernel), List.mem_of_getElem? (i := 427) (by decide +kernel)⟩
theorem lw_p11 : lw_okq (⟨"UntoldFacts$Reader", "isSign", "(C)Z"⟩, 9) := ⟨⟨by decide +kernel, by decide +kernel⟩, List.mem_of_getElem? (i := 94) (by decide +kernel), List.mem_of_getElem? (i := 430) (by decide +kernel), List.mem_of_getElem? (i := 431) (by decide +kernel)⟩
theorem lw_p12 : lw_okq (⟨"UntoldFacts$Reader", "readFact", "()V"⟩, 9) := ⟨⟨by decide +kernel, by decide +kernel⟩, List.mem_of_getElem? (i := 94) (by decide +kernel), List.mem_of_getElem? (i := 435) (by decide +kernel), List.mem_of_getElem? (i := 436) (by decide +kernel)⟩
theorem lw_p13 : lw_okq (⟨"UntoldFacts$Reader", "readList", "()I"⟩, 9) := ⟨⟨by decide +kernel, by decide +kernel⟩, List.mem_of_getElem? (i := 94) (by decide +kernel), List.mem_of_getElem? (i := 440) (by decide +kernel), List.mem_of_getElem? (i := 441) (by decide +kernel)⟩
theorem lw_p14 : lw_okq (⟨"UntoldFacts$Reader", "readPerson", "()V"⟩, 9) := ⟨⟨by decide +kernel, by decide +kernel⟩, List.mem_of_getElem? (i := 94) (by decide +kernel), List.mem_of_getElem? (i := 450) (by decide +kernel), List.mem_of_getElem? (i := 451) (by decide +kernel)⟩
theorem lw_p15 : lw_okq (⟨"UntoldFacts", "isFact", "(I)Z"⟩, 11) := ⟨⟨by decide +kernel, by decide +kernel⟩, List.mem_of_getElem? (i := 20) (by decide +kernel), List.mem_of_getElem? (i := 478) (by decide +kernel), List.mem_of_getElem? (i := 479) (by decide +kernel)⟩
def lw_privs_1 : List (MethodName × Nat) := [(⟨"UntoldFacts$Reader", "step", "()V"⟩, 9), (⟨"UntoldFacts$Reader", "byteAt", "(I)I"⟩, 9), (⟨"UntoldFacts$Reader", "kindAt", "(I)I"⟩, 9), (⟨"UntoldFacts$Reader", "valueOfToken", "()I"⟩, 9), (⟨"UntoldFacts$Reader", "readClause", "()V"⟩, 9), (⟨"UntoldFacts$Reader", "isWord", "(Ljava/lang/String;)Z"⟩, 9), (⟨"UntoldFacts$Reader", "readHats", "()V"⟩, 9), (⟨"UntoldFacts$Reader", "fail", "(I)V"⟩, 9), (⟨"UntoldFacts$Reader", "failAt", "(II)V"⟩, 9), (⟨"UntoldFacts$Reader", "readNumber", "(II)I"⟩, 9), (⟨"UntoldFacts$Reader", "readEnd", "()V"⟩, 9), (⟨"UntoldFacts$Reader", "isSign", "(C)Z"⟩, 9), (⟨"UntoldFacts$Reader", "readFact", "()V"⟩, 9), (⟨"UntoldFacts$Reader", "readList", "()I"⟩, 9), (⟨"UntoldFacts$Reader", "readPerson", "()V"⟩, 9), (⟨"UntoldFacts", "isFact", "(I)Z"⟩, 11)]
theorem lw_r1 : ∀ q ∈ lw_privs_1, lw_okq q := List.forall_mem_cons.mpr ⟨lw_p0, List.forall_mem_cons.mpr ⟨lw_p1, List.forall_mem_cons.mpr ⟨lw_p2, List.forall_mem_cons.mpr ⟨lw_p3, List.forall_mem_cons.mpr ⟨lw_p4, List.forall_mem_cons.mpr ⟨lw_p5, List.forall_mem_cons.mpr ⟨lw_p6, List.forall_mem_cons.mpr ⟨lw_p7, List.forall_mem_cons.mpr ⟨lw_p8, List.forall_mem_cons.mpr ⟨lw_p9, List.forall_mem_cons.mpr ⟨lw_p10, List.forall_mem_cons.mpr ⟨lw_p11, List.forall_mem_cons.mpr ⟨lw_p12, List.forall_mem_cons.mpr ⟨lw_p13, List.forall_mem_cons.mpr ⟨lw_p14, List.forall_mem_cons.mpr ⟨lw_p15, fun _ h => absurd h List.not_mem_nil⟩⟩⟩⟩⟩⟩⟩⟩⟩⟩⟩⟩⟩⟩⟩⟩
theorem lw_p16 : lw_okq (⟨"UntoldFacts", "isPerson", "(I)Z"⟩, 11) := ⟨⟨by decide +kernel, by decide +kernel⟩, List.mem_of_getElem? (i := 20) (by decide +kernel), List.mem_of_getElem? (i := 492) (by decide +kernel), List.mem_of_getElem? (i := 493) (by decide +kernel)⟩
theorem lw_p17 : lw_okq (⟨"UntoldFacts", "isFactSet", "(I)Z"⟩, 11) := ⟨⟨by decide +kernel, by decide +kernel⟩, List.mem_of_getElem? (i := 20) (by decide +kernel), List.mem_of_getElem? (i := 507) (by decide +kernel), List.mem_of_getElem? (i := 508) (by decide +kernel)⟩
theorem lw_p18 : lw_okq (⟨"UntoldFacts", "areTwo", "(II)Z"⟩, 11) := ⟨⟨by decide +kernel, by decide +kernel⟩, List.mem_of_getElem? (i := 20) (by decide +kernel), List.mem_of_getElem? (i := 516) (by decide +kernel), List.mem_of_getElem? (i := 517) (by decide +kernel)⟩
theorem lw_p19 : lw_okq (⟨"UntoldFacts", "isPersonSet", "(I)Z"⟩, 11) := ⟨⟨by decide +kernel, by decide +kernel⟩, List.mem_of_getElem? (i := 20) (by decide +kernel), List.mem_of_getElem? (i := 579) (by decide +kernel), List.mem_of_getElem? (i := 580) (by decide +kernel)⟩
theorem lw_p20 : lw_okq (⟨"UntoldFacts", "everybody", "()I"⟩, 11) := ⟨⟨by decide +kernel, by decide +kernel⟩, List.mem_of_getElem? (i := 20) (by decide +kernel), List.mem_of_getElem? (i := 583) (by decide +kernel), List.mem_of_getElem? (i := 584) (by decide +kernel)⟩
theorem lw_p21 : lw_okq (⟨"UntoldFacts$Talk", "show", "(LUntoldFacts$Town;IIII)V"⟩, 7) := ⟨⟨by decide +kernel, by decide +kernel⟩, List.mem_of_getElem? (i := 198) (by decide +kernel), List.mem_of_getElem? (i := 592) (by decide +kernel), List.mem_of_getElem? (i := 593) (by decide +kernel)⟩
theorem lw_p22 : lw_okq (⟨"UntoldFacts$Talk", "note", "(IIIII)V"⟩, 7) := ⟨⟨by decide +kernel, by decide +kernel⟩, List.mem_of_getElem? (i := 198) (by decide +kernel), List.mem_of_getElem? (i := 610) (by decide +kernel), List.mem_of_getElem? (i := 611) (by decide +kernel)⟩
theorem lw_p23 : lw_okq (⟨"UntoldFacts", "sayFirstSafe", "(I)Z"⟩, 11) := ⟨⟨by decide +kernel, by decide +kernel⟩, List.mem_of_getElem? (i := 20) (by decide +kernel), List.mem_of_getElem? (i := 641) (by decide +kernel), List.mem_of_getElem? (i := 642) (by decide +kernel)⟩
theorem lw_p24 : lw_okq (⟨"UntoldFacts$Planner", "search", "(IIIJJ)Z"⟩, 9) := ⟨⟨by decide +kernel, by decide +kernel⟩, List.mem_of_getElem? (i := 129) (by decide +kernel), List.mem_of_getElem? (i := 662) (by decide +kernel), List.mem_of_getElem? (i := 663) (by decide +kernel)⟩
theorem lw_p25 : lw_okq (⟨"UntoldFacts$Planner", "fewestToCome", "(II)I"⟩, 9) := ⟨⟨by decide +kernel, by decide +kernel⟩, List.mem_of_getElem? (i := 129) (by decide +kernel), List.mem_of_getElem? (i := 666) (by decide +kernel), List.mem_of_getElem? (i := 667) (by decide +kernel)⟩
theorem lw_p26 : lw_okq (⟨"UntoldFacts$Planner", "searchFrom", "(IZIIJJ)Z"⟩, 9) := ⟨⟨by decide +kernel, by decide +kernel⟩, List.mem_of_getElem? (i := 129) (by decide +kernel), List.mem_of_getElem? (i := 676) (by decide +kernel), List.mem_of_getElem? (i := 677) (by decide +kernel)⟩
theorem lw_p27 : lw_okq (⟨"UntoldFacts$HatCounter", "findDifferences", "(LUntoldFacts$Town;I)V"⟩, 1) := ⟨⟨by decide +kernel, by decide +kernel⟩, List.mem_of_getElem? (i := 164) (by decide +kernel), List.mem_of_getElem? (i := 697) (by decide +kernel), List.mem_of_getElem? (i := 698) (by decide +kernel)⟩
theorem lw_p28 : lw_okq (⟨"UntoldFacts$HatCounter", "findDifferencesTo", "(LUntoldFacts$Town;II)V"⟩, 1) := ⟨⟨by decide +kernel, by decide +kernel⟩, List.mem_of_getElem? (i := 164) (by decide +kernel), List.mem_of_getElem? (i := 702) (by decide +kernel), List.mem_of_getElem? (i := 703) (by decide +kernel)⟩
theorem lw_p29 : lw_okq (⟨"UntoldFacts$HatCounter", "tellsAll", "(I)Z"⟩, 1) := ⟨⟨by decide +kernel, by decide +kernel⟩, List.mem_of_getElem? (i := 164) (by decide +kernel), List.mem_of_getElem? (i := 711) (by decide +kernel), List.mem_of_getElem? (i := 712) (by decide +kernel)⟩
theorem lw_p30 : lw_okq (⟨"UntoldFacts$Talk", "fitsLog", "(LUntoldFacts$Town;II)Z"⟩, 7) := ⟨⟨by decide +kernel, by decide +kernel⟩, List.mem_of_getElem? (i := 198) (by decide +kernel), List.mem_of_getElem? (i := 728) (by decide +kernel), List.mem_of_getElem? (i := 729) (by decide +kernel)⟩
theorem lw_p31 : lw_okq (⟨"UntoldFacts", "driftOnce", "(I)I"⟩, 11) := ⟨⟨by decide +kernel, by decide +kernel⟩, List.mem_of_getElem? (i := 20) (by decide +kernel), List.mem_of_getElem? (i := 775) (by decide +kernel), List.mem_of_getElem? (i := 776) (by decide +kernel)⟩
def lw_privs_2 : List (MethodName × Nat) := [(⟨"UntoldFacts", "isPerson", "(I)Z"⟩, 11), (⟨"UntoldFacts", "isFactSet", "(I)Z"⟩, 11), (⟨"UntoldFacts", "areTwo", "(II)Z"⟩, 11), (⟨"UntoldFacts", "isPersonSet", "(I)Z"⟩, 11), (⟨"UntoldFacts", "everybody", "()I"⟩, 11), (⟨"UntoldFacts$Talk", "show", "(LUntoldFacts$Town;IIII)V"⟩, 7), (⟨"UntoldFacts$Talk", "note", "(IIIII)V"⟩, 7), (⟨"UntoldFacts", "sayFirstSafe", "(I)Z"⟩, 11), (⟨"UntoldFacts$Planner", "search", "(IIIJJ)Z"⟩, 9), (⟨"UntoldFacts$Planner", "fewestToCome", "(II)I"⟩, 9), (⟨"UntoldFacts$Planner", "searchFrom", "(IZIIJJ)Z"⟩, 9), (⟨"UntoldFacts$HatCounter", "findDifferences", "(LUntoldFacts$Town;I)V"⟩, 1), (⟨"UntoldFacts$HatCounter", "findDifferencesTo", "(LUntoldFacts$Town;II)V"⟩, 1), (⟨"UntoldFacts$HatCounter", "tellsAll", "(I)Z"⟩, 1), (⟨"UntoldFacts$Talk", "fitsLog", "(LUntoldFacts$Town;II)Z"⟩, 7), (⟨"UntoldFacts", "driftOnce", "(I)I"⟩, 11)]
theorem lw_r2 : ∀ q ∈ lw_privs_2, lw_okq q := List.forall_mem_cons.mpr ⟨lw_p16, List.forall_mem_cons.mpr ⟨lw_p17, List.forall_mem_cons.mpr ⟨lw_p18, List.forall_mem_cons.mpr ⟨lw_p19, List.forall_mem_cons.mpr ⟨lw_p20, List.forall_mem_cons.mpr ⟨lw_p21, List.forall_mem_cons.mpr ⟨lw_p22, List.forall_mem_cons.mpr ⟨lw_p23, List.forall_mem_cons.mpr ⟨lw_p24, List.forall_mem_cons.mpr ⟨lw_p25, List.forall_mem_cons.mpr ⟨lw_p26, List.forall_mem_cons.mpr ⟨lw_p27, List.forall_mem_cons.mpr ⟨lw_p28, List.forall_mem_cons.mpr ⟨lw_p29, List.forall_mem_cons.mpr ⟨lw_p30, List.forall_mem_cons.mpr ⟨lw_p31, fun _ h => absurd h List.not_mem_nil⟩⟩⟩⟩⟩⟩⟩⟩⟩⟩⟩⟩⟩⟩⟩⟩
theorem lw_p32 : lw_okq (⟨"UntoldFacts", "isImage", "(I)Z"⟩, 11) := ⟨⟨by decide +kernel, by decide +kernel⟩, List.mem_of_getElem? (i := 20) (by decide +kernel), List.mem_of_getElem? (i := 795) (by decide +kernel), List.mem_of_getElem? (i := 796) (by decide +kernel)⟩
theorem lw_p33 : lw_okq (⟨"UntoldFactsModel", "findClosed", "()V"⟩, 43) := ⟨⟨by decide +kernel, by decide +kernel⟩, List.mem_of_getElem? (i := 808) (by decide +kernel), List.mem_of_getElem? (i := 814) (by decide +kernel), List.mem_of_getElem? (i := 815) (by decide +kernel)⟩
theorem lw_p34 : lw_okq (⟨"UntoldFactsModel", "begin", "()V"⟩, 43) := ⟨⟨by decide +kernel, by decide +kernel⟩, List.mem_of_getElem? (i := 808) (by decide +kernel), List.mem_of_getElem? (i := 818) (by decide +kernel), List.mem_of_getElem? (i := 819) (by decide +kernel)⟩
theorem lw_p35 : lw_okq (⟨"UntoldFactsModel", "hatOf", "(II)I"⟩, 43) := ⟨⟨by decide +kernel, by decide +kernel⟩, List.mem_of_getElem? (i := 808) (by decide +kernel), List.mem_of_getElem? (i := 822) (by decide +kernel), List.mem_of_getElem? (i := 823) (by decide +kernel)⟩
theorem lw_p36 : lw_okq (⟨"UntoldFactsModel", "withHat", "(I)J"⟩, 43) := ⟨⟨by decide +kernel, by decide +kernel⟩, List.mem_of_getElem? (i := 808) (by decide +kernel), List.mem_of_getElem? (i := 829) (by decide +kernel), List.mem_of_getElem? (i := 830) (by decide +kernel)⟩
theorem lw_p37 : lw_okq (⟨"UntoldFactsModel", "here", "()I"⟩, 43) := ⟨⟨by decide +kernel, by decide +kernel⟩, List.mem_of_getElem? (i := 808) (by decide +kernel), List.mem_of_getElem? (i := 978) (by decide +kernel), List.mem_of_getElem? (i := 979) (by decide +kernel)⟩
theorem lw_p38 : lw_okq (⟨"UntoldFactsModel", "takeClause", "()I"⟩, 43) := ⟨⟨by decide +kernel, by decide +kernel⟩, List.mem_of_getElem? (i := 808) (by decide +kernel), List.mem_of_getElem? (i := 982) (by decide +kernel), List.mem_of_getElem? (i := 983) (by decide +kernel)⟩
theorem lw_p39 : lw_okq (⟨"UntoldFactsModel", "readWord", "()V"⟩, 43) := ⟨⟨by decide +kernel, by decide +kernel⟩, List.mem_of_getElem? (i := 808) (by decide +kernel), List.mem_of_getElem? (i := 986) (by decide +kernel), List.mem_of_getElem? (i := 987) (by decide +kernel)⟩
theorem lw_p40 : lw_okq (⟨"UntoldFactsModel", "fails", "(II)I"⟩, 43) := ⟨⟨by decide +kernel, by decide +kernel⟩, List.mem_of_getElem? (i := 808) (by decide +kernel), List.mem_of_getElem? (i := 1002) (by decide +kernel), List.mem_of_getElem? (i := 1003) (by decide +kernel)⟩
theorem lw_p41 : lw_okq (⟨"UntoldFactsModel", "takeNumber", "(II)I"⟩, 43) := ⟨⟨by decide +kernel, by decide +kernel⟩, List.mem_of_getElem? (i := 808) (by decide +kernel), List.mem_of_getElem? (i := 1006) (by decide +kernel), List.mem_of_getElem? (i := 1007) (by decide +kernel)⟩
theorem lw_p42 : lw_okq (⟨"UntoldFactsModel", "takeFact", "()I"⟩, 43) := ⟨⟨by decide +kernel, by decide +kernel⟩, List.mem_of_getElem? (i := 808) (by decide +kernel), List.mem_of_getElem? (i := 1012) (by decide +kernel), List.mem_of_getElem? (i := 1013) (by decide +kernel)⟩
theorem lw_p43 : lw_okq (⟨"UntoldFactsModel", "takeSet", "([III)I"⟩, 43) := ⟨⟨by decide +kernel, by decide +kernel⟩, List.mem_of_getElem? (i := 808) (by decide +kernel), List.mem_of_getElem? (i := 1016) (by decide +kernel), List.mem_of_getElem? (i := 1017) (by decide +kernel)⟩
theorem lw_p44 : lw_okq (⟨"UntoldFactsModel", "takePerson", "()I"⟩, 43) := ⟨⟨by decide +kernel, by decide +kernel⟩, List.mem_of_getElem? (i := 808) (by decide +kernel), List.mem_of_getElem? (i := 1020) (by decide +kernel), List.mem_of_getElem? (i := 1021) (by decide +kernel)⟩
theorem lw_p45 : lw_okq (⟨"UntoldFactsModel", "isFact", "(I)Z"⟩, 43) := ⟨⟨by decide +kernel, by decide +kernel⟩, List.mem_of_getElem? (i := 808) (by decide +kernel), List.mem_of_getElem? (i := 1039) (by decide +kernel), List.mem_of_getElem? (i := 1040) (by decide +kernel)⟩
theorem lw_p46 : lw_okq (⟨"UntoldFactsModel", "knowers", "(I)I"⟩, 43) := ⟨⟨by decide +kernel, by decide +kernel⟩, List.mem_of_getElem? (i := 808) (by decide +kernel), List.mem_of_getElem? (i := 1044) (by decide +kernel), List.mem_of_getElem? (i := 1045) (by decide +kernel)⟩
theorem lw_p47 : lw_okq (⟨"UntoldFactsModel", "isPerson", "(I)Z"⟩, 43) := ⟨⟨by decide +kernel, by decide +kernel⟩, List.mem_of_getElem? (i := 808) (by decide +kernel), List.mem_of_getElem? (i := 1052) (by decide +kernel), List.mem_of_getElem? (i := 1053) (by decide +kernel)⟩
def lw_privs_3 : List (MethodName × Nat) := [(⟨"UntoldFacts", "isImage", "(I)Z"⟩, 11), (⟨"UntoldFactsModel", "findClosed", "()V"⟩, 43), (⟨"UntoldFactsModel", "begin", "()V"⟩, 43), (⟨"UntoldFactsModel", "hatOf", "(II)I"⟩, 43), (⟨"UntoldFactsModel", "withHat", "(I)J"⟩, 43), (⟨"UntoldFactsModel", "here", "()I"⟩, 43), (⟨"UntoldFactsModel", "takeClause", "()I"⟩, 43), (⟨"UntoldFactsModel", "readWord", "()V"⟩, 43), (⟨"UntoldFactsModel", "fails", "(II)I"⟩, 43), (⟨"UntoldFactsModel", "takeNumber", "(II)I"⟩, 43), (⟨"UntoldFactsModel", "takeFact", "()I"⟩, 43), (⟨"UntoldFactsModel", "takeSet", "([III)I"⟩, 43), (⟨"UntoldFactsModel", "takePerson", "()I"⟩, 43), (⟨"UntoldFactsModel", "isFact", "(I)Z"⟩, 43), (⟨"UntoldFactsModel", "knowers", "(I)I"⟩, 43), (⟨"UntoldFactsModel", "isPerson", "(I)Z"⟩, 43)]
theorem lw_r3 : ∀ q ∈ lw_privs_3, lw_okq q := List.forall_mem_cons.mpr ⟨lw_p32, List.forall_mem_cons.mpr ⟨lw_p33, List.forall_mem_cons.mpr ⟨lw_p34, List.forall_mem_cons.mpr ⟨lw_p35, List.forall_mem_cons.mpr ⟨lw_p36, List.forall_mem_cons.mpr ⟨lw_p37, List.forall_mem_cons.mpr ⟨lw_p38, List.forall_mem_cons.mpr ⟨lw_p39, List.forall_mem_cons.mpr ⟨lw_p40, List.forall_mem_cons.mpr ⟨lw_p41, List.forall_mem_cons.mpr ⟨lw_p42, List.forall_mem_cons.mpr ⟨lw_p43, List.forall_mem_cons.mpr ⟨lw_p44, List.forall_mem_cons.mpr ⟨lw_p45, List.forall_mem_cons.mpr ⟨lw_p46, List.forall_mem_cons.mpr ⟨lw_p47, fun _ h => absurd h List.not_mem_nil⟩⟩⟩⟩⟩⟩⟩⟩⟩⟩⟩⟩⟩⟩⟩⟩
theorem lw_p48 : lw_okq (⟨"UntoldFactsModel", "plainLack", "(I)I"⟩, 43) := ⟨⟨by decide +kernel, by decide +kernel⟩, List.mem_of_getElem? (i := 808) (by decide +kernel), List.mem_of_getElem? (i := 1056) (by decide +kernel), List.mem_of_getElem? (i := 1057) (by decide +kernel)⟩
theorem lw_p49 : lw_okq (⟨"UntoldFactsModel", "inNone", "(J)I"⟩, 43) := ⟨⟨by decide +kernel, by decide +kernel⟩, List.mem_of_getElem? (i := 808) (by decide +kernel), List.mem_of_getElem? (i := 1060) (by decide +kernel), List.mem_of_getElem? (i := 1061) (by decide +kernel)⟩
theorem lw_p50 : lw_okq (⟨"UntoldFactsModel", "isSet", "(I)Z"⟩, 43) := ⟨⟨by decide +kernel, by decide +kernel⟩, List.mem_of_getElem? (i := 808) (by decide +kernel), List.mem_of_getElem? (i := 1068) (by decide +kernel), List.mem_of_getElem? (i := 1069) (by decide +kernel)⟩
theorem lw_p51 : lw_okq (⟨"UntoldFactsModel", "areTwo", "(II)Z"⟩, 43) := ⟨⟨by decide +kernel, by decide +kernel⟩, List.mem_of_getElem? (i := 808) (by decide +kernel), List.mem_of_getElem? (i := 1076) (by decide +kernel), List.mem_of_getElem? (i := 1077) (by decide +kernel)⟩
theorem lw_p52 : lw_okq (⟨"UntoldFactsModel", "pick", "(JI)I"⟩, 43) := ⟨⟨by decide +kernel, by decide +kernel⟩, List.mem_of_getElem? (i := 808) (by decide +kernel), List.mem_of_getElem? (i := 1080) (by decide +kernel), List.mem_of_getElem? (i := 1081) (by decide +kernel)⟩
theorem lw_p53 : lw_okq (⟨"UntoldFactsModel", "sureKnows", "(II)I"⟩, 43) := ⟨⟨by decide +kernel, by decide +kernel⟩, List.mem_of_getElem? (i := 808) (by decide +kernel), List.mem_of_getElem? (i := 1088) (by decide +kernel), List.mem_of_getElem? (i := 1089) (by decide +kernel)⟩
theorem lw_p54 : lw_okq (⟨"UntoldFactsModel", "inAll", "(J)I"⟩, 43) := ⟨⟨by decide +kernel, by decide +kernel⟩, List.mem_of_getElem? (i := 808) (by decide +kernel), List.mem_of_getElem? (i := 1092) (by decide +kernel), List.mem_of_getElem? (i := 1093) (by decide +kernel)⟩
theorem lw_p55 : lw_okq (⟨"UntoldFactsModel", "sureLacks", "(II)I"⟩, 43) := ⟨⟨by decide +kernel, by decide +kernel⟩, List.mem_of_getElem? (i := 808) (by decide +kernel), List.mem_of_getElem? (i := 1099) (by decide +kernel), List.mem_of_getElem? (i := 1100) (by decide +kernel)⟩
theorem lw_p56 : lw_okq (⟨"UntoldFactsModel", "safeOf", "(II)I"⟩, 43) := ⟨⟨by decide +kernel, by decide +kernel⟩, List.mem_of_getElem? (i := 808) (by decide +kernel), List.mem_of_getElem? (i := 1107) (by decide +kernel), List.mem_of_getElem? (i := 1108) (by decide +kernel)⟩
theorem lw_p57 : lw_okq (⟨"UntoldFactsModel", "oddsOf", "(III)I"⟩, 43) := ⟨⟨by decide +kernel, by decide +kernel⟩, List.mem_of_getElem? (i := 808) (by decide +kernel), List.mem_of_getElem? (i := 1115) (by decide +kernel), List.mem_of_getElem? (i := 1116) (by decide +kernel)⟩
theorem lw_p58 : lw_okq (⟨"UntoldFactsModel", "those", "(JIZ)J"⟩, 43) := ⟨⟨by decide +kernel, by decide +kernel⟩, List.mem_of_getElem? (i := 808) (by decide +kernel), List.mem_of_getElem? (i := 1120) (by decide +kernel), List.mem_of_getElem? (i := 1121) (by decide +kernel)⟩
theorem lw_p59 : lw_okq (⟨"UntoldFactsModel", "bestOf", "(II)I"⟩, 43) := ⟨⟨by decide +kernel, by decide +kernel⟩, List.mem_of_getElem? (i := 808) (by decide +kernel), List.mem_of_getElem? (i := 1128) (by decide +kernel), List.mem_of_getElem? (i := 1129) (by decide +kernel)⟩
theorem lw_p60 : lw_okq (⟨"UntoldFactsModel", "sayNow", "(IIII)Z"⟩, 43) := ⟨⟨by decide +kernel, by decide +kernel⟩, List.mem_of_getElem? (i := 808) (by decide +kernel), List.mem_of_getElem? (i := 1137) (by decide +kernel), List.mem_of_getElem? (i := 1138) (by decide +kernel)⟩
theorem lw_p61 : lw_okq (⟨"UntoldFactsModel", "learnt", "(JI)J"⟩, 43) := ⟨⟨by decide +kernel, by decide +kernel⟩, List.mem_of_getElem? (i := 808) (by decide +kernel), List.mem_of_getElem? (i := 1141) (by decide +kernel), List.mem_of_getElem? (i := 1142) (by decide +kernel)⟩
theorem lw_p62 : lw_okq (⟨"UntoldFactsModel", "silentNow", "(II)I"⟩, 43) := ⟨⟨by decide +kernel, by decide +kernel⟩, List.mem_of_getElem? (i := 808) (by decide +kernel), List.mem_of_getElem? (i := 1149) (by decide +kernel), List.mem_of_getElem? (i := 1150) (by decide +kernel)⟩
theorem lw_p63 : lw_okq (⟨"UntoldFactsModel", "partyOn", "(I)Z"⟩, 43) := ⟨⟨by decide +kernel, by decide +kernel⟩, List.mem_of_getElem? (i := 808) (by decide +kernel), List.mem_of_getElem? (i := 1162) (by decide +kernel), List.mem_of_getElem? (i := 1163) (by decide +kernel)⟩
def lw_privs_4 : List (MethodName × Nat) := [(⟨"UntoldFactsModel", "plainLack", "(I)I"⟩, 43), (⟨"UntoldFactsModel", "inNone", "(J)I"⟩, 43), (⟨"UntoldFactsModel", "isSet", "(I)Z"⟩, 43), (⟨"UntoldFactsModel", "areTwo", "(II)Z"⟩, 43), (⟨"UntoldFactsModel", "pick", "(JI)I"⟩, 43), (⟨"UntoldFactsModel", "sureKnows", "(II)I"⟩, 43), (⟨"UntoldFactsModel", "inAll", "(J)I"⟩, 43), (⟨"UntoldFactsModel", "sureLacks", "(II)I"⟩, 43), (⟨"UntoldFactsModel", "safeOf", "(II)I"⟩, 43), (⟨"UntoldFactsModel", "oddsOf", "(III)I"⟩, 43), (⟨"UntoldFactsModel", "those", "(JIZ)J"⟩, 43), (⟨"UntoldFactsModel", "bestOf", "(II)I"⟩, 43), (⟨"UntoldFactsModel", "sayNow", "(IIII)Z"⟩, 43), (⟨"UntoldFactsModel", "learnt", "(JI)J"⟩, 43), (⟨"UntoldFactsModel", "silentNow", "(II)I"⟩, 43), (⟨"UntoldFactsModel", "partyOn", "(I)Z"⟩, 43)]
theorem lw_r4 : ∀ q ∈ lw_privs_4, lw_okq q := List.forall_mem_cons.mpr ⟨lw_p48, List.forall_mem_cons.mpr ⟨lw_p49, List.forall_mem_cons.mpr ⟨lw_p50, List.forall_mem_cons.mpr ⟨lw_p51, List.forall_mem_cons.mpr ⟨lw_p52, List.forall_mem_cons.mpr ⟨lw_p53, List.forall_mem_cons.mpr ⟨lw_p54, List.forall_mem_cons.mpr ⟨lw_p55, List.forall_mem_cons.mpr ⟨lw_p56, List.forall_mem_cons.mpr ⟨lw_p57, List.forall_mem_cons.mpr ⟨lw_p58, List.forall_mem_cons.mpr ⟨lw_p59, List.forall_mem_cons.mpr ⟨lw_p60, List.forall_mem_cons.mpr ⟨lw_p61, List.forall_mem_cons.mpr ⟨lw_p62, List.forall_mem_cons.mpr ⟨lw_p63, fun _ h => absurd h List.not_mem_nil⟩⟩⟩⟩⟩⟩⟩⟩⟩⟩⟩⟩⟩⟩⟩⟩
theorem lw_p64 : lw_okq (⟨"UntoldFactsModel", "findPlan", "(II)Z"⟩, 43) := ⟨⟨by decide +kernel, by decide +kernel⟩, List.mem_of_getElem? (i := 808) (by decide +kernel), List.mem_of_getElem? (i := 1170) (by decide +kernel), List.mem_of_getElem? (i := 1171) (by decide +kernel)⟩
theorem lw_p65 : lw_okq (⟨"UntoldFactsModel", "tryAt", "(II)Z"⟩, 43) := ⟨⟨by decide +kernel, by decide +kernel⟩, List.mem_of_getElem? (i := 808) (by decide +kernel), List.mem_of_getElem? (i := 1174) (by decide +kernel), List.mem_of_getElem? (i := 1175) (by decide +kernel)⟩
theorem lw_p66 : lw_okq (⟨"UntoldFactsModel", "parts", "(II)Z"⟩, 43) := ⟨⟨by decide +kernel, by decide +kernel⟩, List.mem_of_getElem? (i := 808) (by decide +kernel), List.mem_of_getElem? (i := 1183) (by decide +kernel), List.mem_of_getElem? (i := 1184) (by decide +kernel)⟩
theorem lw_p67 : lw_okq (⟨"UntoldFactsModel", "couldKnow", "(II)Z"⟩, 43) := ⟨⟨by decide +kernel, by decide +kernel⟩, List.mem_of_getElem? (i := 808) (by decide +kernel), List.mem_of_getElem? (i := 1195) (by decide +kernel), List.mem_of_getElem? (i := 1196) (by decide +kernel)⟩
theorem lw_p68 : lw_okq (⟨"UntoldFactsModel", "draw", "(I)I"⟩, 43) := ⟨⟨by decide +kernel, by decide +kernel⟩, List.mem_of_getElem? (i := 808) (by decide +kernel), List.mem_of_getElem? (i := 1226) (by decide +kernel), List.mem_of_getElem? (i := 1227) (by decide +kernel)⟩
def lw_privs_5 : List (MethodName × Nat) := [(⟨"UntoldFactsModel", "findPlan", "(II)Z"⟩, 43), (⟨"UntoldFactsModel", "tryAt", "(II)Z"⟩, 43), (⟨"UntoldFactsModel", "parts", "(II)Z"⟩, 43), (⟨"UntoldFactsModel", "couldKnow", "(II)Z"⟩, 43), (⟨"UntoldFactsModel", "draw", "(I)I"⟩, 43)]
theorem lw_r5 : ∀ q ∈ lw_privs_5, lw_okq q := List.forall_mem_cons.mpr ⟨lw_p64, List.forall_mem_cons.mpr ⟨lw_p65, List.forall_mem_cons.mpr ⟨lw_p66, List.forall_mem_cons.mpr ⟨lw_p67, List.forall_mem_cons.mpr ⟨lw_p68, fun _ h => absurd h List.not_mem_nil⟩⟩⟩⟩⟩
def lw_privs : List (MethodName × Nat) := lw_privs_1 ++ (lw_privs_2 ++ (lw_privs_3 ++ (lw_privs_4 ++ (lw_privs_5))))
def lw_tbl : List Cond := k2_sels lw_privs ++ tables_1
theorem lw_privs_ok : ∀ q ∈ lw_privs, lw_okq q := by
  show ∀ q ∈ lw_privs_1 ++ (lw_privs_2 ++ (lw_privs_3 ++ (lw_privs_4 ++ (lw_privs_5)))), lw_okq q
  exact List.forall_mem_append.mpr ⟨lw_r1, List.forall_mem_append.mpr ⟨lw_r2, List.forall_mem_append.mpr ⟨lw_r3, List.forall_mem_append.mpr ⟨lw_r4, lw_r5⟩⟩⟩⟩
end
section
def RX0 : String := "UntoldFacts$Book"
def TX0 : u_T := fun k => match k with
  | 0 => ("UntoldFacts$Book", "speaker", "[I", true)
  | 1 => ("UntoldFacts$Book", "hearer", "[I", true)
  | 2 => ("UntoldFacts$Book", "subject", "[I", true)
  | 3 => ("UntoldFacts$Book", "known", "[I", true)
  | _ => ("UntoldFacts$Book", "count", "I", false)
def tyX0 : Nat → FieldType := fun k => match k with
  | 0 => .array .int
  | 1 => .array .int
  | 2 => .array .int
  | 3 => .array .int
  | _ => .int
theorem nmX0 : ∀ a, a < 5 → ∀ b, b < 5 → a ≠ b → (TX0 a).2.1 ≠ (TX0 b).2.1 := by decide +kernel
theorem tyX0_ok : ∀ k, k < 5 → parseFieldDescriptor (TX0 k).2.2.1 = some (tyX0 k) := by decide +kernel
def RX2 : String := "UntoldFacts$HatCounter"
def TX2 : u_T := fun k => match k with
  | _ => ("UntoldFacts$HatCounter", "apart", "[Z", true)
def tyX2 : Nat → FieldType := fun k => match k with
  | _ => .array .boolean
theorem nmX2 : ∀ a, a < 1 → ∀ b, b < 1 → a ≠ b → (TX2 a).2.1 ≠ (TX2 b).2.1 := by decide +kernel
theorem tyX2_ok : ∀ k, k < 1 → parseFieldDescriptor (TX2 k).2.2.1 = some (tyX2 k) := by decide +kernel
def RX3 : String := "UntoldFacts$Planner"
def TX3 : u_T := fun k => match k with
  | 0 => ("UntoldFacts$Planner", "speaker", "[I", true)
  | 1 => ("UntoldFacts$Planner", "subject", "[I", true)
  | 2 => ("UntoldFacts$Planner", "town", "LUntoldFacts$Town;", false)
  | 3 => ("UntoldFacts$Planner", "first", "I", false)
  | 4 => ("UntoldFacts$Planner", "second", "I", false)
  | 5 => ("UntoldFacts$Planner", "goal", "I", false)
  | 6 => ("UntoldFacts$Planner", "onlyTold", "I", false)
  | 7 => ("UntoldFacts$Planner", "limit", "I", false)
  | _ => ("UntoldFacts$Planner", "count", "I", false)
def tyX3 : Nat → FieldType := fun k => match k with
  | 0 => .array .int
  | 1 => .array .int
  | 2 => .object "UntoldFacts$Town"
  | 3 => .int
  | 4 => .int
  | 5 => .int
  | 6 => .int
  | 7 => .int
  | _ => .int
theorem nmX3 : ∀ a, a < 9 → ∀ b, b < 9 → a ≠ b → (TX3 a).2.1 ≠ (TX3 b).2.1 := by decide +kernel
theorem tyX3_ok : ∀ k, k < 9 → parseFieldDescriptor (TX3 k).2.2.1 = some (tyX3 k) := by decide +kernel
def RX4 : String := "UntoldFacts$Reader"
def TX4 : u_T := fun k => match k with
  | 0 => ("UntoldFacts$Reader", "text", "LUntoldFacts$Text;", true)
  | 1 => ("UntoldFacts$Reader", "town", "LUntoldFacts$Town;", false)
  | 2 => ("UntoldFacts$Reader", "hatsTold", "Z", false)
  | 3 => ("UntoldFacts$Reader", "kind", "I", false)
  | 4 => ("UntoldFacts$Reader", "start", "I", false)
  | 5 => ("UntoldFacts$Reader", "end", "I", false)
  | 6 => ("UntoldFacts$Reader", "value", "I", false)
  | 7 => ("UntoldFacts$Reader", "faultNumber", "I", false)
  | _ => ("UntoldFacts$Reader", "faultAt", "I", false)
def tyX4 : Nat → FieldType := fun k => match k with
  | 0 => .object "UntoldFacts$Text"
  | 1 => .object "UntoldFacts$Town"
  | 2 => .boolean
  | 3 => .int
  | 4 => .int
  | 5 => .int
  | 6 => .int
  | 7 => .int
  | _ => .int
theorem nmX4 : ∀ a, a < 9 → ∀ b, b < 9 → a ≠ b → (TX4 a).2.1 ≠ (TX4 b).2.1 := by decide +kernel
theorem tyX4_ok : ∀ k, k < 9 → parseFieldDescriptor (TX4 k).2.2.1 = some (tyX4 k) := by decide +kernel
def RX5 : String := "UntoldFacts$Talk"
def TX5 : u_T := fun k => match k with
  | 0 => ("UntoldFacts$Talk", "known", "[I", true)
  | 1 => ("UntoldFacts$Talk", "hat", "[I", true)
  | 2 => ("UntoldFacts$Talk", "insults", "[I", true)
  | 3 => ("UntoldFacts$Talk", "views", "[J", true)
  | 4 => ("UntoldFacts$Talk", "logRows", "[I", true)
  | 5 => ("UntoldFacts$Talk", "logged", "I", false)
  | _ => ("UntoldFacts$Talk", "drawn", "I", false)
def tyX5 : Nat → FieldType := fun k => match k with
  | 0 => .array .int
  | 1 => .array .int
  | 2 => .array .int
  | 3 => .array .long
  | 4 => .array .int
  | 5 => .int
  | _ => .int
theorem nmX5 : ∀ a, a < 7 → ∀ b, b < 7 → a ≠ b → (TX5 a).2.1 ≠ (TX5 b).2.1 := by decide +kernel
theorem tyX5_ok : ∀ k, k < 7 → parseFieldDescriptor (TX5 k).2.2.1 = some (tyX5 k) := by decide +kernel
def RX6 : String := "UntoldFacts$Text"
def TX6 : u_T := fun k => match k with
  | 0 => ("UntoldFacts$Text", "bytes", "[I", true)
  | _ => ("UntoldFacts$Text", "length", "I", false)
def tyX6 : Nat → FieldType := fun k => match k with
  | 0 => .array .int
  | _ => .int
theorem nmX6 : ∀ a, a < 2 → ∀ b, b < 2 → a ≠ b → (TX6 a).2.1 ≠ (TX6 b).2.1 := by decide +kernel
theorem tyX6_ok : ∀ k, k < 2 → parseFieldDescriptor (TX6 k).2.2.1 = some (tyX6 k) := by decide +kernel
def RX7 : String := "UntoldFacts$Town"
def TX7 : u_T := fun k => match k with
  | 0 => ("UntoldFacts$Town", "facts", "I", false)
  | 1 => ("UntoldFacts$Town", "persons", "I", false)
  | 2 => ("UntoldFacts$Town", "hatCount", "I", false)
  | 3 => ("UntoldFacts$Town", "weight", "[I", true)
  | 4 => ("UntoldFacts$Town", "follows", "[I", true)
  | 5 => ("UntoldFacts$Town", "toldKnown", "[I", true)
  | 6 => ("UntoldFacts$Town", "needing", "[J", true)
  | 7 => ("UntoldFacts$Town", "wearing", "[J", true)
  | _ => ("UntoldFacts$Town", "closedSets", "J", false)
def tyX7 : Nat → FieldType := fun k => match k with
  | 0 => .int
  | 1 => .int
  | 2 => .int
  | 3 => .array .int
  | 4 => .array .int
  | 5 => .array .int
  | 6 => .array .long
  | 7 => .array .long
  | _ => .long
theorem nmX7 : ∀ a, a < 9 → ∀ b, b < 9 → a ≠ b → (TX7 a).2.1 ≠ (TX7 b).2.1 := by decide +kernel
theorem tyX7_ok : ∀ k, k < 9 → parseFieldDescriptor (TX7 k).2.2.1 = some (tyX7 k) := by decide +kernel
def RX8 : String := "UntoldFacts"
def TX8 : u_T := fun k => match k with
  | 0 => ("UntoldFacts", "text", "LUntoldFacts$Text;", true)
  | 1 => ("UntoldFacts", "reader", "LUntoldFacts$Reader;", true)
  | 2 => ("UntoldFacts", "planner", "LUntoldFacts$Planner;", true)
  | 3 => ("UntoldFacts", "hatCounter", "LUntoldFacts$HatCounter;", true)
  | 4 => ("UntoldFacts", "book", "LUntoldFacts$Book;", true)
  | 5 => ("UntoldFacts", "now", "LUntoldFacts$Talk;", true)
  | 6 => ("UntoldFacts", "images", "[LUntoldFacts$Talk;", true)
  | 7 => ("UntoldFacts", "kept", "[Z", true)
  | 8 => ("UntoldFacts", "place", "LUntoldFacts$Town;", false)
  | 9 => ("UntoldFacts", "draft", "LUntoldFacts$Town;", false)
  | _ => ("UntoldFacts", "faultAt", "I", false)
def tyX8 : Nat → FieldType := fun k => match k with
  | 0 => .object "UntoldFacts$Text"
  | 1 => .object "UntoldFacts$Reader"
  | 2 => .object "UntoldFacts$Planner"
  | 3 => .object "UntoldFacts$HatCounter"
  | 4 => .object "UntoldFacts$Book"
  | 5 => .object "UntoldFacts$Talk"
  | 6 => .array (.object "UntoldFacts$Talk")
  | 7 => .array .boolean
  | 8 => .object "UntoldFacts$Town"
  | 9 => .object "UntoldFacts$Town"
  | _ => .int
theorem nmX8 : ∀ a, a < 11 → ∀ b, b < 11 → a ≠ b → (TX8 a).2.1 ≠ (TX8 b).2.1 := by decide +kernel
theorem tyX8_ok : ∀ k, k < 11 → parseFieldDescriptor (TX8 k).2.2.1 = some (tyX8 k) := by decide +kernel
def RX9 : String := "UntoldFactsModel"
def TX9 : u_T := fun k => match k with
  | 0 => ("UntoldFactsModel", "facts", "I", false)
  | 1 => ("UntoldFactsModel", "weight", "[I", true)
  | 2 => ("UntoldFactsModel", "follows", "[I", true)
  | 3 => ("UntoldFactsModel", "persons", "I", false)
  | 4 => ("UntoldFactsModel", "toldKnows", "[I", true)
  | 5 => ("UntoldFactsModel", "count", "I", false)
  | 6 => ("UntoldFactsModel", "closedOf", "[I", true)
  | 7 => ("UntoldFactsModel", "allClosed", "J", false)
  | 8 => ("UntoldFactsModel", "knows", "[I", true)
  | 9 => ("UntoldFactsModel", "hat", "[I", true)
  | 10 => ("UntoldFactsModel", "can", "[J", true)
  | 11 => ("UntoldFactsModel", "insults", "[I", true)
  | 12 => ("UntoldFactsModel", "logged", "I", false)
  | 13 => ("UntoldFactsModel", "logs", "[I", true)
  | 14 => ("UntoldFactsModel", "seed", "I", false)
  | 15 => ("UntoldFactsModel", "text", "[I", true)
  | 16 => ("UntoldFactsModel", "texted", "I", false)
  | 17 => ("UntoldFactsModel", "faultPlace", "I", false)
  | 18 => ("UntoldFactsModel", "at0", "I", false)
  | 19 => ("UntoldFactsModel", "said", "J", false)
  | 20 => ("UntoldFactsModel", "wordEnd", "I", false)
  | 21 => ("UntoldFactsModel", "number", "I", false)
  | 22 => ("UntoldFactsModel", "numberAt", "I", false)
  | 23 => ("UntoldFactsModel", "readFacts", "I", false)
  | 24 => ("UntoldFactsModel", "readWeight", "[I", true)
  | 25 => ("UntoldFactsModel", "readFollows", "[I", true)
  | 26 => ("UntoldFactsModel", "readPersons", "I", false)
  | 27 => ("UntoldFactsModel", "readKnows", "[I", true)
  | 28 => ("UntoldFactsModel", "readCount", "I", false)
  | 29 => ("UntoldFactsModel", "surely", "[I", true)
  | 30 => ("UntoldFactsModel", "oneKnows", "[I", true)
  | 31 => ("UntoldFactsModel", "twoKnows", "[I", true)
  | 32 => ("UntoldFactsModel", "ofTwo", "[J", true)
  | 33 => ("UntoldFactsModel", "ofOne", "[J", true)
  | 34 => ("UntoldFactsModel", "tries", "[I", true)
  | 35 => ("UntoldFactsModel", "booked", "I", false)
  | 36 => ("UntoldFactsModel", "bookOne", "[I", true)
  | 37 => ("UntoldFactsModel", "bookTwo", "[I", true)
  | 38 => ("UntoldFactsModel", "bookFact", "[I", true)
  | 39 => ("UntoldFactsModel", "tried", "[I", true)
  | 40 => ("UntoldFactsModel", "images", "[I", true)
  | 41 => ("UntoldFactsModel", "imageSets", "[J", true)
  | _ => ("UntoldFactsModel", "isKept", "[Z", true)
def tyX9 : Nat → FieldType := fun k => match k with
  | 0 => .int
  | 1 => .array .int
  | 2 => .array .int
  | 3 => .int
  | 4 => .array .int
  | 5 => .int
  | 6 => .array .int
  | 7 => .long
  | 8 => .array .int
  | 9 => .array .int
  | 10 => .array .long
  | 11 => .array .int
  | 12 => .int
  | 13 => .array .int
  | 14 => .int
  | 15 => .array .int
  | 16 => .int
  | 17 => .int
  | 18 => .int
  | 19 => .long
  | 20 => .int
  | 21 => .int
  | 22 => .int
  | 23 => .int
  | 24 => .array .int
  | 25 => .array .int
  | 26 => .int
  | 27 => .array .int
  | 28 => .int
  | 29 => .array .int
  | 30 => .array .int
  | 31 => .array .int
  | 32 => .array .long
  | 33 => .array .long
  | 34 => .array .int
  | 35 => .int
  | 36 => .array .int
  | 37 => .array .int
  | 38 => .array .int
  | 39 => .array .int
  | 40 => .array .int
  | 41 => .array .long
  | _ => .array .boolean
theorem nmX9 : ∀ a, a < 43 → ∀ b, b < 43 → a ≠ b → (TX9 a).2.1 ≠ (TX9 b).2.1 := by decide +kernel
theorem tyX9_ok : ∀ k, k < 43 → parseFieldDescriptor (TX9 k).2.2.1 = some (tyX9 k) := by decide +kernel
abbrev zCl : List vw_C := [(RX0, TX0, 5), (RX2, TX2, 1), (RX3, TX3, 9), (RX4, TX4, 9), (RX5, TX5, 7), (RX6, TX6, 2), (RX7, TX7, 9), (RX8, TX8, 11), (RX9, TX9, 43)]
/-- field codes: 0 int, 1 boolean, 2 long, 3 final reference, 4 other reference -/
def zFs : List (List Nat) := [[3, 3, 3, 3, 0], [3], [3, 3, 4, 0, 0, 0, 0, 0, 0], [3, 4, 1, 0, 0, 0, 0, 0, 0], [3, 3, 3, 3, 3, 0, 0], [3, 0], [0, 0, 0, 3, 3, 3, 3, 3, 2], [3, 3, 3, 3, 3, 3, 3, 3, 4, 4, 0], [0, 3, 3, 0, 3, 0, 3, 2, 3, 3, 3, 3, 0, 3, 0, 3, 0, 0, 0, 2, 0, 0, 0, 0, 3, 3, 0, 3, 0, 3, 3, 3, 3, 3, 3, 0, 3, 3, 3, 3, 3, 3, 3]]
end
section
def zOw : List String := ["UntoldFacts", "UntoldFacts$Text", "UntoldFacts$Town", "UntoldFacts$Reader", "UntoldFacts$Planner", "UntoldFacts$HatCounter", "UntoldFacts$Book", "UntoldFacts$Talk", "UntoldFacts$Family", "java/lang/String", "java/lang/StringLatin1", "jdk/internal/util/Preconditions", "java/lang/Long", "java/lang/Integer", "java/lang/Math", "UntoldFactsModel", "UntoldFactsLaw"]
def zMt : List (MethodName × ByteArray × Nat × Option FieldType × Nat × Nat × Nat) := [
  (⟨"UntoldFacts", "<init>", "()V"⟩, prog_1_method_1_code, 2, none, 0, 0, 92),
  (⟨"UntoldFacts$Text", "<init>", "()V"⟩, prog_8_method_1_code, 1, none, 1, 0, 100),
  (⟨"UntoldFacts$Town", "<init>", "()V"⟩, prog_9_method_1_code, 1, none, 2, 0, 117),
  (⟨"UntoldFacts$Reader", "<init>", "(LUntoldFacts$Text;LUntoldFacts$Town;)V"⟩, prog_6_method_1_code, 3, none, 3, 2, 166),
  (⟨"UntoldFacts$Planner", "<init>", "(LUntoldFacts$Town;)V"⟩, prog_5_method_1_code, 2, none, 4, 1, 201),
  (⟨"UntoldFacts$HatCounter", "<init>", "()V"⟩, prog_4_method_1_code, 1, none, 5, 0, 236),
  (⟨"UntoldFacts$Book", "<init>", "()V"⟩, prog_2_method_1_code, 1, none, 6, 0, 247),
  (⟨"UntoldFacts$Talk", "<init>", "()V"⟩, prog_7_method_1_code, 1, none, 7, 0, 270),
  (⟨"UntoldFacts$Town", "clear", "()V"⟩, prog_9_method_2_code, 1, none, 2, 0, 306),
  (⟨"UntoldFacts$Town", "settle", "()V"⟩, prog_9_method_5_code, 3, none, 2, 0, 310),
  (⟨"UntoldFacts$Family", "havingAll", "(JI)J"⟩, prog_3_method_4_code, 6, some .long, 8, 2, 314),
  (⟨"UntoldFacts", "has", "(II)Z"⟩, prog_1_method_40_code, 2, some .boolean, 0, 2, 317),
  (⟨"UntoldFacts$Family", "having", "(JI)J"⟩, prog_3_method_2_code, 3, some .long, 8, 2, 320),
  (⟨"UntoldFacts$Family", "lacking", "(JI)J"⟩, prog_3_method_3_code, 3, some .long, 8, 2, 325),
  (⟨"UntoldFacts$Family", "holds", "(JI)Z"⟩, prog_3_method_9_code, 3, some .boolean, 8, 2, 329),
  (⟨"UntoldFacts$Town", "hatOf", "(I)I"⟩, prog_9_method_8_code, 2, some .int, 2, 1, 333),
  (⟨"UntoldFacts$Town", "weightOf", "(I)I"⟩, prog_9_method_7_code, 4, some .int, 2, 1, 337),
  (⟨"UntoldFacts$Talk", "begin", "(LUntoldFacts$Town;)V"⟩, prog_7_method_3_code, 4, none, 7, 1, 342),
  (⟨"UntoldFacts$Town", "closure", "(I)I"⟩, prog_9_method_10_code, 4, some .int, 2, 1, 346),
  (⟨"UntoldFacts$Town", "wearers", "(I)J"⟩, prog_9_method_9_code, 2, some .long, 2, 1, 351),
  (⟨"UntoldFacts", "feed", "(IJ)I"⟩, prog_1_method_2_code, 4, some .int, 0, 2, 389),
  (⟨"UntoldFacts$Text", "append", "(IJ)Z"⟩, prog_8_method_2_code, 5, some .boolean, 1, 2, 394),
  (⟨"UntoldFacts", "town", "()I"⟩, prog_1_method_3_code, 4, some .int, 0, 0, 399),
  (⟨"UntoldFacts$Reader", "read", "(LUntoldFacts$Town;)I"⟩, prog_6_method_2_code, 3, some .int, 3, 1, 403),
  (⟨"UntoldFacts$Reader", "step", "()V"⟩, prog_6_method_12_code, 1, none, 3, 0, 408),
  (⟨"UntoldFacts$Reader", "byteAt", "(I)I"⟩, prog_6_method_15_code, 2, some .int, 3, 1, 412),
  (⟨"UntoldFacts$Reader", "kindAt", "(I)I"⟩, prog_6_method_14_code, 3, some .int, 3, 1, 416),
  (⟨"UntoldFacts$Reader", "valueOfToken", "()I"⟩, prog_6_method_13_code, 3, some .int, 3, 0, 420),
  (⟨"UntoldFacts$Reader", "readClause", "()V"⟩, prog_6_method_3_code, 1, none, 3, 0, 424),
  (⟨"UntoldFacts$Reader", "isWord", "(Ljava/lang/String;)Z"⟩, prog_6_method_17_code, 3, some .boolean, 3, 1, 429),
  (⟨"java/lang/String", "length", "()I"⟩, prog_15_method_54_code, 1, some .int, 9, 0, 433),
  (⟨"java/lang/String", "coder", "()B"⟩, prog_15_method_152_code, 1, some .byte, 9, 0, 437),
  (⟨"java/lang/String", "charAt", "(I)C"⟩, prog_15_method_56_code, 2, some .char, 9, 1, 443),
  (⟨"java/lang/String", "isLatin1", "()Z"⟩, prog_15_method_154_code, 1, some .boolean, 9, 0, 447),
  (⟨"java/lang/StringLatin1", "charAt", "([BI)C"⟩, prog_16_method_2_code, 2, some .char, 10, 2, 450),
  (⟨"java/lang/String", "checkIndex", "(II)V"⟩, prog_15_method_155_code, 2, none, 9, 2, 453),
  (⟨"jdk/internal/util/Preconditions", "checkIndex", "(IILjava/util/function/BiFunction;)I"⟩, prog_19_method_11_code, 3, some .int, 11, 3, 458),
  (⟨"UntoldFacts$Reader", "readHats", "()V"⟩, prog_6_method_4_code, 2, none, 3, 0, 481),
  (⟨"UntoldFacts$Reader", "fail", "(I)V"⟩, prog_6_method_10_code, 2, none, 3, 1, 485),
  (⟨"UntoldFacts$Reader", "failAt", "(II)V"⟩, prog_6_method_11_code, 3, none, 3, 2, 489),
  (⟨"UntoldFacts$Reader", "readNumber", "(II)I"⟩, prog_6_method_8_code, 4, some .int, 3, 2, 493),
  (⟨"UntoldFacts$Reader", "readEnd", "()V"⟩, prog_6_method_9_code, 1, none, 3, 0, 497),
  (⟨"UntoldFacts$Reader", "isSign", "(C)Z"⟩, prog_6_method_16_code, 2, some .boolean, 3, 1, 501),
  (⟨"UntoldFacts$Reader", "readFact", "()V"⟩, prog_6_method_5_code, 3, none, 3, 0, 506),
  (⟨"UntoldFacts$Reader", "readList", "()I"⟩, prog_6_method_7_code, 6, some .int, 3, 0, 511),
  (⟨"UntoldFacts$Town", "addFact", "(II)V"⟩, prog_9_method_3_code, 3, none, 2, 2, 516),
  (⟨"UntoldFacts$Reader", "readPerson", "()V"⟩, prog_6_method_6_code, 2, none, 3, 0, 521),
  (⟨"UntoldFacts$Town", "addPerson", "(I)V"⟩, prog_9_method_4_code, 2, none, 2, 1, 526),
  (⟨"UntoldFacts", "fault", "()I"⟩, prog_1_method_4_code, 1, some .int, 0, 0, 531),
  (⟨"UntoldFacts", "told", "(I)I"⟩, prog_1_method_5_code, 2, some .int, 0, 1, 535),
  (⟨"java/lang/Long", "bitCount", "(J)I"⟩, prog_13_method_50_code, 2, some .int, 12, 1, 538),
  (⟨"UntoldFacts", "fact", "(II)I"⟩, prog_1_method_6_code, 3, some .int, 0, 2, 545),
  (⟨"UntoldFacts", "isFact", "(I)Z"⟩, prog_1_method_33_code, 2, some .boolean, 0, 1, 549),
  (⟨"UntoldFacts$Talk", "whoKnows", "(LUntoldFacts$Town;I)I"⟩, prog_7_method_12_code, 5, some .int, 7, 2, 554),
  (⟨"UntoldFacts", "person", "(II)I"⟩, prog_1_method_7_code, 3, some .int, 0, 2, 559),
  (⟨"UntoldFacts", "isPerson", "(I)Z"⟩, prog_1_method_34_code, 2, some .boolean, 0, 1, 563),
  (⟨"UntoldFacts$Talk", "plainLack", "(LUntoldFacts$Town;I)I"⟩, prog_7_method_13_code, 3, some .int, 7, 2, 567),
  (⟨"UntoldFacts$Family", "inNone", "(JI)I"⟩, prog_3_method_8_code, 5, some .int, 8, 2, 570),
  (⟨"UntoldFacts", "closed", "(I)I"⟩, prog_1_method_8_code, 2, some .int, 0, 1, 574),
  (⟨"UntoldFacts", "isFactSet", "(I)Z"⟩, prog_1_method_36_code, 2, some .boolean, 0, 1, 578),
  (⟨"UntoldFacts", "canKnow", "(III)I"⟩, prog_1_method_9_code, 4, some .int, 0, 3, 583),
  (⟨"UntoldFacts", "areTwo", "(II)Z"⟩, prog_1_method_35_code, 3, some .boolean, 0, 2, 587),
  (⟨"UntoldFacts$Talk", "view", "(II)J"⟩, prog_7_method_5_code, 4, some .long, 7, 2, 591),
  (⟨"UntoldFacts$Family", "countOrSet", "(JI)I"⟩, prog_3_method_10_code, 5, some .int, 8, 2, 594),
  (⟨"UntoldFacts", "sure", "(III)I"⟩, prog_1_method_10_code, 4, some .int, 0, 3, 600),
  (⟨"UntoldFacts$Talk", "sureKnown", "(LUntoldFacts$Town;II)I"⟩, prog_7_method_6_code, 4, some .int, 7, 3, 604),
  (⟨"UntoldFacts$Family", "inAll", "(JI)I"⟩, prog_3_method_7_code, 5, some .int, 8, 2, 608),
  (⟨"UntoldFacts$Talk", "sureLacked", "(LUntoldFacts$Town;II)I"⟩, prog_7_method_7_code, 4, some .int, 7, 3, 613),
  (⟨"UntoldFacts", "safe", "(II)I"⟩, prog_1_method_11_code, 3, some .int, 0, 2, 617),
  (⟨"UntoldFacts$Talk", "safeFacts", "(LUntoldFacts$Town;II)I"⟩, prog_7_method_9_code, 4, some .int, 7, 3, 621),
  (⟨"UntoldFacts", "odds", "(III)I"⟩, prog_1_method_12_code, 4, some .int, 0, 3, 626),
  (⟨"UntoldFacts$Talk", "chance", "(III)I"⟩, prog_7_method_10_code, 7, some .int, 7, 3, 630),
  (⟨"UntoldFacts", "best", "(II)I"⟩, prog_1_method_13_code, 3, some .int, 0, 2, 637),
  (⟨"UntoldFacts$Talk", "bestSaying", "(LUntoldFacts$Town;II)I"⟩, prog_7_method_11_code, 7, some .int, 7, 3, 641),
  (⟨"UntoldFacts", "say", "(IIII)I"⟩, prog_1_method_14_code, 5, some .int, 0, 4, 646),
  (⟨"UntoldFacts", "isPersonSet", "(I)Z"⟩, prog_1_method_37_code, 2, some .boolean, 0, 1, 650),
  (⟨"UntoldFacts", "everybody", "()I"⟩, prog_1_method_39_code, 1, some .int, 0, 0, 654),
  (⟨"UntoldFacts$Talk", "speak", "(LUntoldFacts$Town;IIII)I"⟩, prog_7_method_14_code, 8, some .int, 7, 5, 659),
  (⟨"UntoldFacts$Talk", "show", "(LUntoldFacts$Town;IIII)V"⟩, prog_7_method_15_code, 10, none, 7, 5, 663),
  (⟨"UntoldFacts$Town", "heard", "(JIZ)J"⟩, prog_9_method_12_code, 5, some .long, 2, 3, 668),
  (⟨"UntoldFacts$Town", "learned", "(JI)J"⟩, prog_9_method_11_code, 9, some .long, 2, 2, 673),
  (⟨"UntoldFacts$Family", "put", "(JI)J"⟩, prog_3_method_6_code, 3, some .long, 8, 2, 676),
  (⟨"UntoldFacts$Talk", "note", "(IIIII)V"⟩, prog_7_method_16_code, 7, none, 7, 5, 681),
  (⟨"UntoldFacts", "silent", "(II)I"⟩, prog_1_method_15_code, 3, some .int, 0, 2, 686),
  (⟨"UntoldFacts$Talk", "holdTongue", "(LUntoldFacts$Town;II)I"⟩, prog_7_method_17_code, 9, some .int, 7, 3, 690),
  (⟨"UntoldFacts$Family", "havingNone", "(JI)J"⟩, prog_3_method_5_code, 6, some .long, 8, 2, 694),
  (⟨"UntoldFacts", "morning", "()I"⟩, prog_1_method_16_code, 1, some .int, 0, 0, 698),
  (⟨"UntoldFacts$Talk", "wake", "(LUntoldFacts$Town;)I"⟩, prog_7_method_4_code, 7, some .int, 7, 1, 702),
  (⟨"UntoldFacts", "party", "(I)I"⟩, prog_1_method_17_code, 3, some .int, 0, 1, 708),
  (⟨"UntoldFacts", "sayFirstSafe", "(I)Z"⟩, prog_1_method_18_code, 6, some .boolean, 0, 1, 712),
  (⟨"java/lang/Integer", "numberOfTrailingZeros", "(I)I"⟩, prog_12_method_48_code, 2, some .int, 13, 1, 715),
  (⟨"UntoldFacts", "plan", "(III)I"⟩, prog_1_method_19_code, 4, some .int, 0, 3, 720),
  (⟨"UntoldFacts$Planner", "find", "(LUntoldFacts$Town;LUntoldFacts$Talk;II)V"⟩, prog_5_method_2_code, 6, none, 4, 4, 724),
  (⟨"UntoldFacts$Town", "followers", "()I"⟩, prog_9_method_6_code, 3, some .int, 2, 0, 728),
  (⟨"UntoldFacts$Planner", "search", "(IIIJJ)Z"⟩, prog_5_method_4_code, 8, some .boolean, 4, 5, 733),
  (⟨"UntoldFacts$Planner", "fewestToCome", "(II)I"⟩, prog_5_method_5_code, 3, some .int, 4, 2, 737),
  (⟨"java/lang/Integer", "bitCount", "(I)I"⟩, prog_12_method_49_code, 1, some .int, 13, 1, 740),
  (⟨"UntoldFacts$Planner", "searchFrom", "(IZIIJJ)Z"⟩, prog_5_method_6_code, 17, some .boolean, 4, 6, 747),
  (⟨"UntoldFacts$Planner", "part", "(I)I"⟩, prog_5_method_3_code, 2, some .int, 4, 1, 756),
  (⟨"UntoldFacts", "hats", "(I)I"⟩, prog_1_method_20_code, 2, some .int, 0, 1, 760),
  (⟨"UntoldFacts$HatCounter", "least", "(LUntoldFacts$Town;I)I"⟩, prog_4_method_2_code, 4, some .int, 5, 2, 764),
  (⟨"UntoldFacts$HatCounter", "findDifferences", "(LUntoldFacts$Town;I)V"⟩, prog_4_method_3_code, 4, none, 5, 2, 768),
  (⟨"UntoldFacts$HatCounter", "findDifferencesTo", "(LUntoldFacts$Town;II)V"⟩, prog_4_method_4_code, 7, none, 5, 3, 773),
  (⟨"java/lang/Math", "abs", "(I)I"⟩, prog_14_method_59_code, 1, some .int, 14, 1, 778),
  (⟨"UntoldFacts$HatCounter", "tellsAll", "(I)Z"⟩, prog_4_method_5_code, 3, some .boolean, 5, 1, 782),
  (⟨"UntoldFacts", "common", "(III)I"⟩, prog_1_method_21_code, 4, some .int, 0, 3, 786),
  (⟨"UntoldFacts", "knew", "(II)I"⟩, prog_1_method_22_code, 3, some .int, 0, 2, 790),
  (⟨"UntoldFacts$Talk", "knownAtFirst", "(LUntoldFacts$Town;I)J"⟩, prog_7_method_18_code, 8, some .long, 7, 2, 794),
  (⟨"UntoldFacts$Talk", "fitsLog", "(LUntoldFacts$Town;II)Z"⟩, prog_7_method_19_code, 9, some .boolean, 7, 3, 799),
  (⟨"UntoldFacts", "bore", "()I"⟩, prog_1_method_23_code, 5, some .int, 0, 0, 803),
  (⟨"UntoldFacts$Talk", "sureness", "(LUntoldFacts$Town;I)I"⟩, prog_7_method_8_code, 5, some .int, 7, 2, 807),
  (⟨"UntoldFacts", "log", "(II)I"⟩, prog_1_method_24_code, 3, some .int, 0, 2, 812),
  (⟨"UntoldFacts", "write", "(III)I"⟩, prog_1_method_25_code, 4, some .int, 0, 3, 816),
  (⟨"UntoldFacts$Book", "append", "(III)Z"⟩, prog_2_method_2_code, 4, some .boolean, 6, 3, 820),
  (⟨"UntoldFacts", "tear", "()I"⟩, prog_1_method_26_code, 2, some .int, 0, 0, 824),
  (⟨"UntoldFacts", "judge", "()I"⟩, prog_1_method_27_code, 1, some .int, 0, 0, 828),
  (⟨"UntoldFacts$Book", "firstWrong", "(LUntoldFacts$Town;LUntoldFacts$Talk;)I"⟩, prog_2_method_3_code, 6, some .int, 6, 2, 832),
  (⟨"UntoldFacts", "drift", "(II)I"⟩, prog_1_method_28_code, 5, some .int, 0, 2, 841),
  (⟨"UntoldFacts", "driftOnce", "(I)I"⟩, prog_1_method_29_code, 5, some .int, 0, 1, 846),
  (⟨"UntoldFacts$Talk", "draw", "(I)I"⟩, prog_7_method_20_code, 2, some .int, 7, 1, 850),
  (⟨"UntoldFacts", "seed", "(I)I"⟩, prog_1_method_30_code, 3, some .int, 0, 1, 858),
  (⟨"UntoldFacts", "keep", "(I)I"⟩, prog_1_method_31_code, 2, some .int, 0, 1, 862),
  (⟨"UntoldFacts", "isImage", "(I)Z"⟩, prog_1_method_38_code, 2, some .boolean, 0, 1, 866),
  (⟨"UntoldFacts$Talk", "copyFrom", "(LUntoldFacts$Talk;)V"⟩, prog_7_method_2_code, 2, none, 7, 1, 870),
  (⟨"UntoldFacts", "goBack", "(I)I"⟩, prog_1_method_32_code, 2, some .int, 0, 1, 875),
  (⟨"UntoldFactsModel", "<init>", "()V"⟩, prog_11_method_1_code, 1, none, 15, 0, 880),
  (⟨"UntoldFactsModel", "findClosed", "()V"⟩, prog_11_method_10_code, 5, none, 15, 0, 885),
  (⟨"UntoldFactsModel", "begin", "()V"⟩, prog_11_method_13_code, 2, none, 15, 0, 889),
  (⟨"UntoldFactsModel", "hatOf", "(II)I"⟩, prog_11_method_11_code, 5, some .int, 15, 2, 893),
  (⟨"UntoldFactsModel", "has", "(II)Z"⟩, prog_11_method_4_code, 2, some .boolean, 15, 2, 896),
  (⟨"UntoldFactsModel", "withHat", "(I)J"⟩, prog_11_method_12_code, 5, some .long, 15, 1, 900),
  (⟨"UntoldFactsModel", "feed", "(IJ)I"⟩, prog_11_method_14_code, 5, some .int, 15, 2, 1034),
  (⟨"UntoldFactsModel", "in", "(JJJ)Z"⟩, prog_11_method_3_code, 6, some .boolean, 15, 3, 1038),
  (⟨"UntoldFactsModel", "town", "()I"⟩, prog_11_method_25_code, 3, some .int, 15, 0, 1045),
  (⟨"UntoldFactsModel", "here", "()I"⟩, prog_11_method_15_code, 1, some .int, 15, 0, 1049),
  (⟨"UntoldFactsModel", "takeClause", "()I"⟩, prog_11_method_24_code, 3, some .int, 15, 0, 1053),
  (⟨"UntoldFactsModel", "readWord", "()V"⟩, prog_11_method_17_code, 2, none, 15, 0, 1057),
  (⟨"UntoldFactsModel", "code", "(IIII)J"⟩, prog_11_method_18_code, 4, some .long, 15, 4, 1066),
  (⟨"UntoldFactsModel", "longer", "(JI)J"⟩, prog_11_method_19_code, 3, some .long, 15, 2, 1069),
  (⟨"UntoldFactsModel", "fails", "(II)I"⟩, prog_11_method_16_code, 3, some .int, 15, 2, 1073),
  (⟨"UntoldFactsModel", "takeNumber", "(II)I"⟩, prog_11_method_20_code, 4, some .int, 15, 2, 1077),
  (⟨"UntoldFactsModel", "takeFact", "()I"⟩, prog_11_method_22_code, 3, some .int, 15, 0, 1083),
  (⟨"UntoldFactsModel", "takeSet", "([III)I"⟩, prog_11_method_21_code, 6, some .int, 15, 3, 1087),
  (⟨"UntoldFactsModel", "takePerson", "()I"⟩, prog_11_method_23_code, 3, some .int, 15, 0, 1091),
  (⟨"UntoldFactsModel", "fault", "()I"⟩, prog_11_method_26_code, 1, some .int, 15, 0, 1095),
  (⟨"UntoldFactsModel", "told", "(I)I"⟩, prog_11_method_27_code, 2, some .int, 15, 1, 1099),
  (⟨"UntoldFactsModel", "bits", "(J)I"⟩, prog_11_method_5_code, 4, some .int, 15, 1, 1102),
  (⟨"UntoldFactsModel", "fact", "(II)I"⟩, prog_11_method_29_code, 3, some .int, 15, 2, 1106),
  (⟨"UntoldFactsModel", "isFact", "(I)Z"⟩, prog_11_method_6_code, 2, some .boolean, 15, 1, 1110),
  (⟨"UntoldFactsModel", "knowers", "(I)I"⟩, prog_11_method_28_code, 4, some .int, 15, 1, 1115),
  (⟨"UntoldFactsModel", "person", "(II)I"⟩, prog_11_method_33_code, 3, some .int, 15, 2, 1119),
  (⟨"UntoldFactsModel", "isPerson", "(I)Z"⟩, prog_11_method_7_code, 2, some .boolean, 15, 1, 1123),
  (⟨"UntoldFactsModel", "plainLack", "(I)I"⟩, prog_11_method_32_code, 2, some .int, 15, 1, 1127),
  (⟨"UntoldFactsModel", "inNone", "(J)I"⟩, prog_11_method_30_code, 5, some .int, 15, 1, 1131),
  (⟨"UntoldFactsModel", "closed", "(I)I"⟩, prog_11_method_34_code, 2, some .int, 15, 1, 1135),
  (⟨"UntoldFactsModel", "isSet", "(I)Z"⟩, prog_11_method_9_code, 2, some .boolean, 15, 1, 1139),
  (⟨"UntoldFactsModel", "canKnow", "(III)I"⟩, prog_11_method_36_code, 4, some .int, 15, 3, 1143),
  (⟨"UntoldFactsModel", "areTwo", "(II)Z"⟩, prog_11_method_8_code, 3, some .boolean, 15, 2, 1147),
  (⟨"UntoldFactsModel", "pick", "(JI)I"⟩, prog_11_method_35_code, 6, some .int, 15, 2, 1151),
  (⟨"UntoldFactsModel", "sure", "(III)I"⟩, prog_11_method_40_code, 4, some .int, 15, 3, 1155),
  (⟨"UntoldFactsModel", "sureKnows", "(II)I"⟩, prog_11_method_38_code, 3, some .int, 15, 2, 1159),
  (⟨"UntoldFactsModel", "inAll", "(J)I"⟩, prog_11_method_31_code, 5, some .int, 15, 1, 1163),
  (⟨"UntoldFactsModel", "sureOf", "(IJ)I"⟩, prog_11_method_37_code, 3, some .int, 15, 2, 1166),
  (⟨"UntoldFactsModel", "sureLacks", "(II)I"⟩, prog_11_method_39_code, 3, some .int, 15, 2, 1170),
  (⟨"UntoldFactsModel", "safe", "(II)I"⟩, prog_11_method_42_code, 3, some .int, 15, 2, 1174),
  (⟨"UntoldFactsModel", "safeOf", "(II)I"⟩, prog_11_method_41_code, 3, some .int, 15, 2, 1178),
  (⟨"UntoldFactsModel", "odds", "(III)I"⟩, prog_11_method_46_code, 4, some .int, 15, 3, 1182),
  (⟨"UntoldFactsModel", "oddsOf", "(III)I"⟩, prog_11_method_45_code, 6, some .int, 15, 3, 1186),
  (⟨"UntoldFactsModel", "those", "(JIZ)J"⟩, prog_11_method_43_code, 8, some .long, 15, 3, 1191),
  (⟨"UntoldFactsModel", "best", "(II)I"⟩, prog_11_method_48_code, 3, some .int, 15, 2, 1195),
  (⟨"UntoldFactsModel", "bestOf", "(II)I"⟩, prog_11_method_47_code, 5, some .int, 15, 2, 1199),
  (⟨"UntoldFactsModel", "say", "(IIII)I"⟩, prog_11_method_50_code, 5, some .int, 15, 4, 1203),
  (⟨"UntoldFactsModel", "sayNow", "(IIII)Z"⟩, prog_11_method_49_code, 10, some .boolean, 15, 4, 1208),
  (⟨"UntoldFactsModel", "learnt", "(JI)J"⟩, prog_11_method_44_code, 7, some .long, 15, 2, 1212),
  (⟨"UntoldFactsModel", "silent", "(II)I"⟩, prog_11_method_52_code, 3, some .int, 15, 2, 1216),
  (⟨"UntoldFactsModel", "silentNow", "(II)I"⟩, prog_11_method_51_code, 9, some .int, 15, 2, 1220),
  (⟨"UntoldFactsModel", "morning", "()I"⟩, prog_11_method_53_code, 6, some .int, 15, 0, 1225),
  (⟨"UntoldFactsModel", "party", "(I)I"⟩, prog_11_method_55_code, 3, some .int, 15, 1, 1229),
  (⟨"UntoldFactsModel", "partyOn", "(I)Z"⟩, prog_11_method_54_code, 8, some .boolean, 15, 1, 1233),
  (⟨"UntoldFactsModel", "plan", "(III)I"⟩, prog_11_method_58_code, 6, some .int, 15, 3, 1237),
  (⟨"UntoldFactsModel", "findPlan", "(II)Z"⟩, prog_11_method_57_code, 5, some .boolean, 15, 2, 1241),
  (⟨"UntoldFactsModel", "tryAt", "(II)Z"⟩, prog_11_method_56_code, 13, some .boolean, 15, 2, 1245),
  (⟨"UntoldFactsModel", "hats", "(I)I"⟩, prog_11_method_60_code, 3, some .int, 15, 1, 1249),
  (⟨"UntoldFactsModel", "parts", "(II)Z"⟩, prog_11_method_59_code, 8, some .boolean, 15, 2, 1254),
  (⟨"UntoldFactsModel", "common", "(III)I"⟩, prog_11_method_61_code, 4, some .int, 15, 3, 1258),
  (⟨"UntoldFactsModel", "knew", "(II)I"⟩, prog_11_method_63_code, 8, some .int, 15, 2, 1262),
  (⟨"UntoldFactsModel", "couldKnow", "(II)Z"⟩, prog_11_method_62_code, 7, some .boolean, 15, 2, 1266),
  (⟨"UntoldFactsModel", "bore", "()I"⟩, prog_11_method_64_code, 6, some .int, 15, 0, 1270),
  (⟨"UntoldFactsModel", "log", "(II)I"⟩, prog_11_method_65_code, 3, some .int, 15, 2, 1274),
  (⟨"UntoldFactsModel", "write", "(III)I"⟩, prog_11_method_66_code, 4, some .int, 15, 3, 1279),
  (⟨"UntoldFactsModel", "tear", "()I"⟩, prog_11_method_67_code, 2, some .int, 15, 0, 1283),
  (⟨"UntoldFactsModel", "judge", "()I"⟩, prog_11_method_68_code, 3, some .int, 15, 0, 1287),
  (⟨"UntoldFactsModel", "drift", "(II)I"⟩, prog_11_method_70_code, 9, some .int, 15, 2, 1291),
  (⟨"UntoldFactsModel", "draw", "(I)I"⟩, prog_11_method_69_code, 2, some .int, 15, 1, 1297),
  (⟨"UntoldFactsModel", "seed", "(I)I"⟩, prog_11_method_71_code, 3, some .int, 15, 1, 1305),
  (⟨"UntoldFactsModel", "keep", "(I)I"⟩, prog_11_method_72_code, 4, some .int, 15, 1, 1309),
  (⟨"UntoldFactsModel", "goBack", "(I)I"⟩, prog_11_method_73_code, 4, some .int, 15, 1, 1313),
  (⟨"UntoldFactsLaw", "law", "([I)Z"⟩, code, 4, some .boolean, 16, 1, 0)]
/-- field links: (own, entry) to (class, field, place of the word) -/
def zFt : List ((Nat × Nat) × (Nat × Nat × Nat)) := [
  ((1, 9), (5, 0, 102)),
  ((3, 133), (5, 0, 103)),
  ((1, 13), (5, 1, 104)),
  ((0, 91), (5, 1, 105)),
  ((3, 120), (5, 1, 106)),
  ((2, 28), (6, 0, 119)),
  ((3, 85), (6, 0, 120)),
  ((0, 106), (6, 0, 121)),
  ((7, 74), (6, 0, 122)),
  ((4, 74), (6, 0, 123)),
  ((2, 32), (6, 1, 124)),
  ((7, 41), (6, 1, 125)),
  ((0, 103), (6, 1, 126)),
  ((3, 82), (6, 1, 127)),
  ((2, 35), (6, 2, 128)),
  ((3, 79), (6, 2, 129)),
  ((0, 109), (6, 2, 130)),
  ((2, 9), (6, 3, 131)),
  ((0, 130), (6, 3, 132)),
  ((2, 15), (6, 4, 133)),
  ((0, 134), (6, 4, 134)),
  ((2, 18), (6, 5, 135)),
  ((7, 46), (6, 5, 136)),
  ((2, 21), (6, 6, 137)),
  ((2, 25), (6, 7, 138)),
  ((5, 25), (6, 8, 139)),
  ((2, 42), (6, 8, 140)),
  ((0, 115), (6, 8, 141)),
  ((3, 9), (3, 0, 168)),
  ((3, 15), (3, 1, 169)),
  ((3, 24), (3, 2, 170)),
  ((3, 43), (3, 3, 171)),
  ((3, 103), (3, 4, 172)),
  ((3, 35), (3, 5, 173)),
  ((3, 117), (3, 6, 174)),
  ((3, 28), (3, 7, 175)),
  ((3, 32), (3, 8, 176)),
  ((0, 99), (3, 8, 177)),
  ((4, 11), (2, 0, 203)),
  ((4, 15), (2, 1, 204)),
  ((4, 18), (2, 2, 205)),
  ((4, 22), (2, 3, 206)),
  ((4, 26), (2, 4, 207)),
  ((4, 34), (2, 5, 208)),
  ((4, 43), (2, 6, 209)),
  ((4, 49), (2, 7, 210)),
  ((4, 46), (2, 8, 211)),
  ((0, 227), (2, 8, 212)),
  ((5, 11), (1, 0, 238)),
  ((6, 11), (0, 0, 249)),
  ((6, 15), (0, 1, 250)),
  ((6, 18), (0, 2, 251)),
  ((6, 21), (0, 3, 252)),
  ((6, 24), (0, 4, 253)),
  ((0, 100), (0, 4, 254)),
  ((7, 9), (4, 0, 272)),
  ((4, 29), (4, 0, 273)),
  ((6, 28), (4, 0, 274)),
  ((0, 144), (4, 0, 275)),
  ((7, 15), (4, 1, 276)),
  ((0, 147), (4, 1, 277)),
  ((7, 18), (4, 2, 278)),
  ((0, 150), (4, 2, 279)),
  ((7, 21), (4, 3, 280)),
  ((7, 25), (4, 4, 281)),
  ((0, 241), (4, 4, 282)),
  ((7, 34), (4, 5, 283)),
  ((0, 112), (4, 5, 284)),
  ((7, 38), (4, 6, 285)),
  ((0, 258), (4, 6, 286)),
  ((0, 10), (7, 0, 352)),
  ((0, 31), (7, 1, 353)),
  ((0, 40), (7, 2, 354)),
  ((0, 47), (7, 3, 355)),
  ((0, 54), (7, 4, 356)),
  ((0, 61), (7, 5, 357)),
  ((0, 65), (7, 6, 358)),
  ((0, 69), (7, 7, 359)),
  ((0, 19), (7, 8, 360)),
  ((0, 23), (7, 9, 361)),
  ((0, 73), (7, 10, 362)),
  ((15, 103), (8, 0, 901)),
  ((15, 7), (8, 1, 902)),
  ((15, 13), (8, 2, 903)),
  ((15, 110), (8, 3, 904)),
  ((15, 16), (8, 4, 905)),
  ((15, 19), (8, 5, 906)),
  ((15, 23), (8, 6, 907)),
  ((15, 117), (8, 7, 908)),
  ((15, 26), (8, 8, 909)),
  ((15, 29), (8, 9, 910)),
  ((15, 32), (8, 10, 911)),
  ((15, 36), (8, 11, 912)),
  ((15, 133), (8, 12, 913)),
  ((15, 39), (8, 13, 914)),
  ((15, 310), (8, 14, 915)),
  ((15, 42), (8, 15, 916)),
  ((15, 139), (8, 16, 917)),
  ((15, 45), (8, 17, 918)),
  ((15, 145), (8, 18, 919)),
  ((15, 152), (8, 19, 920)),
  ((15, 155), (8, 20, 921)),
  ((15, 180), (8, 21, 922)),
  ((15, 177), (8, 22, 923)),
  ((15, 186), (8, 23, 924)),
  ((15, 48), (8, 24, 925)),
  ((15, 51), (8, 25, 926)),
  ((15, 204), (8, 26, 927)),
  ((15, 54), (8, 27, 928)),
  ((15, 207), (8, 28, 929)),
  ((15, 57), (8, 29, 930)),
  ((15, 60), (8, 30, 931)),
  ((15, 63), (8, 31, 932)),
  ((15, 66), (8, 32, 933)),
  ((15, 69), (8, 33, 934)),
  ((15, 72), (8, 34, 935)),
  ((15, 219), (8, 35, 936)),
  ((15, 75), (8, 36, 937)),
  ((15, 78), (8, 37, 938)),
  ((15, 81), (8, 38, 939)),
  ((15, 84), (8, 39, 940)),
  ((15, 87), (8, 40, 941)),
  ((15, 90), (8, 41, 942)),
  ((15, 93), (8, 42, 943)),
  ((9, 9), (100, 0, 1315)),
  ((9, 15), (100, 1, 1316))]
/-- constants -/
def zKt : List ((Nat × Nat) × ((Int32 ⊕ Int64) × Nat)) := [
  ((2, 38), (Sum.inr (-1), 311)),
  ((8, 15), (Sum.inr (-1), 326)),
  ((0, 86), (Sum.inl (-1000000002), 390)),
  ((0, 94), (Sum.inl (-1000000004), 395)),
  ((12, 314), (Sum.inr (6148914691236517205), 539)),
  ((12, 316), (Sum.inr (3689348814741910323), 540)),
  ((12, 318), (Sum.inr (1085102592571150095), 541)),
  ((0, 129), (Sum.inl (-1000000001), 550)),
  ((7, 100), (Sum.inl (1000000), 633)),
  ((0, 204), (Sum.inl (-1000000003), 682)),
  ((13, 264), (Sum.inl (65536), 716)),
  ((13, 265), (Sum.inl (1431655765), 741)),
  ((13, 266), (Sum.inl (858993459), 742)),
  ((13, 267), (Sum.inl (252645135), 743)),
  ((0, 251), (Sum.inl (1000000), 842)),
  ((7, 142), (Sum.inr (1103515245), 851)),
  ((7, 144), (Sum.inr (12345), 852)),
  ((7, 146), (Sum.inr (2147483647), 853)),
  ((7, 148), (Sum.inl (65536), 854)),
  ((15, 136), (Sum.inr (8), 1035)),
  ((15, 138), (Sum.inl (-1000000002), 1039)),
  ((15, 142), (Sum.inl (-1000000004), 1040)),
  ((15, 143), (Sum.inr (255), 1041)),
  ((15, 158), (Sum.inr (97), 1058)),
  ((15, 160), (Sum.inr (122), 1059)),
  ((15, 162), (Sum.inr (10000000000000), 1060)),
  ((15, 164), (Sum.inr (20000000000000), 1061)),
  ((15, 166), (Sum.inr (27), 1062)),
  ((15, 168), (Sum.inr (96), 1063)),
  ((15, 170), (Sum.inr (48), 1078)),
  ((15, 172), (Sum.inr (57), 1079)),
  ((15, 229), (Sum.inl (-1000000001), 1111)),
  ((15, 266), (Sum.inl (1000000), 1187)),
  ((15, 281), (Sum.inl (-1000000003), 1204)),
  ((15, 286), (Sum.inr (-1), 1221)),
  ((15, 300), (Sum.inr (6), 1250)),
  ((15, 308), (Sum.inr (4), 1275)),
  ((15, 320), (Sum.inr (99), 1292)),
  ((15, 322), (Sum.inr (1000000), 1293)),
  ((15, 313), (Sum.inr (1103515245), 1298)),
  ((15, 315), (Sum.inr (12345), 1299)),
  ((15, 317), (Sum.inr (2147483648), 1300)),
  ((15, 319), (Sum.inl (65536), 1301)),
  ((16, 13), (Sum.inr (4294967295), 1314))]
/-- class links -/
def zLt : List ((Nat × Nat) × (Nat × Nat × Nat × Nat)) := [
  ((16, 7), (7, 88, 89, 70)),
  ((0, 7), (5, 96, 97, 71)),
  ((0, 16), (6, 113, 114, 72)),
  ((0, 26), (3, 162, 163, 73)),
  ((0, 35), (2, 197, 198, 74)),
  ((0, 44), (1, 232, 233, 75)),
  ((0, 51), (0, 243, 244, 76)),
  ((0, 58), (4, 266, 267, 77)),
  ((16, 10), (8, 876, 877, 79))]
/-- method links: kind (0 virtual, 1 static, 2 constructor, 3 static of a nest mate), method, places of words -/
def zCt : List ((Nat × Nat) × (Nat × Nat × Nat × Nat × Nat × Nat)) := [
  ((16, 9), (2, 0, 90, 91, 70, 0)),
  ((0, 9), (2, 1, 98, 99, 71, 0)),
  ((0, 18), (2, 2, 115, 116, 72, 0)),
  ((0, 28), (2, 3, 164, 165, 73, 0)),
  ((0, 37), (2, 4, 199, 200, 74, 0)),
  ((0, 46), (2, 5, 234, 235, 75, 0)),
  ((0, 53), (2, 6, 245, 246, 76, 0)),
  ((0, 60), (2, 7, 268, 269, 77, 0)),
  ((0, 77), (0, 8, 303, 304, 72, 305)),
  ((0, 80), (0, 9, 307, 308, 72, 309)),
  ((2, 46), (1, 10, 312, 313, 78, 0)),
  ((8, 17), (3, 11, 315, 316, 70, 0)),
  ((8, 21), (1, 12, 318, 319, 78, 0)),
  ((2, 50), (1, 13, 323, 324, 78, 0)),
  ((2, 53), (1, 14, 327, 328, 78, 0)),
  ((2, 57), (0, 15, 330, 331, 72, 332)),
  ((2, 65), (0, 16, 334, 335, 72, 336)),
  ((2, 61), (3, 11, 338, 316, 70, 0)),
  ((0, 83), (0, 17, 339, 340, 77, 341)),
  ((7, 49), (0, 18, 343, 344, 72, 345)),
  ((7, 53), (0, 15, 347, 331, 72, 332)),
  ((7, 56), (0, 19, 348, 349, 72, 350)),
  ((16, 15), (0, 20, 386, 387, 70, 388)),
  ((0, 87), (0, 21, 391, 392, 71, 393)),
  ((16, 20), (0, 22, 396, 397, 70, 398)),
  ((0, 95), (0, 23, 400, 401, 73, 402)),
  ((3, 19), (0, 8, 404, 304, 72, 305)),
  ((3, 38), (0, 24, 405, 407, 73, 0)),
  ((3, 123), (0, 25, 409, 411, 73, 1)),
  ((3, 127), (0, 26, 413, 415, 73, 2)),
  ((3, 130), (0, 27, 417, 419, 73, 3)),
  ((3, 46), (0, 28, 421, 423, 73, 4)),
  ((3, 51), (0, 29, 426, 428, 73, 5)),
  ((3, 137), (0, 30, 430, 431, 80, 432)),
  ((9, 335), (0, 31, 434, 435, 80, 436)),
  ((3, 141), (0, 32, 440, 441, 80, 442)),
  ((9, 492), (0, 33, 444, 445, 80, 446)),
  ((9, 495), (1, 34, 448, 449, 81, 0)),
  ((10, 9), (1, 35, 451, 452, 80, 0)),
  ((9, 1059), (1, 36, 456, 457, 82, 0)),
  ((3, 55), (0, 37, 478, 480, 73, 6)),
  ((3, 68), (0, 38, 482, 484, 73, 7)),
  ((3, 110), (0, 39, 486, 488, 73, 8)),
  ((3, 72), (0, 40, 490, 492, 73, 9)),
  ((3, 76), (0, 41, 494, 496, 73, 10)),
  ((3, 113), (0, 42, 498, 500, 73, 11)),
  ((3, 60), (0, 43, 503, 505, 73, 12)),
  ((3, 90), (0, 44, 508, 510, 73, 13)),
  ((3, 106), (3, 11, 512, 316, 70, 0)),
  ((3, 94), (0, 45, 513, 514, 72, 515)),
  ((3, 65), (0, 46, 518, 520, 73, 14)),
  ((3, 100), (0, 47, 523, 524, 72, 525)),
  ((16, 25), (0, 48, 528, 529, 70, 530)),
  ((16, 29), (0, 49, 532, 533, 70, 534)),
  ((0, 119), (1, 50, 536, 537, 84, 0)),
  ((16, 34), (0, 51, 542, 543, 70, 544)),
  ((0, 125), (0, 52, 546, 548, 70, 15)),
  ((0, 137), (0, 53, 551, 552, 77, 553)),
  ((7, 101), (3, 11, 555, 316, 70, 0)),
  ((16, 39), (0, 54, 556, 557, 70, 558)),
  ((0, 141), (0, 55, 560, 562, 70, 16)),
  ((0, 153), (0, 56, 564, 565, 77, 566)),
  ((7, 81), (1, 57, 568, 569, 78, 0)),
  ((16, 43), (0, 58, 571, 572, 70, 573)),
  ((0, 156), (0, 59, 575, 577, 70, 17)),
  ((0, 159), (0, 18, 579, 344, 72, 345)),
  ((16, 47), (0, 60, 580, 581, 70, 582)),
  ((0, 163), (0, 61, 584, 586, 70, 18)),
  ((0, 167), (0, 62, 588, 589, 77, 590)),
  ((0, 171), (1, 63, 592, 593, 78, 0)),
  ((8, 28), (1, 50, 595, 537, 84, 0)),
  ((8, 34), (1, 14, 596, 328, 78, 0)),
  ((16, 52), (0, 64, 597, 598, 70, 599)),
  ((0, 177), (0, 65, 601, 602, 77, 603)),
  ((7, 70), (0, 62, 605, 589, 77, 590)),
  ((7, 77), (1, 66, 606, 607, 78, 0)),
  ((8, 25), (1, 13, 609, 324, 78, 0)),
  ((0, 181), (0, 67, 610, 611, 77, 612)),
  ((16, 56), (0, 68, 614, 615, 70, 616)),
  ((0, 184), (0, 69, 618, 619, 77, 620)),
  ((7, 89), (0, 67, 622, 611, 77, 612)),
  ((16, 60), (0, 70, 623, 624, 70, 625)),
  ((0, 187), (0, 71, 627, 628, 77, 629)),
  ((7, 92), (1, 50, 631, 537, 84, 0)),
  ((7, 97), (1, 13, 632, 324, 78, 0)),
  ((16, 64), (0, 72, 634, 635, 70, 636)),
  ((0, 191), (0, 73, 638, 639, 77, 640)),
  ((7, 105), (0, 71, 642, 628, 77, 629)),
  ((16, 68), (0, 74, 643, 644, 70, 645)),
  ((0, 194), (0, 75, 647, 649, 70, 19)),
  ((0, 214), (0, 76, 651, 653, 70, 20)),
  ((0, 197), (1, 11, 655, 316, 70, 0)),
  ((0, 200), (0, 77, 656, 657, 77, 658)),
  ((7, 109), (0, 78, 660, 662, 77, 21)),
  ((7, 117), (1, 12, 664, 319, 78, 0)),
  ((7, 120), (0, 79, 665, 666, 72, 667)),
  ((2, 71), (1, 12, 669, 319, 78, 0)),
  ((2, 74), (0, 80, 670, 671, 72, 672)),
  ((2, 68), (1, 81, 674, 675, 78, 0)),
  ((7, 124), (0, 80, 677, 671, 72, 672)),
  ((7, 113), (0, 82, 678, 680, 77, 22)),
  ((16, 73), (0, 83, 683, 684, 70, 685)),
  ((0, 205), (0, 84, 687, 688, 77, 689)),
  ((7, 127), (0, 56, 691, 565, 77, 566)),
  ((7, 131), (1, 85, 692, 693, 78, 0)),
  ((16, 77), (0, 86, 695, 696, 70, 697)),
  ((0, 208), (0, 87, 699, 700, 77, 701)),
  ((7, 60), (0, 65, 703, 602, 77, 603)),
  ((7, 64), (1, 10, 704, 313, 78, 0)),
  ((16, 81), (0, 88, 705, 706, 70, 707)),
  ((0, 211), (0, 89, 709, 711, 70, 23)),
  ((0, 218), (1, 90, 713, 714, 85, 0)),
  ((16, 85), (0, 91, 717, 718, 70, 719)),
  ((0, 223), (0, 92, 721, 722, 74, 723)),
  ((4, 37), (0, 93, 725, 726, 72, 727)),
  ((4, 52), (0, 62, 729, 589, 77, 590)),
  ((4, 56), (0, 94, 730, 732, 74, 24)),
  ((4, 60), (0, 95, 734, 736, 74, 25)),
  ((4, 68), (1, 96, 738, 739, 85, 0)),
  ((4, 64), (0, 97, 744, 746, 74, 26)),
  ((4, 77), (1, 57, 748, 569, 78, 0)),
  ((4, 83), (3, 11, 749, 316, 70, 0)),
  ((4, 87), (0, 18, 750, 344, 72, 345)),
  ((4, 90), (0, 79, 751, 666, 72, 667)),
  ((4, 94), (1, 12, 752, 319, 78, 0)),
  ((0, 228), (0, 98, 753, 754, 74, 755)),
  ((16, 89), (0, 99, 757, 758, 70, 759)),
  ((0, 231), (0, 100, 761, 762, 75, 763)),
  ((5, 15), (0, 101, 765, 767, 75, 27)),
  ((5, 31), (1, 14, 769, 328, 78, 0)),
  ((5, 35), (0, 102, 770, 772, 75, 28)),
  ((5, 39), (0, 16, 774, 335, 72, 336)),
  ((5, 43), (1, 96, 775, 739, 85, 0)),
  ((5, 48), (1, 103, 776, 777, 86, 0)),
  ((5, 19), (0, 104, 779, 781, 75, 29)),
  ((16, 93), (0, 105, 783, 784, 70, 785)),
  ((16, 97), (0, 106, 787, 788, 70, 789)),
  ((0, 234), (0, 107, 791, 792, 77, 793)),
  ((7, 134), (1, 14, 795, 328, 78, 0)),
  ((7, 138), (0, 108, 796, 798, 77, 30)),
  ((16, 101), (0, 109, 800, 801, 70, 802)),
  ((0, 238), (0, 110, 804, 805, 77, 806)),
  ((7, 84), (1, 96, 808, 739, 85, 0)),
  ((16, 105), (0, 111, 809, 810, 70, 811)),
  ((16, 109), (0, 112, 813, 814, 70, 815)),
  ((0, 244), (0, 113, 817, 818, 76, 819)),
  ((16, 113), (0, 114, 821, 822, 70, 823)),
  ((16, 117), (0, 115, 825, 826, 70, 827)),
  ((0, 247), (0, 116, 829, 830, 76, 831)),
  ((6, 37), (3, 11, 836, 316, 70, 0)),
  ((6, 41), (0, 18, 837, 344, 72, 345)),
  ((16, 121), (0, 117, 838, 839, 70, 840)),
  ((0, 252), (0, 118, 843, 845, 70, 31)),
  ((0, 255), (0, 119, 847, 848, 77, 849)),
  ((16, 125), (0, 120, 855, 856, 70, 857)),
  ((16, 129), (0, 121, 859, 860, 70, 861)),
  ((0, 261), (0, 122, 863, 865, 70, 32)),
  ((0, 264), (0, 123, 867, 868, 77, 869)),
  ((16, 133), (0, 124, 872, 873, 70, 874)),
  ((16, 12), (2, 125, 878, 879, 79, 0)),
  ((15, 97), (0, 126, 882, 884, 79, 33)),
  ((15, 100), (0, 127, 886, 888, 79, 34)),
  ((15, 125), (0, 128, 890, 892, 79, 35)),
  ((15, 121), (1, 129, 894, 895, 79, 0)),
  ((15, 129), (0, 130, 897, 899, 79, 36)),
  ((16, 19), (0, 131, 1031, 1032, 79, 1033)),
  ((15, 106), (1, 132, 1036, 1037, 79, 0)),
  ((16, 24), (0, 133, 1042, 1043, 79, 1044)),
  ((15, 148), (0, 134, 1046, 1048, 79, 37)),
  ((15, 216), (0, 135, 1050, 1052, 79, 38)),
  ((15, 189), (0, 136, 1054, 1056, 79, 39)),
  ((15, 192), (1, 137, 1064, 1065, 79, 0)),
  ((15, 196), (1, 138, 1067, 1068, 79, 0)),
  ((15, 174), (0, 139, 1070, 1072, 79, 40)),
  ((15, 183), (0, 140, 1074, 1076, 79, 41)),
  ((15, 210), (0, 141, 1080, 1082, 79, 42)),
  ((15, 200), (0, 142, 1084, 1086, 79, 43)),
  ((15, 213), (0, 143, 1088, 1090, 79, 44)),
  ((16, 28), (0, 144, 1092, 1093, 79, 1094)),
  ((16, 33), (0, 145, 1096, 1097, 79, 1098)),
  ((15, 222), (1, 146, 1100, 1101, 79, 0)),
  ((16, 38), (0, 147, 1103, 1104, 79, 1105)),
  ((15, 226), (0, 148, 1107, 1109, 79, 45)),
  ((15, 230), (0, 149, 1112, 1114, 79, 46)),
  ((16, 42), (0, 150, 1116, 1117, 79, 1118)),
  ((15, 113), (0, 151, 1120, 1122, 79, 47)),
  ((15, 237), (0, 152, 1124, 1126, 79, 48)),
  ((15, 234), (0, 153, 1128, 1130, 79, 49)),
  ((16, 46), (0, 154, 1132, 1133, 79, 1134)),
  ((15, 240), (0, 155, 1136, 1138, 79, 50)),
  ((16, 51), (0, 156, 1140, 1141, 79, 1142)),
  ((15, 243), (0, 157, 1144, 1146, 79, 51)),
  ((15, 246), (0, 158, 1148, 1150, 79, 52)),
  ((16, 55), (0, 159, 1152, 1153, 79, 1154)),
  ((15, 257), (0, 160, 1156, 1158, 79, 53)),
  ((15, 250), (0, 161, 1160, 1162, 79, 54)),
  ((15, 253), (1, 162, 1164, 1165, 79, 0)),
  ((15, 260), (0, 163, 1167, 1169, 79, 55)),
  ((16, 59), (0, 164, 1171, 1172, 79, 1173)),
  ((15, 263), (0, 165, 1175, 1177, 79, 56)),
  ((16, 63), (0, 166, 1179, 1180, 79, 1181)),
  ((15, 271), (0, 167, 1183, 1185, 79, 57)),
  ((15, 267), (0, 168, 1188, 1190, 79, 58)),
  ((16, 67), (0, 169, 1192, 1193, 79, 1194)),
  ((15, 275), (0, 170, 1196, 1198, 79, 59)),
  ((16, 72), (0, 171, 1200, 1201, 79, 1202)),
  ((15, 282), (0, 172, 1205, 1207, 79, 60)),
  ((15, 278), (0, 173, 1209, 1211, 79, 61)),
  ((16, 76), (0, 174, 1213, 1214, 79, 1215)),
  ((15, 288), (0, 175, 1217, 1219, 79, 62)),
  ((16, 80), (0, 176, 1222, 1223, 79, 1224)),
  ((16, 84), (0, 177, 1226, 1227, 79, 1228)),
  ((15, 291), (0, 178, 1230, 1232, 79, 63)),
  ((16, 88), (0, 179, 1234, 1235, 79, 1236)),
  ((15, 297), (0, 180, 1238, 1240, 79, 64)),
  ((15, 294), (0, 181, 1242, 1244, 79, 65)),
  ((16, 92), (0, 182, 1246, 1247, 79, 1248)),
  ((15, 302), (0, 183, 1251, 1253, 79, 66)),
  ((16, 96), (0, 184, 1255, 1256, 79, 1257)),
  ((16, 100), (0, 185, 1259, 1260, 79, 1261)),
  ((15, 305), (0, 186, 1263, 1265, 79, 67)),
  ((16, 104), (0, 187, 1267, 1268, 79, 1269)),
  ((16, 108), (0, 188, 1271, 1272, 79, 1273)),
  ((16, 112), (0, 189, 1276, 1277, 79, 1278)),
  ((16, 116), (0, 190, 1280, 1281, 79, 1282)),
  ((16, 120), (0, 191, 1284, 1285, 79, 1286)),
  ((16, 124), (0, 192, 1288, 1289, 79, 1290)),
  ((15, 324), (0, 193, 1294, 1296, 79, 68)),
  ((16, 128), (0, 194, 1302, 1303, 79, 1304)),
  ((16, 132), (0, 195, 1306, 1307, 79, 1308)),
  ((16, 136), (0, 196, 1310, 1311, 79, 1312))]
/-- static fields: 0 WITH, 1 COMPACT_STRINGS, 2 the formatter -/
def zSt : List ((Nat × Nat) × (Nat × Nat)) := [
  ((8, 9), (0, 321)),
  ((9, 38), (1, 438)),
  ((9, 1053), (2, 454))]
/-- String constants -/
def zTt : List ((Nat × Nat) × (String × Nat)) := [
  ((3, 49), ("hats", 0)),
  ((3, 58), ("fact", 1)),
  ((3, 88), ("follows", 2)),
  ((3, 63), ("person", 3)),
  ((3, 98), ("knows", 4))]
/-- links of Object() -/
def zOt : List ((Nat × Nat) × Nat) := [
  ((0, 1), 93),
  ((1, 1), 101),
  ((2, 3), 118),
  ((3, 3), 167),
  ((4, 3), 202),
  ((5, 3), 237),
  ((6, 3), 248),
  ((7, 3), 271),
  ((15, 1), 881)]
/-- links of arraycopy -/
def zAt : List ((Nat × Nat) × Nat) := [
  ((6, 31), 833),
  ((7, 28), 871)]
def zKL : List ((Nat × Nat) ⊕ Nat) := [.inr 7, .inr 5, .inl (0, 400), .inr 6, .inl (0, 6), .inl (0, 6), .inl (0, 5), .inl (2, 6), .inl (2, 99), .inr 6, .inl (0, 6), .inl (0, 6), .inl (0, 5), .inl (2, 6), .inl (2, 99), .inr 3, .inr 2, .inl (0, 6), .inl (0, 6), .inr 1, .inl (1, 595), .inr 0, .inl (0, 30), .inl (0, 30), .inl (0, 30), .inl (0, 5), .inr 4, .inl (0, 5), .inl (0, 5), .inl (0, 5), .inl (2, 25), .inl (0, 300), .inl (3, 2), .inr 4, .inl (0, 5), .inl (0, 5), .inl (0, 5), .inl (2, 25), .inl (0, 300), .inr 4, .inl (0, 5), .inl (0, 5), .inl (0, 5), .inl (2, 25), .inl (0, 300), .inl (1, 2), .inr 8, .inl (0, 6), .inl (0, 6), .inl (0, 5), .inl (0, 64), .inl (0, 5), .inl (0, 5), .inl (2, 25), .inl (0, 5), .inl (0, 300), .inl (0, 400), .inl (0, 6), .inl (0, 6), .inl (0, 5), .inl (0, 25), .inl (0, 7), .inl (0, 7), .inl (2, 7), .inl (2, 7), .inl (0, 7), .inl (0, 30), .inl (0, 30), .inl (0, 30), .inl (0, 5), .inl (0, 640), .inl (2, 50), .inl (1, 2)]
def zCo : List Nat := [6, 5, 4, 3, 7, 1, 2, 0, 15]
def zVF : List ((Nat × Nat) × Nat) := [((46, 42), 72), ((46, 41), 71), ((46, 40), 70), ((46, 39), 69), ((46, 38), 68), ((46, 37), 67), ((46, 36), 66), ((46, 34), 65), ((46, 33), 64), ((46, 32), 63), ((46, 31), 62), ((46, 30), 61), ((46, 29), 60), ((46, 27), 59), ((46, 25), 58), ((46, 24), 57), ((46, 15), 56), ((46, 13), 55), ((46, 11), 54), ((46, 10), 53), ((46, 9), 52), ((46, 8), 51), ((46, 6), 50), ((46, 4), 49), ((46, 2), 48), ((46, 1), 47), ((0, 7), 45), ((39, 4), 44), ((39, 3), 43), ((39, 2), 42), ((39, 1), 41), ((39, 0), 40), ((33, 4), 38), ((33, 3), 37), ((33, 2), 36), ((33, 1), 35), ((33, 0), 34), ((0, 6), 32), ((0, 5), 26), ((26, 4), 31), ((26, 3), 30), ((26, 2), 29), ((26, 1), 28), ((26, 0), 27), ((0, 4), 21), ((21, 3), 25), ((21, 2), 24), ((21, 1), 23), ((21, 0), 22), ((0, 3), 19), ((19, 0), 20), ((0, 2), 16), ((16, 1), 18), ((16, 0), 17), ((0, 1), 15), ((15, 0), 1), ((9, 7), 14), ((9, 6), 13), ((9, 5), 12), ((9, 4), 11), ((9, 3), 10), ((3, 7), 8), ((3, 6), 7), ((3, 5), 6), ((3, 4), 5), ((3, 3), 4), ((0, 0), 1), ((1, 0), 2)]
def zMkT : List (List (Nat × List Bool)) := [
  [(114, [true, true])],
  [],
  [],
  [],
  [],
  [],
  [],
  [],
  [],
  [(21, [true, true, true]), (59, [true, true, true]), (91, [true, true, true]), (112, [true, true, true]), (144, [true, true, true])],
  [(5, [false, false, true, true, false, true]), (28, [false, false, true, true, false, true])],
  [(13, [false, false])],
  [(22, [false, false, false]), (23, [false, false, false])],
  [(26, [true, false, false]), (27, [false, false, false])],
  [(15, [false, false, false])],
  [(29, [false, false]), (30, [false, false])],
  [(4, [true, true, true, true]), (29, [true, true, true, true])],
  [(2, [true, true, true, false]), (57, [true, true, true, false]), (67, [true, true, true, true])],
  [(4, [true, false, true, true]), (44, [true, false, true, true])],
  [(19, [false, false]), (20, [false, false])],
  [(11, [false, false, false, false]), (38, [false, false, false, false])],
  [(16, [false, false, false, false, false]), (21, [true, true, true, false, true])],
  [(86, [true, false, false, true])],
  [(38, [true, false, true]), (69, [true, false, false])],
  [(16, [true]), (56, [true]), (89, [true]), (92, [true]), (142, [true]), (159, [false])],
  [(27, [false, false]), (28, [false, false])],
  [(15, [false, false, false]), (41, [false, false, true]), (57, [false, false, false]), (58, [false, false, false])],
  [(7, [true, true, true]), (60, [false, true, false])],
  [(53, [false])],
  [(24, [false, false, false]), (28, [true, true, true])],
  [],
  [(14, [false])],
  [],
  [(17, [false]), (18, [false])],
  [],
  [],
  [(9, [true, true, true])],
  [(49, [false, false])],
  [],
  [(17, [false, false, false])],
  [(44, [true, false, false, true]), (49, [true, false, false, true])],
  [(14, [true])],
  [(24, [false, false]), (25, [false, false])],
  [(35, [true, false, false]), (64, [true, true, false]), (85, [false, false, false])],
  [(6, [true, true, true, true, false, false]), (65, [true, true, false, true, false, true]), (85, [true, true, false, true, false, true]), (86, [true, true, false, true, false, true]), (103, [true, false, true, true, false, false]), (111, [false, true, false, false, false, false])],
  [(39, [false, false, false])],
  [(16, [true, false]), (37, [true, false]), (57, [false, false])],
  [(28, [false, false])],
  [],
  [],
  [],
  [],
  [(19, [false, false]), (20, [false, false])],
  [(5, [true, true, true, true, true]), (35, [true, true, true, true, true])],
  [],
  [(19, [false, false]), (20, [false, false])],
  [],
  [(5, [true, false, true, true, true]), (35, [true, false, true, true, true]), (41, [false, false, false, true, false])],
  [(21, [false, false])],
  [(21, [false, false]), (22, [false, false])],
  [(27, [false, false, false, false])],
  [(25, [false, false, false]), (26, [false, false, false])],
  [(22, [true, true, true, false]), (23, [true, true, true, false]), (42, [false, false, false, false])],
  [(15, [true, false, true, true, true]), (42, [true, false, true, true, true])],
  [],
  [],
  [(5, [true, false, true, true, true]), (35, [true, false, true, true, true]), (41, [false, false, false, true, false])],
  [],
  [(27, [false, false, false])],
  [],
  [(30, [false, false, false, false]), (32, [false, false, false, false])],
  [(39, [false, false, false, false, false, false, false])],
  [(27, [false, false, false])],
  [(9, [true, true, true, true, true, true, true]), (59, [true, true, true, true, true, true, true])],
  [(26, [false, false, false, false, false]), (47, [false, false, false, false, false]), (87, [false, false, false, false, false])],
  [(16, [false, false]), (17, [false, false])],
  [],
  [(19, [true, true, true, true, true, true, false, false]), (43, [true, true, true, true, true, true, true, true]), (68, [true, true, true, true, true, true, true, true]), (91, [true, true, true, true, true, true, true, true]), (129, [false, false, false, false, false, false, true, false])],
  [(16, [true, true, true, true, true, true, true, true, false, false]), (28, [true, true, true, true, true, true, true, true, true, false]), (155, [true, true, true, true, true, true, true, true, true, false])],
  [(19, [false, false, false, true, false])],
  [(10, [true, false, false, false, true, false, true, false, false])],
  [],
  [],
  [(27, [false, false, false])],
  [],
  [(5, [false, false, true, true, false, true]), (28, [false, false, true, true, false, true])],
  [],
  [(4, [true, true, true, true, false, false, false]), (41, [true, true, true, true, true, false, false]), (57, [true, true, true, true, false, false, false]), (68, [true, true, true, true, true, false, false])],
  [(13, [true, true, true]), (33, [false, false, true])],
  [(2, [true, true, true, false, false, false]), (15, [true, true, true, true, false, false]), (50, [true, true, true, true, false, false])],
  [(34, [true, true]), (49, [true, true]), (62, [true, true]), (74, [true, true])],
  [(52, [false, false, false, false])],
  [(57, [true, false, true, true, true, true]), (119, [true, false, true, true, true, true]), (125, [false, false, false, false, false, false])],
  [(4, [true, true, true]), (27, [true, true, true])],
  [(14, [true, false, true, true, false, false, false, false]), (34, [false, false, false, false, false, false, false, false]), (82, [false, false, false, false, false, false, false, false]), (87, [false, false, false, false, false, false, false, false])],
  [],
  [],
  [(19, [true, true, true, true, true, true, false, true, false, true, true, false, false, false, false, false, false]), (64, [true, true, true, true, true, true, false, true, false, true, true, false, false, false, false, false, false]), (153, [true, true, true, true, true, true, false, true, false, true, true, false, false, false, false, false, false]), (162, [true, true, true, true, true, true, false, true, false, true, true, false, false, false, false, false, false])],
  [(22, [false, false]), (49, [false, false])],
  [(26, [false, false]), (28, [false, false])],
  [(8, [true, false, false, true])],
  [(2, [true, true, true, true]), (24, [true, true, true, true]), (48, [true, true, true, true])],
  [(12, [true, true, true, true, true, true, false]), (72, [true, true, true, true, true, true, false])],
  [(10, [false])],
  [(2, [true, true, true])],
  [(27, [false, false, false, false])],
  [(29, [false, false, false])],
  [(17, [true, true, true, true, false, true, false, true]), (53, [true, true, true, true, false, true, false, true])],
  [(6, [true, true, true, false, true, true, false, false, false]), (62, [true, true, true, false, true, true, true, true, false]), (82, [true, true, true, false, true, true, true, true, true]), (107, [true, true, true, false, true, true, true, false, true]), (112, [true, true, true, false, true, true, true, false, true]), (133, [true, true, true, false, true, true, true, false, false]), (153, [true, true, true, false, true, true, false, false, false]), (159, [false, false, false, false, false, false, false, false, false])],
  [(6, [true, true, true, true, false]), (42, [true, false, false, true, true]), (47, [true, true, true, true, false])],
  [(5, [true, true, true, true, true]), (48, [true, true, true, true, true])],
  [(9, [false, false, false]), (43, [false, false, false]), (44, [false, false, false])],
  [(17, [false, false, false, false]), (45, [false, false, false, false])],
  [],
  [],
  [],
  [(16, [true, true, false, true, false, false]), (80, [false, false, false, true, false, false]), (111, [false, false, false, false, false, false])],
  [(21, [false, false, false, false, false]), (43, [true, true, true, true, true])],
  [(40, [true, true, true, true, false]), (93, [true, false, true, true, false])],
  [(39, [false, false])],
  [],
  [],
  [(13, [false, false]), (14, [false, false])],
  [],
  [],
  [],
  [(7, [true, true, false, false, false]), (21, [true, true, true, true, false]), (31, [true, true, true, true, true]), (72, [true, true, false, true, true]), (73, [true, true, false, true, true]), (108, [true, true, false, false, false])],
  [(2, [true, true]), (35, [true, true]), (71, [true, true])],
  [(5, [true, true, true, true, true]), (35, [true, true, true, false, true])],
  [(14, [false, false])],
  [(5, [true, true, true, false, true]), (52, [true, true, false, false, true]), (53, [true, true, false, false, true])],
  [(35, [true, false, true, false, true])],
  [(17, [false, false, false, false, false, false]), (18, [false, false, false, false, false, false])],
  [(27, [true, true, false]), (46, [true, true, false]), (93, [true, false, false]), (98, [true, false, true]), (139, [true, false, true]), (148, [true, false, true]), (176, [true, false, true])],
  [(0, [true]), (38, [true]), (62, [false])],
  [(84, [true, false, false]), (101, [true, false, false]), (111, [true, true, false]), (150, [true, false, false]), (160, [true, true, false]), (209, [true, false, false]), (210, [true, false, true]), (233, [true, false, true])],
  [(18, [true, false]), (92, [true, false]), (108, [false, false])],
  [],
  [],
  [],
  [(42, [true, true, true, false]), (113, [true, true, true, false]), (129, [true, true, true, false]), (157, [true, false, false, false]), (170, [false, false, false, false])],
  [(91, [true, false, true])],
  [(3, [true, true, true, true, true, false]), (75, [true, true, true, true, false, false]), (92, [true, true, true, true, true, false])],
  [(64, [true, false, true])],
  [],
  [],
  [(4, [true, false, true, true])],
  [(53, [false, false, false])],
  [],
  [(4, [true, true, true, true]), (33, [true, true, false, true])],
  [],
  [],
  [],
  [(5, [true, true, false, true, true]), (34, [true, true, false, false, true])],
  [(19, [false, false])],
  [],
  [(29, [false, false, false, false])],
  [(25, [false, false, false]), (26, [false, false, false])],
  [(6, [true, true, false, true, true, true]), (40, [true, true, false, true, true, true]), (57, [false, false, false, false, false, false])],
  [(41, [false, false, false, false])],
  [],
  [(12, [true, true, false, true, true]), (41, [true, true, false, false, true])],
  [(11, [false, false, false])],
  [],
  [(20, [false, false, false])],
  [],
  [(27, [false, false, false, false]), (29, [false, false, false, false])],
  [(44, [false, false, false, false, false, false])],
  [(6, [true, true, false, true, true, true, false, true]), (40, [true, true, false, true, true, false, false, true])],
  [(20, [false, false, false])],
  [(5, [true, true, true, true, true]), (50, [true, true, true, false, true]), (55, [true, true, true, true, true]), (56, [true, true, true, false, true])],
  [(54, [false, false, false, false, false]), (91, [false, false, false, false, false])],
  [(27, [true, true, true, true, true, true, true, true, false, false]), (99, [true, true, true, true, true, true, true, true, true, false]), (141, [true, true, true, true, true, true, true, true, true, false]), (145, [true, true, true, true, true, true, true, true, true, true]), (198, [true, true, true, true, true, true, true, true, true, true]), (208, [true, true, true, true, true, true, true, true, true, true]), (215, [true, true, true, true, true, true, true, true, false, false]), (224, [true, true, true, true, true, true, false, true, false, false]), (255, [true, true, true, true, true, true, false, true, false, false]), (281, [true, true, true, true, true, true, false, true, false, false]), (305, [true, true, true, true, true, true, false, false, false, false]), (393, [true, false, false, false, false, true, false, false, false, false]), (404, [false, false, false, false, false, true, false, false, false, false])],
  [(6, [true, true, false, true, true, false, true]), (47, [true, true, false, true, false, false, true])],
  [(20, [false, false, false])],
  [(34, [true, true, true, true, true, false, true, false, true]), (68, [true, true, true, true, true, false, false, false, true])],
  [(4, [true, true, true, false, false, false]), (43, [true, true, true, false, false, false]), (44, [true, true, true, false, false, false]), (68, [true, true, true, false, false, false]), (77, [true, true, true, false, false, false]), (118, [true, false, true, true, false, false]), (135, [true, true, true, false, false, false]), (164, [true, true, true, true, false, true]), (206, [true, true, true, true, false, true])],
  [(13, [true, true, true])],
  [(2, [true, true, true, false, false, false, false, false]), (49, [true, true, true, true, true, false, false, false]), (59, [true, false, false, true, true, true, true, false])],
  [(71, [true, true, true, true, true, false]), (121, [false, false, false, true, true, false]), (132, [false, false, false, false, false, false]), (170, [false, false, false, false, false, false])],
  [(9, [true, true, true, true, false]), (38, [true, true, true, true, false]), (52, [true, true, true, true, false]), (62, [true, true, true, true, false]), (105, [true, true, true, true, false]), (134, [true, true, true, true, false]), (137, [true, true, true, true, false])],
  [(16, [true, true, false, true, false, false, false, false, false, false, false, false, false]), (38, [true, true, false, true, true, false, false, false, false, false, false, false, false]), (60, [true, true, false, true, true, true, false, false, false, false, false, false, false]), (97, [false, false, false, false, false, false, false, false, false, false, false, false, false]), (119, [true, true, false, true, true, false, true, false, false, false, false, false, false]), (162, [true, true, false, true, true, false, false, false, false, true, false, false, false]), (205, [true, true, false, true, true, false, false, false, false, true, false, true, false]), (242, [true, true, false, false, true, false, false, false, false, true, false, true, false]), (262, [true, true, false, false, true, false, false, false, false, true, false, true, false]), (282, [false, false, false, false, false, false, false, false, false, false, false, false, false])],
  [(17, [true, true, true])],
  [(5, [true, true, true, true, true, false, false, false]), (76, [true, true, true, false, true, true, true, false]), (77, [true, true, true, false, true, true, true, false]), (120, [true, true, true, false, true, false, false, false]), (125, [true, true, true, false, true, false, false, false]), (132, [false, false, false, true, false, false, false, false])],
  [(23, [false, false, false, false])],
  [(28, [true, true, true, true, false, true, false, true]), (69, [true, true, true, true, false, false, false, true]), (70, [true, true, true, true, false, false, false, true])],
  [(5, [true, true, false, true, true, false, false]), (51, [true, true, false, true, true, true, false]), (71, [true, true, false, true, true, true, false]), (104, [true, true, false, true, true, true, true]), (109, [true, true, false, true, true, true, true]), (132, [true, true, false, true, true, true, false]), (147, [true, true, false, false, true, false, false])],
  [(6, [true, true, true, true, false, false]), (20, [true, true, true, true, true, true]), (64, [true, true, true, true, false, true]), (83, [true, true, true, true, true, false]), (88, [true, true, true, true, true, false]), (100, [true, false, true, true, true, true]), (112, [true, true, false, true, false, false])],
  [(45, [false, false, false])],
  [(17, [false, false, false, false])],
  [],
  [(2, [true, true, false]), (27, [true, true, false]), (83, [false, true, false])],
  [(24, [false, false, false, false, false, false, false, false, false]), (44, [true, true, true, true, true, false, false, false, false]), (86, [true, true, true, true, true, true, false, false, false]), (142, [true, true, true, false, true, false, false, false, false]), (147, [true, true, true, true, true, true, true, false, false]), (157, [true, true, true, true, true, false, false, false, false])],
  [],
  [],
  [(21, [true, true, true, true]), (107, [true, true, true, true]), (139, [true, true, false, true])],
  [(34, [true, true, true, true]), (120, [true, true, true, true]), (152, [true, true, false, true])],
  [(18, [true, true, true, true]), (1041, [true, true, true, true])]]
end
section
/-! ===== the tables hold: each word that a row names stands in lw_tbl and is a good one ===== -/
theorem z_lk {α β : Type} [BEq α] [LawfulBEq α] : ∀ {l : List (α × β)} {a : α} {b : β}, l.lookup a = some b → (a, b) ∈ l
  | [], a, b, h => by simp at h
  | (x, y) :: l, a, b, h => by
    rw [List.lookup_cons] at h
    cases hx : (a == x) with
    | true =>
      rw [hx] at h
      have h1 : a = x := eq_of_beq hx
      have h2 : y = b := Option.some.inj h
      subst h1; subst h2
      exact List.mem_cons_self
    | false =>
      rw [hx] at h
      exact List.mem_cons_of_mem _ (z_lk h)
/-- the words that every method is given -/
def zTb : List Cond := lw_tbl.filter goodWord
def z_wd (i : Nat) (w : Cond) : Bool := decide (lw_tbl[i]? = some w) && goodWord w
theorem z_wd_in {i : Nat} {w : Cond} (h : z_wd i w = true) : w ∈ zTb := by
  unfold z_wd at h
  rw [Bool.and_eq_true, decide_eq_true_eq] at h
  exact List.mem_filter.mpr ⟨List.mem_of_getElem? h.1, h.2⟩
def zO (o : Nat) : String := zOw.getD o ""
def zY (M : Nat) : MethodName := (zMt[M]?.map (·.1)).getD ⟨"", "", ""⟩
def zBy (M : Nat) : ByteArray := (zMt[M]?.map (·.2.1)).getD ⟨#[]⟩
def zML (M : Nat) : Nat := (zMt[M]?.map (·.2.2.1)).getD 0
def zRt (M : Nat) : Option FieldType := (zMt[M]?.map (·.2.2.2.1)).getD none
def zOn (M : Nat) : Nat := (zMt[M]?.map (·.2.2.2.2.1)).getD 0
def zNp (M : Nat) : Nat := (zMt[M]?.map (·.2.2.2.2.2.1)).getD 0
def z_okM (q : MethodName × ByteArray × Nat × Option FieldType × Nat × Nat × Nat) : Bool :=
  decide (q.1.cls = zO q.2.2.2.2.1) && plainFor q.1 && decide (q.2.2.1 ≤ 40)
    && decide (q.1.cls ≠ "java/lang/invoke/MethodHandle") && decide (q.1.cls ≠ "java/lang/invoke/VarHandle") && decide ((parseMethodDescriptor q.1.desc).map (fun d => d.parameters.length) = some q.2.2.2.2.2.1)
set_option maxRecDepth 100000 in
theorem z_okMt : zMt.all z_okM = true := by decide +kernel
set_option maxRecDepth 100000 in
set_option maxHeartbeats 4000000 in
theorem z_cds : (zMt.map (fun q => lw_tbl[q.2.2.2.2.2.2]?)).dropLast = (zMt.map (fun q => some (Cond.code q.1 q.2.1 q.2.2.1 q.2.2.2.1))).dropLast := rfl
set_option maxRecDepth 100000 in
theorem z_okU : zCl.all (fun r => (u_ws r.1 r.2.1 r.2.2).all (fun w => lw_tbl.contains w && goodWord w)) = true := by decide +kernel
end
section
def z_okF (e : (Nat × Nat) × (Nat × Nat × Nat)) : Bool := match zCl[e.2.1]? with
  | some r => decide (e.2.2.1 < r.2.2) && z_wd e.2.2.2 (.fieldLink (zO e.1.1) e.1.2 (r.2.1 e.2.2.1).1 (r.2.1 e.2.2.1).2.1 (r.2.1 e.2.2.1).2.2.1)
  | none => decide (e.2.1 = 100) && (if e.2.2.1 = 0 then z_wd e.2.2.2 (.fieldLink (zO e.1.1) e.1.2 "java/lang/String" "value" "[B") else z_wd e.2.2.2 (.fieldLink (zO e.1.1) e.1.2 "java/lang/String" "coder" "B"))
set_option maxRecDepth 100000 in
theorem z_okFt : zFt.all z_okF = true := by decide +kernel
def z_okK (e : (Nat × Nat) × ((Int32 ⊕ Int64) × Nat)) : Bool := match e.2.1 with
  | .inl v => z_wd e.2.2 (.constant (zO e.1.1) e.1.2 v)
  | .inr v => z_wd e.2.2 (.constantLong (zO e.1.1) e.1.2 v)
set_option maxRecDepth 100000 in
theorem z_okKt : zKt.all z_okK = true := by decide +kernel
def z_okL (e : (Nat × Nat) × (Nat × Nat × Nat × Nat)) : Bool := match zCl[e.2.1]? with
  | some r => z_wd e.2.2.1 (.classLink (zO e.1.1) e.1.2 r.1) && z_wd e.2.2.2.1 (.instantiable r.1 r.2.2) && z_wd e.2.2.2.2 (.initialized r.1)
  | none => false
set_option maxRecDepth 100000 in
theorem z_okLt : zLt.all z_okL = true := by decide +kernel
def z_okC (e : (Nat × Nat) × (Nat × Nat × Nat × Nat × Nat × Nat)) : Bool :=
  decide (e.2.2.1 < zMt.length) && z_wd e.2.2.2.2.2.1 (.initialized (zY e.2.2.1).cls) && match e.2.1 with
  | 0 => z_wd e.2.2.2.1 (.methodLink (zO e.1.1) e.1.2 (zY e.2.2.1)) && z_wd e.2.2.2.2.1 (.instanceMethod (zY e.2.2.1)) && z_wd e.2.2.2.2.2.2 (.selects (zY e.2.2.1).cls (zY e.2.2.1) (zY e.2.2.1))
  | 1 => z_wd e.2.2.2.1 (.methodLink (zO e.1.1) e.1.2 (zY e.2.2.1)) && z_wd e.2.2.2.2.1 (.static (zY e.2.2.1))
  | 2 => z_wd e.2.2.2.1 (.methodLink (zO e.1.1) e.1.2 (zY e.2.2.1)) && z_wd e.2.2.2.2.1 (.instanceMethod (zY e.2.2.1)) && decide ((zY e.2.2.1).name = "<init>") && decide (zRt e.2.2.1 = none)
  | _ => decide (lw_tbl[e.2.2.2.1]? = some (.methodLinkNest (zO e.1.1) e.1.2 (zY e.2.2.1) "UntoldFacts")) && z_wd e.2.2.2.2.1 (.static (zY e.2.2.1))
set_option maxRecDepth 100000 in
theorem z_okCt : zCt.all z_okC = true := by decide +kernel
set_option maxRecDepth 100000 in
theorem z_okOt : zOt.all (fun e => z_wd e.2 (.methodLink (zO e.1.1) e.1.2 objectInit)) = true := by decide +kernel
set_option maxRecDepth 100000 in
theorem z_okAt : zAt.all (fun e => z_wd e.2 (.methodLink (zO e.1.1) e.1.2 arraycopyName)) = true := by decide +kernel
end
section
/-! ===== a small machine over numbered objects: what the classes' bytecode does, as a function ===== -/
abbrev zHp : Type := (Nat → Nat → Int32) × (Nat → Nat → Int64) × (Nat → Nat → Option Nat)
abbrev zSg : Type := Nat × List ((Nat × Nat) × Nat)
abbrev zSc : Type := Nat × (Nat → Int32)
abbrev zLv : Type := List (Option Value)
def zG (g : zSg) (a k : Nat) : Option Nat := g.2.lookup (a, k)
def zPI (h : zHp) (a k : Nat) (v : Int32) : zHp := (fun x y => if x = a ∧ y = k then v else h.1 x y, h.2.1, h.2.2)
def zPL (h : zHp) (a k : Nat) (v : Int64) : zHp := (h.1, fun x y => if x = a ∧ y = k then v else h.2.1 x y, h.2.2)
def zPR (h : zHp) (a k : Nat) (v : Nat) : zHp := (h.1, h.2.1, fun x y => if x = a ∧ y = k then some v else h.2.2 x y)
def zBk (h : zHp) (a : Nat) : zHp := (fun x y => if x = a then 0 else h.1 x y, fun x y => if x = a then 0 else h.2.1 x y, fun x y => if x = a then none else h.2.2 x y)
def zCI (h : zHp) (a b sp dp n : Nat) : zHp := (fun x y => if x = b then va_cpy (h.1 a) (h.1 b) sp dp n y else h.1 x y, h.2.1, h.2.2)
def zCL (h : zHp) (a b sp dp n : Nat) : zHp := (h.1, fun x y => if x = b then va_cpy (h.2.1 a) (h.2.1 b) sp dp n y else h.2.1 x y, h.2.2)
def zin (i : Int32) (n : Nat) : Bool := decide (¬ (i < 0 ∨ n ≤ i.toNatClampNeg))
def zWi (i : Nat) : Int64 := match i with
  | 0 => -6148914691236517206
  | 1 => -3689348814741910324
  | 2 => -1085102592571150096
  | 3 => -71777214294589696
  | 4 => -281470681808896
  | _ => -4294967296
def zBt : List (List Int32) := [[104, 97, 116, 115], [102, 97, 99, 116], [102, 111, 108, 108, 111, 119, 115], [112, 101, 114, 115, 111, 110], [107, 110, 111, 119, 115]]
def zLg (lv : zLv) (i : Nat) : Option Value := (lv[i]?).getD none
def z_i1 (f : Int32 → Option Value) : List Value → Option (List Value)
  | .int x :: r => (f x).map (fun v => v :: r)
  | _ => none
def z_i2 (f : Int32 → Int32 → Option Value) : List Value → Option (List Value)
  | .int y :: .int x :: r => (f x y).map (fun v => v :: r)
  | _ => none
def z_l1 (f : Int64 → Option Value) : List Value → Option (List Value)
  | .long x :: r => (f x).map (fun v => v :: r)
  | _ => none
def z_l2 (f : Int64 → Int64 → Option Value) : List Value → Option (List Value)
  | .long y :: .long x :: r => (f x y).map (fun v => v :: r)
  | _ => none
def z_li (f : Int64 → Int32 → Option Value) : List Value → Option (List Value)
  | .int y :: .long x :: r => (f x y).map (fun v => v :: r)
  | _ => none
def z_il (lv : zLv) (i : Nat) (st : List Value) : Option (List Value) := match zLg lv i with
  | some (.int x) => some (.int x :: st)
  | _ => none
def z_ll (lv : zLv) (i : Nat) (st : List Value) : Option (List Value) := match zLg lv i with
  | some (.long x) => some (.long x :: st)
  | _ => none
def z_al (lv : zLv) (i : Nat) (st : List Value) : Option (List Value) := match zLg lv i with
  | some (.ref x) => if x = 1400 then none else some (.ref x :: st)
  | _ => none
def z_dup : List Value → Option (List Value)
  | v :: r => if v.category = 1 then some (v :: v :: r) else none
  | _ => none
def z_dup2 : List Value → Option (List Value)
  | v :: w :: r => if v.category = 1 ∧ w.category = 1 then some (v :: w :: v :: w :: r) else if v.category = 2 then some (v :: v :: w :: r) else none
  | [v] => if v.category = 2 then some [v, v] else none
  | _ => none
def z_pop : List Value → Option (List Value)
  | v :: r => if v.category = 1 then some r else none
  | _ => none
def zKc (o i : Nat) : Option (Int32 ⊕ Int64) := (zKt.lookup (o, i)).map (·.1)
def zTc (o i : Nat) : Option Nat := (zTt.lookup (o, i)).map (·.2)
def zSc' (o i : Nat) : Option Nat := (zSt.lookup (o, i)).map (·.1)
def z_ci (o i : Nat) (st : List Value) : Option (List Value) := match zKc o i with
  | some (.inl v) => some (.int v :: st)
  | _ => none
def z_ct (o i : Nat) (st : List Value) : Option (List Value) := match zTc o i with
  | some j => some (.ref (1000 + j) :: st)
  | _ => none
def z_cl (o i : Nat) (st : List Value) : Option (List Value) := match zKc o i with
  | some (.inr v) => some (.long v :: st)
  | _ => none
def z_st (o i : Nat) (st : List Value) : Option (List Value) := match zSc' o i with
  | some 0 => some (.ref 1200 :: st)
  | some 1 => some (.int 1 :: st)
  | some 2 => some (.ref 1400 :: st)
  | _ => none
def zPure (o : Nat) (op : Instr) (lv : zLv) (st : List Value) : Option (List Value) :=
  match op with
  | .iconst n => some (.int (Int32.ofInt n) :: st)
  | .bipush n => some (.int (Int8.ofInt n).toInt32 :: st)
  | .sipush n => some (.int (Int16.ofInt n).toInt32 :: st)
  | .lconst n => some (.long (Int64.ofNat n.val) :: st)
  | .ldc i => (z_ci o i st).or (z_ct o i st)
  | .ldc_w i => z_ci o i st
  | .ldc2_w i => z_cl o i st
  | .getstatic i => z_st o i st
  | .iload i => z_il lv i st
  | .iload_n i => z_il lv i.val st
  | .lload i => z_ll lv i st
  | .lload_n i => z_ll lv i.val st
  | .aload i => z_al lv i st
  | .aload_n i => z_al lv i.val st
  | .dup => z_dup st
  | .dup2 => z_dup2 st
  | .pop => z_pop st
  | .iadd => z_i2 (fun x y => some (.int (x + y))) st
  | .isub => z_i2 (fun x y => some (.int (x - y))) st
  | .imul => z_i2 (fun x y => some (.int (x * y))) st
  | .idiv => z_i2 (fun x y => if y = 0 then none else some (.int (x / y))) st
  | .irem => z_i2 (fun x y => if y = 0 then none else some (.int (x - x / y * y))) st
  | .ishl => z_i2 (fun x y => some (.int (x <<< (y &&& 31)))) st
  | .ishr => z_i2 (fun x y => some (.int (x >>> (y &&& 31)))) st
  | .iushr => z_i2 (fun x y => some (.int (x.toUInt32 >>> (y.toUInt32 &&& Int32.toUInt32 31)).toInt32)) st
  | .iand => z_i2 (fun x y => some (.int (x &&& y))) st
  | .ior => z_i2 (fun x y => some (.int (x ||| y))) st
  | .ixor => z_i2 (fun x y => some (.int (x ^^^ y))) st
  | .ineg => z_i1 (fun x => some (.int (-x))) st
  | .i2l => z_i1 (fun x => some (.long x.toInt64)) st
  | .i2c => z_i1 (fun x => some (.int (x.toUInt32 % 65536).toInt32)) st
  | .l2i => z_l1 (fun x => some (.int x.toInt32)) st
  | .ladd => z_l2 (fun x y => some (.long (x + y))) st
  | .lsub => z_l2 (fun x y => some (.long (x - y))) st
  | .lmul => z_l2 (fun x y => some (.long (x * y))) st
  | .lrem => z_l2 (fun x y => if y = 0 then none else some (.long (x - x / y * y))) st
  | .land => z_l2 (fun x y => some (.long (x &&& y))) st
  | .lor => z_l2 (fun x y => some (.long (x ||| y))) st
  | .lxor => z_l2 (fun x y => some (.long (x ^^^ y))) st
  | .lshl => z_li (fun x y => some (.long (x <<< (y.toInt64 &&& 63)))) st
  | .lshr => z_li (fun x y => some (.long (x >>> (y.toInt64 &&& 63)))) st
  | .lushr => z_li (fun x y => some (.long (x.toUInt64 >>> (y.toInt64.toUInt64 &&& Int64.toUInt64 63)).toInt64)) st
  | .lcmp => z_l2 (fun x y => some (.int (lg_cmp x y))) st
  | _ => none
/-! locals -/
def zInv (lv : zLv) (i : Nat) : zLv := match i with
  | 0 => lv
  | j + 1 => match zLg lv j with
    | some (.long _) => lv.set j none
    | some (.double _) => lv.set j none
    | _ => lv
def zSto (lv : zLv) (i : Nat) (v : Value) : zLv := (zInv lv i).set i (some v)
def zStL (lv : zLv) (i : Nat) (v : Value) : zLv := ((zInv lv i).set (i + 1) none).set i (some v)
def z_is (lv : zLv) (i : Nat) : List Value → Option (zLv × List Value)
  | .int x :: r => if i < lv.length then some (zSto lv i (.int x), r) else none
  | _ => none
def z_ls (lv : zLv) (i : Nat) : List Value → Option (zLv × List Value)
  | .long x :: r => if i + 1 < lv.length then some (zStL lv i (.long x), r) else none
  | _ => none
def z_as (lv : zLv) (i : Nat) : List Value → Option (zLv × List Value)
  | .ref x :: r => if i < lv.length ∧ x ≠ 1400 then some (zSto lv i (.ref x), r) else none
  | _ => none
def z_ic (lv : zLv) (i : Nat) (n : Int) (st : List Value) : Option (zLv × List Value) := match zLg lv i with
  | some (.int x) => some (zSto lv i (.int (x + Int32.ofInt n)), st)
  | _ => none
def zLoc (op : Instr) (lv : zLv) (st : List Value) : Option (zLv × List Value) :=
  match op with
  | .istore i => z_is lv i st
  | .istore_n i => z_is lv i.val st
  | .lstore i => z_ls lv i st
  | .lstore_n i => z_ls lv i.val st
  | .astore i => z_as lv i st
  | .astore_n i => z_as lv i.val st
  | .iinc i n => z_ic lv i n st
  | _ => none
/-! branches -/
def zTg (pc : Nat) (off : Int) : Option Nat := if 0 ≤ (pc : Int) + off then some ((pc : Int) + off).toNat else none
def zC1 (c : ClassFile.Cond) (x : Int32) : Bool := match c with
  | .eq => if x = 0 then true else false
  | .ne => if x = 0 then false else true
  | .lt => if x < 0 then true else false
  | .ge => if x < 0 then false else true
  | .gt => if 0 < x then true else false
  | .le => if 0 < x then false else true
def zC2 (c : ClassFile.Cond) (x y : Int32) : Bool := match c with
  | .eq => if x = y then true else false
  | .ne => if x = y then false else true
  | .lt => if x < y then true else false
  | .ge => if x < y then false else true
  | .gt => if y < x then true else false
  | .le => if y < x then false else true
def z_b1 (pc : Nat) (c : ClassFile.Cond) (off : Int) : List Value → Option (Nat × List Value)
  | .int x :: r => (zTg pc off).map (fun t => (if zC1 c x then t else pc + 3, r))
  | _ => none
def z_b2 (pc : Nat) (c : ClassFile.Cond) (off : Int) : List Value → Option (Nat × List Value)
  | .int y :: .int x :: r => (zTg pc off).map (fun t => (if zC2 c x y then t else pc + 3, r))
  | _ => none
def z_ts (pc : Nat) (d lo hi : Int) (offs : Array Int) : List Value → Option (Nat × List Value)
  | .int x :: r => if x.toInt < lo ∨ hi < x.toInt then (zTg pc d).map (fun t => (t, r)) else match offs[(x.toInt - lo).toNat]? with
    | some o => (zTg pc o).map (fun t => (t, r))
    | none => none
  | _ => none
def z_lk' (pc : Nat) (d : Int) (ps : Array (Int × Int)) : List Value → Option (Nat × List Value)
  | .int x :: r => if (ps.toList.zip (ps.toList.drop 1)).all (fun (a, next) => a.1 < next.1) = true then (zTg pc (Op.lookupswitch.offset ps.toList d x.toInt)).map (fun t => (t, r)) else none
  | _ => none
def zBr (op : Instr) (pc : Nat) (st : List Value) : Option (Nat × List Value) :=
  match op with
  | .goto off => (zTg pc off).map (fun t => (t, st))
  | .ifCond c off => z_b1 pc c off st
  | .if_icmp c off => z_b2 pc c off st
  | .tableswitch d lo hi offs => z_ts pc d lo hi offs st
  | .lookupswitch d ps => z_lk' pc d ps st
  | _ => none
/-! returns -/
def zRk (t : Option FieldType) (r : Option Value) : Bool := match t, r with
  | none, none => true
  | some .int, some (.int _) => true
  | some .long, some (.long _) => true
  | some .boolean, some (.int x) => x == 0 || x == 1
  | some .byte, some (.int x) => x == 0
  | some .char, some (.int x) => (x.toUInt32 % 65536).toInt32 == x
  | _, _ => false
def zRet (t : Option FieldType) (op : Instr) (st : List Value) : Option (Option Value) := match op, st with
  | .ireturn, [.int x] => if zRk t (some (.int x)) then some (some (.int x)) else none
  | .lreturn, [.long x] => if zRk t (some (.long x)) then some (some (.long x)) else none
  | .return_, [] => if zRk t none then some none else none
  | _, _ => none
end
section
/-! ===== the heap's instructions ===== -/
def zKi (a : Nat) : Option ((Nat × Nat) ⊕ Nat) := zKL[a]?
def zFl (o i : Nat) : Option (Nat × Nat) := (zFt.lookup (o, i)).map (fun q => (q.1, q.2.1))
def zFc (ci k : Nat) : Option Nat := ((zFs[ci]?).getD [])[k]?
def zOb (g : zSg) (a ci : Nat) : Bool := decide (a < g.1) && decide (zKi a = some (.inr ci))
def zAr (g : zSg) (a t n : Nat) : Bool := decide (a < g.1) && decide (zKi a = some (.inl (t, n)))
def zTw (a : Nat) : Bool := a == 3 || a == 9
def zTk (a : Nat) : Bool := a == 33 || a == 39
def z_gf (g : zSg) (h : zHp) (a k : Nat) : Nat → Option Value
  | 0 => some (.int (h.1 a k))
  | 1 => some (.int (h.1 a k))
  | 2 => some (.long (h.2.1 a k))
  | 3 => match zG g a k with
    | some b => if b < 1000 then some (.ref b) else none
    | none => none
  | 4 => match h.2.2 a k with
    | some b => if zTw b then some (.ref b) else none
    | none => none
  | _ => none
def z_get (o i : Nat) (g : zSg) (h : zHp) : List Value → Option (List Value)
  | .ref a :: r => match zFl o i with
    | some (ci, k) => if ci = 100 then
        (if 1000 ≤ a ∧ a < 1005 then (if k = 0 then some (.ref (a + 100) :: r) else some (.int 0 :: r)) else none)
      else if zOb g a ci then match zFc ci k with
        | some c => (z_gf g h a k c).map (fun v => v :: r)
        | none => none
      else none
    | none => none
  | _ => none
def z_pf (ini : Nat) (ci : Nat) (g : zSg) (h : zHp) (a k : Nat) (v : Value) (c : Nat) : Option (zSg × zHp) := match c, v with
  | 0, .int x => some (g, zPI h a k x)
  | 1, .int x => if x = 0 ∨ x = 1 then some (g, zPI h a k x) else none
  | 2, .long x => some (g, zPL h a k x)
  | 3, .ref b => if b < g.1 ∧ zG g a k = none ∧ ini = ci then some ((g.1, ((a, k), b) :: g.2), h) else none
  | 4, .ref b => if b < g.1 then some (g, zPR h a k b) else none
  | _, _ => none
def z_put (ini o i : Nat) (g : zSg) (h : zHp) : List Value → Option (List Value × zSg × zHp)
  | v :: .ref a :: r => match zFl o i with
    | some (ci, k) => if zOb g a ci then match zFc ci k with
        | some c => (z_pf ini ci g h a k v c).map (fun q => (r, q.1, q.2))
        | none => none
      else none
    | none => none
  | _ => none
def zLn (a : Nat) : Option (Nat × Nat) := match zKi a with
  | some (.inl q) => some q
  | _ => none
def z_iald (sc : zSc) (g : zSg) (h : zHp) : List Value → Option (List Value)
  | .int i :: .ref a :: r => if a = 1300 then (if zin i sc.1 then some (.int (sc.2 i.toNatClampNeg) :: r) else none)
    else if a < g.1 then match zLn a with
      | some (0, n) => if zin i n then some (.int (h.1 a i.toNatClampNeg) :: r) else none
      | _ => none
    else none
  | _ => none
def z_bald (g : zSg) (h : zHp) : List Value → Option (List Value)
  | .int i :: .ref a :: r => if 1100 ≤ a ∧ a < 1105 then (if zin i (zBt.getD (a - 1100) []).length then some (.int ((zBt.getD (a - 1100) []).getD i.toNatClampNeg 0) :: r) else none)
    else if a < g.1 then match zLn a with
      | some (1, n) => if zin i n then some (.int (h.1 a i.toNatClampNeg) :: r) else none
      | _ => none
    else none
  | _ => none
def z_lald (g : zSg) (h : zHp) : List Value → Option (List Value)
  | .int i :: .ref a :: r => if a = 1200 then (if zin i 6 then some (.long (zWi i.toNatClampNeg) :: r) else none)
    else if a < g.1 then match zLn a with
      | some (2, n) => if zin i n then some (.long (h.2.1 a i.toNatClampNeg) :: r) else none
      | _ => none
    else none
  | _ => none
def z_aald (g : zSg) (h : zHp) : List Value → Option (List Value)
  | .int i :: .ref a :: r => if a < g.1 then match zLn a with
      | some (3, n) => if zin i n then match h.2.2 a i.toNatClampNeg with
          | some b => if zTk b then some (.ref b :: r) else none
          | none => none
        else none
      | _ => none
    else none
  | _ => none
def z_iast (g : zSg) (h : zHp) : List Value → Option (List Value × zSg × zHp)
  | .int x :: .int i :: .ref a :: r => if a < g.1 then match zLn a with
      | some (0, n) => if zin i n then some (r, g, zPI h a i.toNatClampNeg x) else none
      | _ => none
    else none
  | _ => none
def z_bast (g : zSg) (h : zHp) : List Value → Option (List Value × zSg × zHp)
  | .int x :: .int i :: .ref a :: r => if a < g.1 ∧ (x = 0 ∨ x = 1) then match zLn a with
      | some (1, n) => if zin i n then some (r, g, zPI h a i.toNatClampNeg x) else none
      | _ => none
    else none
  | _ => none
def z_last (g : zSg) (h : zHp) : List Value → Option (List Value × zSg × zHp)
  | .long x :: .int i :: .ref a :: r => if a < g.1 then match zLn a with
      | some (2, n) => if zin i n then some (r, g, zPL h a i.toNatClampNeg x) else none
      | _ => none
    else none
  | _ => none
def z_aast (g : zSg) (h : zHp) : List Value → Option (List Value × zSg × zHp)
  | .ref b :: .int i :: .ref a :: r => if a < g.1 ∧ zOb g b 4 = true then match zLn a with
      | some (3, n) => if zin i n then some (r, g, zPR h a i.toNatClampNeg b) else none
      | _ => none
    else none
  | _ => none
def z_alen (sc : zSc) (g : zSg) : List Value → Option (List Value)
  | .ref a :: r => if a = 1300 then some (.int (Int32.ofNat sc.1) :: r)
    else if a = 1200 then some (.int 6 :: r)
    else if 1100 ≤ a ∧ a < 1105 then some (.int (Int32.ofNat (zBt.getD (a - 1100) []).length) :: r)
    else if a < g.1 then match zLn a with
      | some (_, n) => some (.int (Int32.ofNat n) :: r)
      | _ => none
    else none
  | _ => none
def zFree (g : zSg) : Bool := decide (g.1 < 1000) && g.2.all (fun e => decide (e.1.1 < g.1) && decide (e.2 < g.1))
def zLl (o i : Nat) : Option Nat := (zLt.lookup (o, i)).map (·.1)
def z_new (o i : Nat) (st : List Value) (g : zSg) (h : zHp) : Option (List Value × zSg × zHp) := match zLl o i with
  | some ci => if zKi g.1 = some (.inr ci) ∧ zFree g = true then some (.ref g.1 :: st, (g.1 + 1, g.2), zBk h g.1) else none
  | none => none
def zAt' : ArrayType → Nat
  | .int => 0
  | .boolean => 1
  | .long => 2
  | _ => 9
def z_newa (t : ArrayType) (g : zSg) (h : zHp) : List Value → Option (List Value × zSg × zHp)
  | .int n :: r => if ¬ n < 0 ∧ zAt' t ≠ 9 ∧ n.toNatClampNeg ≤ 1000 ∧ zKi g.1 = some (.inl (zAt' t, n.toNatClampNeg)) ∧ zFree g = true then some (.ref g.1 :: r, (g.1 + 1, g.2), zBk h g.1) else none
  | _ => none
def z_newq (o i : Nat) (g : zSg) (h : zHp) : List Value → Option (List Value × zSg × zHp)
  | .int n :: r => if zLl o i = some 4 ∧ ¬ n < 0 ∧ n.toNatClampNeg ≤ 1000 ∧ zKi g.1 = some (.inl (3, n.toNatClampNeg)) ∧ zFree g = true then some (.ref g.1 :: r, (g.1 + 1, g.2), zBk h g.1) else none
  | _ => none
def z_oi (d o i : Nat) : List Value → Option (List Value)
  | .ref a :: r => if (zOt.lookup (o, i)).isSome = true ∧ a < 1000 ∧ 0 < d ∧ (r.map fun v => v.category).sum ≤ 8 then some r else none
  | _ => none
def z_cpy (d o i : Nat) (g : zSg) (h : zHp) : List Value → Option (List Value × zSg × zHp)
  | .int n :: .int dp :: .ref b :: .int sp :: .ref a :: r =>
    if (zAt.lookup (o, i)).isSome = true ∧ 0 < d ∧ a < g.1 ∧ b < g.1 ∧ (r.map fun v => v.category).sum ≤ 8 ∧ ¬ sp < 0 ∧ ¬ dp < 0 ∧ ¬ n < 0 then
      match zLn a, zLn b with
      | some (0, na), some (0, nb) => if sp.toNatClampNeg + n.toNatClampNeg ≤ na ∧ dp.toNatClampNeg + n.toNatClampNeg ≤ nb then some (r, g, zCI h a b sp.toNatClampNeg dp.toNatClampNeg n.toNatClampNeg) else none
      | some (2, na), some (2, nb) => if sp.toNatClampNeg + n.toNatClampNeg ≤ na ∧ dp.toNatClampNeg + n.toNatClampNeg ≤ nb then some (r, g, zCL h a b sp.toNatClampNeg dp.toNatClampNeg n.toNatClampNeg) else none
      | _, _ => none
    else none
  | _ => none
def zHeap (sc : zSc) (d ini o : Nat) (op : Instr) (st : List Value) (g : zSg) (h : zHp) : Option (List Value × zSg × zHp) :=
  match op with
  | .getfield i => (z_get o i g h st).map (fun s => (s, g, h))
  | .putfield i => z_put ini o i g h st
  | .iaload => (z_iald sc g h st).map (fun s => (s, g, h))
  | .baload => (z_bald g h st).map (fun s => (s, g, h))
  | .laload => (z_lald g h st).map (fun s => (s, g, h))
  | .aaload => (z_aald g h st).map (fun s => (s, g, h))
  | .iastore => z_iast g h st
  | .bastore => z_bast g h st
  | .lastore => z_last g h st
  | .aastore => z_aast g h st
  | .arraylength => (z_alen sc g st).map (fun s => (s, g, h))
  | .new i => z_new o i st g h
  | .newarray t => z_newa t g h st
  | .anewarray i => z_newq o i g h st
  | .invokespecial i => (z_oi d o i st).map (fun s => (s, g, h))
  | .invokestatic i => z_cpy d o i g h st
  | _ => none
/-! calls -/
def zCk (o i : Nat) : Option (Nat × Nat) := (zCt.lookup (o, i)).map (fun q => (q.1, q.2.1))
def zRc (g : zSg) (M : Nat) : Value → Bool
  | .ref a => if 1000 ≤ a ∧ a < 1005 then decide (zO (zOn M) = "java/lang/String") else decide (a < g.1) && (match zKi a with
    | some (.inr ci) => decide (zCo[ci]? = some (zOn M))
    | _ => false)
  | _ => false
def zCa0 (o : Nat) (op : Instr) (st : List Value) (g : zSg) : Option (Nat × List Value × List Value × Bool) := match op with
  | .invokevirtual i => match zCk o i with
    | some (0, M) => match (st.take (zNp M + 1)).reverse with
      | b :: as => if as.length = zNp M ∧ zRc g M b = true ∧ ((st.drop (zNp M + 1)).map fun v => v.category).sum ≤ 8 then some (M, b :: as, st.drop (zNp M + 1), false) else none
      | [] => none
    | _ => none
  | .invokespecial i => match zCk o i with
    | some (2, M) => match (st.take (zNp M + 1)).reverse with
      | .ref a :: as => if as.length = zNp M ∧ a < 1000 ∧ ((st.drop (zNp M + 1)).map fun v => v.category).sum ≤ 8 then some (M, .ref a :: as, st.drop (zNp M + 1), true) else none
      | _ => none
    | _ => none
  | .invokestatic i => match zCk o i with
    | some (1, M) => if (st.take (zNp M)).length = zNp M ∧ ((st.drop (zNp M)).map fun v => v.category).sum ≤ 8 then some (M, (st.take (zNp M)).reverse, st.drop (zNp M), false) else none
    | some (3, M) => if (st.take (zNp M)).length = zNp M ∧ ((st.drop (zNp M)).map fun v => v.category).sum ≤ 8 then some (M, (st.take (zNp M)).reverse, st.drop (zNp M), false) else none
    | _ => none
  | _ => none
def zExp : List Value → zLv
  | [] => []
  | .long x :: r => some (.long x) :: none :: zExp r
  | .double x :: r => some (.double x) :: none :: zExp r
  | v :: r => some v :: zExp r
def zCal (o : Nat) (op : Instr) (st : List Value) (g : zSg) : Option (Nat × List Value × List Value × Bool) := match zCa0 o op st g with
  | some q => if (zExp q.2.1).length ≤ zML q.1 then some q else none
  | none => none
def zEnt (M : Nat) (as : List Value) : zLv := zExp as ++ List.replicate (zML M - (zExp as).length) none
/-- a method of which class's making is it? (the class's number, 99 of none) -/
def zIni (M : Nat) : Nat := if (zY M).name = "<init>" then (zCo.idxOf (zOn M)) else 99
def zLk (op : Instr) (len : Nat) : Bool := match op with
  | .bipush _ | .ldc _ | .iload _ | .lload _ | .aload _ | .istore _ | .lstore _ | .astore _ | .newarray _ => len == 2
  | .sipush _ | .ldc_w _ | .ldc2_w _ | .getstatic _ | .getfield _ | .putfield _ | .invokevirtual _ | .invokespecial _ | .invokestatic _ | .goto _ | .ifCond _ _ | .if_icmp _ _ | .iinc _ _ | .new _ | .anewarray _ => len == 3
  | .tableswitch _ _ _ _ | .lookupswitch _ _ => true
  | _ => len == 1
def zMk (M pc : Nat) : Option (List Bool) := ((zMkT[M]?).getD []).lookup pc
def zMo (mq : Option (List Bool)) (lv : zLv) : zLv := match mq with
  | none => lv
  | some m => List.zipWith (fun b o => match b with | true => o | false => none) m lv
def zD (M pc : Nat) : Option (Instr × Nat × Option (List Bool)) := match decode (zBy M) pc with
  | .ok (op, len) => if zLk op len then some (op, len, zMk M pc) else none
  | .error _ => none
abbrev zNx : Type := (Nat × zLv × List Value × zSg × zHp) ⊕ (Option Value ⊕ (Nat × List Value × List Value × Bool))
def zStep (sc : zSc) (d M : Nat) (op : Instr) (len pc : Nat) (lv : zLv) (st : List Value) (g : zSg) (h : zHp) : Option zNx :=
  match zPure (zOn M) op lv st with
  | some st' => some (.inl (pc + len, lv, st', g, h))
  | none => match zLoc op lv st with
    | some (lv', st') => some (.inl (pc + len, lv', st', g, h))
    | none => match zBr op pc st with
      | some (pc', st') => some (.inl (pc', lv, st', g, h))
      | none => match zHeap sc d (zIni M) (zOn M) op st g h with
        | some (st', g', h') => some (.inl (pc + len, lv, st', g', h'))
        | none => match zRet (zRt M) op st with
          | some r => some (.inr (.inl r))
          | none => match zCal (zOn M) op st g with
            | some c => some (.inr (.inr c))
            | none => none
abbrev zRs : Type := Option Value × zSg × zHp
def zX (sc : zSc) : Nat → Nat → Nat → Nat → zLv → List Value → zSg → zHp → Option zRs
  | 0, _, _, _, _, _, _, _ => none
  | n + 1, d, M, pc, lv, st, g, h => match zD M pc with
    | none => none
    | some (op, len, mq) => match zStep sc d M op len pc (zMo mq lv) st g h with
      | none => none
      | some (.inl (pc', lv', st', g', h')) => zX sc n d M pc' lv' st' g' h'
      | some (.inr (.inl r)) => some (r, g, h)
      | some (.inr (.inr (M', as, rest, ini))) => match d with
        | 0 => none
        | d' + 1 => match zX sc n d' M' 0 (zEnt M' as) [] g h with
          | none => none
          | some (r, g', h') => if ini = true ∨ g' = g then zX sc n (d' + 1) M (pc + 3) (zMo mq lv) (r.toList ++ rest) g' h' else none
end
section
/-! ===== the machine without its count of steps ===== -/
theorem zX_mono (sc : zSc) : ∀ (n d M pc : Nat) (lv : zLv) (st : List Value) (g : zSg) (h : zHp) (z : zRs), zX sc n d M pc lv st g h = some z → zX sc (n + 1) d M pc lv st g h = some z := by
  intro n
  induction n with
  | zero => intro d M pc lv st g h z hz; simp [zX] at hz
  | succ n ih =>
    intro d M pc lv st g h z hz
    rw [zX] at hz ⊢
    cases hd : zD M pc with
    | none => rw [hd] at hz; exact hz
    | some q =>
      obtain ⟨op, len, mq⟩ := q
      rw [hd] at hz
      simp only at hz ⊢
      cases hs : zStep sc d M op len pc (zMo mq lv) st g h with
      | none => rw [hs] at hz; exact hz
      | some x =>
        rw [hs] at hz
        rcases x with ⟨pc', lv', st', g', h'⟩ | r | ⟨M', as, rest, ini⟩
        · exact ih _ _ _ _ _ _ _ _ hz
        · exact hz
        · cases d with
          | zero => exact hz
          | succ d' =>
            simp only at hz ⊢
            cases hc : zX sc n d' M' 0 (zEnt M' as) [] g h with
            | none => rw [hc] at hz; simp at hz
            | some y =>
              obtain ⟨r, g', h'⟩ := y
              rw [hc] at hz
              rw [ih _ _ _ _ _ _ _ _ hc]
              simp only at hz ⊢
              by_cases hi : ini = true ∨ g' = g
              · rw [if_pos hi] at hz ⊢
                exact ih _ _ _ _ _ _ _ _ hz
              · rw [if_neg hi] at hz
                cases hz
theorem zX_le (sc : zSc) {n k d M pc : Nat} {lv : zLv} {st : List Value} {g : zSg} {h : zHp} {z : zRs} (hz : zX sc n d M pc lv st g h = some z) (hk : n ≤ k) : zX sc k d M pc lv st g h = some z := by
  obtain ⟨j, rfl⟩ := Nat.le.dest hk
  induction j with
  | zero => exact hz
  | succ j ih => exact zX_mono sc _ _ _ _ _ _ _ _ _ (ih (by omega))
noncomputable def zE (sc : zSc) (d M pc : Nat) (lv : zLv) (st : List Value) (g : zSg) (h : zHp) : Option zRs :=
  @dite (Option zRs) (∃ n z, zX sc n d M pc lv st g h = some z) (Classical.propDecidable _) (fun hz => some (Classical.choose (Classical.choose_spec hz))) (fun _ => none)
theorem zE_iff (sc : zSc) {d M pc : Nat} {lv : zLv} {st : List Value} {g : zSg} {h : zHp} {z : zRs} : zE sc d M pc lv st g h = some z ↔ ∃ n, zX sc n d M pc lv st g h = some z := by
  unfold zE
  by_cases hz : ∃ n z, zX sc n d M pc lv st g h = some z
  · rw [dif_pos hz]
    have h1 := Classical.choose_spec (Classical.choose_spec hz)
    constructor
    · intro he
      have he := Option.some.inj he
      rw [he] at h1
      exact ⟨_, h1⟩
    · rintro ⟨n, hn⟩
      have a1 := zX_le sc h1 (Nat.le_max_left _ n)
      have a2 := zX_le sc hn (Nat.le_max_right (Classical.choose hz) n)
      rw [a1] at a2
      exact a2
  · rw [dif_neg hz]
    constructor
    · intro he; cases he
    · rintro ⟨n, hn⟩; exact absurd ⟨n, z, hn⟩ hz
/-- one step, as an equation -/
theorem zE_eq (sc : zSc) (d M pc : Nat) (lv : zLv) (st : List Value) (g : zSg) (h : zHp) : zE sc d M pc lv st g h = (match zD M pc with
    | none => none
    | some (op, len, mq) => match zStep sc d M op len pc (zMo mq lv) st g h with
      | none => none
      | some (.inl (pc', lv', st', g', h')) => zE sc d M pc' lv' st' g' h'
      | some (.inr (.inl r)) => some (r, g, h)
      | some (.inr (.inr (M', as, rest, ini))) => match d with
        | 0 => none
        | d' + 1 => match zE sc d' M' 0 (zEnt M' as) [] g h with
          | none => none
          | some (r, g', h') => if ini = true ∨ g' = g then zE sc (d' + 1) M (pc + 3) (zMo mq lv) (r.toList ++ rest) g' h' else none) := by
  apply Option.ext
  intro z
  rw [zE_iff]
  constructor
  · rintro ⟨n, hn⟩
    cases n with
    | zero => simp [zX] at hn
    | succ n =>
      rw [zX] at hn
      cases hd : zD M pc with
      | none => rw [hd] at hn; exact hn
      | some q =>
        obtain ⟨op, len, mq⟩ := q
        rw [hd] at hn
        simp only at hn ⊢
        cases hs : zStep sc d M op len pc (zMo mq lv) st g h with
        | none => rw [hs] at hn; exact hn
        | some x =>
          rw [hs] at hn
          rcases x with ⟨pc', lv', st', g', h'⟩ | r | ⟨M', as, rest, ini⟩
          · exact (zE_iff sc).mpr ⟨n, hn⟩
          · exact hn
          · cases d with
            | zero => exact hn
            | succ d' =>
              simp only at hn ⊢
              cases hc : zX sc n d' M' 0 (zEnt M' as) [] g h with
              | none => rw [hc] at hn; simp at hn
              | some y =>
                obtain ⟨r, g', h'⟩ := y
                rw [hc] at hn
                rw [(zE_iff sc).mpr ⟨n, hc⟩]
                simp only at hn ⊢
                by_cases hi : ini = true ∨ g' = g
                · rw [if_pos hi] at hn ⊢
                  exact (zE_iff sc).mpr ⟨n, hn⟩
                · rw [if_neg hi] at hn
                  cases hn
  · intro hn
    cases hd : zD M pc with
    | none => rw [hd] at hn; cases hn
    | some q =>
      obtain ⟨op, len, mq⟩ := q
      rw [hd] at hn
      simp only at hn
      cases hs : zStep sc d M op len pc (zMo mq lv) st g h with
      | none => rw [hs] at hn; cases hn
      | some x =>
        rw [hs] at hn
        rcases x with ⟨pc', lv', st', g', h'⟩ | r | ⟨M', as, rest, ini⟩
        · obtain ⟨n, hn⟩ := (zE_iff sc).mp hn
          exact ⟨n + 1, by rw [zX, hd]; simp only; rw [hs]; exact hn⟩
        · exact ⟨1, by rw [zX, hd]; simp only; rw [hs]; exact hn⟩
        · cases d with
          | zero => cases hn
          | succ d' =>
            simp only at hn
            cases hc : zE sc d' M' 0 (zEnt M' as) [] g h with
            | none => rw [hc] at hn; cases hn
            | some y =>
              obtain ⟨r, g', h'⟩ := y
              rw [hc] at hn
              simp only at hn
              by_cases hi : ini = true ∨ g' = g
              · rw [if_pos hi] at hn
                obtain ⟨n1, h1⟩ := (zE_iff sc).mp hc
                obtain ⟨n2, h2⟩ := (zE_iff sc).mp hn
                refine ⟨n1 + n2 + 1, ?_⟩
                rw [zX, hd]
                simp only
                rw [hs]
                simp only
                rw [zX_le sc h1 (show n1 ≤ n1 + n2 by omega)]
                simp only
                rw [if_pos hi]
                exact zX_le sc h2 (by omega)
              · rw [if_neg hi] at hn
                cases hn
end
section
/-! ===== the machine's picture of the heap ===== -/
def zad (B0 : Nat) (sp : Nat → Nat) (a : Nat) : Nat := if a < 1000 then B0 + a else sp a
def zTr (ad : Nat → Nat) (fq : Value) : Value → Value
  | .ref a => if a = 1400 then fq else .ref (ad a)
  | v => v
def zFv (ad : Nat → Nat) (g : zSg) (h : zHp) (a k : Nat) : Nat → Value
  | 0 => .int (h.1 a k)
  | 1 => .int (h.1 a k)
  | 2 => .long (h.2.1 a k)
  | 3 => va_rf ((zG g a k).map ad)
  | _ => va_rf ((h.2.2 a k).map ad)
def zCe (C : Nat → ClassId) (ad : Nat → Nat) (g : zSg) (h : zHp) (a : Nat) : va_E := match zKi a with
  | some (.inr ci) => .inr (ci, ((zFs[ci]?).getD []).mapIdx (fun k c => zFv ad g h a k c))
  | some (.inl (0, n)) => .inl (C 0, n, .inl (h.1 a))
  | some (.inl (1, n)) => .inl (C 1, n, .inl (h.1 a))
  | some (.inl (2, n)) => .inl (C 2, n, .inr (.inl (h.2.1 a)))
  | some (.inl (_, n)) => .inl (C 3, n, .inr (.inr (.inr (.inr (fun j => (h.2.2 a j).map ad)))))
  | none => .inr (0, [])
def zWo (C : Nat → ClassId) (ad : Nat → Nat) (g : zSg) (h : zHp) : va_W := (List.range g.1).map (fun a => (ad a, zCe C ad g h a))
def zTys (C : Nat → ClassId) : List (ClassId × FieldType) := [(C 0, .int), (C 1, .boolean), (C 2, .long), (C 3, .object "UntoldFacts$Talk")]
def zA (B0 : Nat) : Nat → Prop := fun q => B0 ≤ q
theorem zWo_get {C : Nat → ClassId} {ad : Nat → Nat} {g : zSg} {h : zHp} {a : Nat} (ha : a < g.1) : (zWo C ad g h)[a]? = some (ad a, zCe C ad g h a) := by
  unfold zWo
  rw [List.getElem?_map, List.getElem?_range ha]
  rfl
theorem zWo_none {C : Nat → ClassId} {ad : Nat → Nat} {g : zSg} {h : zHp} {a : Nat} (ha : ¬ a < g.1) : (zWo C ad g h)[a]? = none := by
  unfold zWo
  rw [List.getElem?_eq_none]
  simp
  omega
theorem zWo_some {C : Nat → ClassId} {ad : Nat → Nat} {g : zSg} {h : zHp} {a : Nat} {q : Nat × va_E} (hq : (zWo C ad g h)[a]? = some q) : a < g.1 ∧ q = (ad a, zCe C ad g h a) := by
  by_cases ha : a < g.1
  · rw [zWo_get ha] at hq
    exact ⟨ha, (Option.some.inj hq).symm⟩
  · rw [zWo_none ha] at hq
    cases hq
theorem zWo_set {C : Nat → ClassId} {ad : Nat → Nat} {g g' : zSg} {h h' : zHp} {a : Nat} {e : va_E} (ha : a < g.1) (hg : g'.1 = g.1) (he : zCe C ad g' h' a = e) (hb : ∀ b, b ≠ a → zCe C ad g' h' b = zCe C ad g h b) : (zWo C ad g h).set a (ad a, e) = zWo C ad g' h' := by
  apply List.ext_getElem?
  intro i
  by_cases hi : i < g.1
  · by_cases hia : i = a
    · subst hia
      rw [List.getElem?_set_self (by simp [zWo]; exact ha), zWo_get (by rw [hg]; exact ha), he]
    · rw [List.getElem?_set_ne (Ne.symm hia), zWo_get hi, zWo_get (by rw [hg]; exact hi), hb i hia]
  · rw [zWo_none (by rw [hg]; exact hi), List.getElem?_eq_none]
    simp [zWo]
    omega
theorem zWo_push {C : Nat → ClassId} {ad : Nat → Nat} {g : zSg} {h h' : zHp} {v : List ((Nat × Nat) × Nat)} (hb : ∀ b, b < g.1 → zCe C ad (g.1 + 1, v) h' b = zCe C ad g h b) : zWo C ad g h ++ [(ad g.1, zCe C ad (g.1 + 1, v) h' g.1)] = zWo C ad (g.1 + 1, v) h' := by
  unfold zWo
  rw [List.range_succ, List.map_append]
  congr 1
  apply List.map_congr_left
  intro a ha
  rw [hb a (List.mem_range.mp ha)]
theorem zWo_D {C : Nat → ClassId} {B0 : Nat} {sp : Nat → Nat} {g : zSg} {h : zHp} (hg : g.1 ≤ 1000) : va_D (zA B0) (zWo C (zad B0 sp) g h) := by
  refine ⟨fun i j x y hi hj hxy => ?_, fun k q hk => ?_⟩
  · obtain ⟨h1, rfl⟩ := zWo_some hi
    obtain ⟨h2, rfl⟩ := zWo_some hj
    simp only [zad] at hxy
    rw [if_pos (by omega), if_pos (by omega)] at hxy
    omega
  · obtain ⟨h1, rfl⟩ := zWo_some hk
    show B0 ≤ zad B0 sp k
    unfold zad
    rw [if_pos (by omega)]
    omega
theorem zPI_ne {h : zHp} {a b k : Nat} {x : Int32} (hb : b ≠ a) : (zPI h a k x).1 b = h.1 b := by
  funext y
  simp [zPI, hb]
theorem zPI_up {h : zHp} {a k : Nat} {x : Int32} : (zPI h a k x).1 a = upd (h.1 a) k x := by
  funext y
  simp [zPI, upd]
theorem zPL_ne {h : zHp} {a b k : Nat} {x : Int64} (hb : b ≠ a) : (zPL h a k x).2.1 b = h.2.1 b := by
  funext y
  simp [zPL, hb]
theorem zPL_up {h : zHp} {a k : Nat} {x : Int64} : (zPL h a k x).2.1 a = vp_updL (h.2.1 a) k x := by
  funext y
  simp [zPL, vp_updL]
theorem zPR_ne {h : zHp} {a b k : Nat} {x : Nat} (hb : b ≠ a) : (zPR h a k x).2.2 b = h.2.2 b := by
  funext y
  simp [zPR, hb]
theorem zPR_up {h : zHp} {a k : Nat} {x : Nat} : (zPR h a k x).2.2 a = va_up (h.2.2 a) k (some x) := by
  funext y
  simp [zPR, va_up]
/-- a cell reads its own row alone -/
theorem zCe_row {C : Nat → ClassId} {ad : Nat → Nat} {g g' : zSg} {h h' : zHp} {b : Nat} (h1 : h'.1 b = h.1 b) (h2 : h'.2.1 b = h.2.1 b) (h3 : h'.2.2 b = h.2.2 b) (hG : ∀ k, zG g' b k = zG g b k) : zCe C ad g' h' b = zCe C ad g h b := by
  have hf : ∀ k c, zFv ad g' h' b k c = zFv ad g h b k c := by
    intro k c
    match c with
    | 0 => simp [zFv, h1]
    | 1 => simp [zFv, h1]
    | 2 => simp [zFv, h2]
    | 3 => simp [zFv, hG]
    | _ + 4 => simp [zFv, h3]
  unfold zCe
  rw [h1, h2, h3]
  simp only [hf]
theorem zCe_ob {C : Nat → ClassId} {ad : Nat → Nat} {g : zSg} {h : zHp} {a ci : Nat} (hk : zKi a = some (.inr ci)) : zCe C ad g h a = .inr (ci, ((zFs[ci]?).getD []).mapIdx (fun k c => zFv ad g h a k c)) := by
  unfold zCe
  rw [hk]
theorem zCe_i {C : Nat → ClassId} {ad : Nat → Nat} {g : zSg} {h : zHp} {a n : Nat} (hk : zKi a = some (.inl (0, n))) : zCe C ad g h a = .inl (C 0, n, .inl (h.1 a)) := by
  unfold zCe
  rw [hk]
  rfl
theorem zCe_z {C : Nat → ClassId} {ad : Nat → Nat} {g : zSg} {h : zHp} {a n : Nat} (hk : zKi a = some (.inl (1, n))) : zCe C ad g h a = .inl (C 1, n, .inl (h.1 a)) := by
  unfold zCe
  rw [hk]
  rfl
theorem zCe_l {C : Nat → ClassId} {ad : Nat → Nat} {g : zSg} {h : zHp} {a n : Nat} (hk : zKi a = some (.inl (2, n))) : zCe C ad g h a = .inl (C 2, n, .inr (.inl (h.2.1 a))) := by
  unfold zCe
  rw [hk]
  rfl
theorem zCe_q {C : Nat → ClassId} {ad : Nat → Nat} {g : zSg} {h : zHp} {a n : Nat} (hk : zKi a = some (.inl (3, n))) : zCe C ad g h a = .inl (C 3, n, .inr (.inr (.inr (.inr (fun j => (h.2.2 a j).map ad))))) := by
  unfold zCe
  rw [hk]
  rfl
/-- a field's new value in the list of fields -/
theorem zFv_set {ad : Nat → Nat} {g g' : zSg} {h h' : zHp} {a k c : Nat} {l : List Nat} {v : Value} (hk : l[k]? = some c) (hv : zFv ad g' h' a k c = v) (ho : ∀ j d, j ≠ k → zFv ad g' h' a j d = zFv ad g h a j d) : l.mapIdx (fun j d => zFv ad g' h' a j d) = (l.mapIdx (fun j d => zFv ad g h a j d)).set k v := by
  apply List.ext_getElem?
  intro i
  by_cases hi : i = k
  · subst hi
    have hl : i < l.length := (List.getElem?_eq_some_iff.mp hk).1
    rw [List.getElem?_set_self (by simpa using hl), List.getElem?_mapIdx, hk]
    simp [hv]
  · rw [List.getElem?_set_ne (Ne.symm hi), List.getElem?_mapIdx, List.getElem?_mapIdx]
    cases l[i]? with
    | none => rfl
    | some d => simp [ho i d hi]
theorem zFv_at {ad : Nat → Nat} {g : zSg} {h : zHp} {a k c : Nat} {l : List Nat} (hk : l[k]? = some c) : (l.mapIdx (fun j d => zFv ad g h a j d))[k]? = some (zFv ad g h a k c) := by
  rw [List.getElem?_mapIdx, hk]
  rfl
theorem zTr_cat {ad : Nat → Nat} {fq : Value} (hf : fq.category = 1) (v : Value) : (zTr ad fq v).category = v.category := by
  cases v with
  | ref a =>
    show (if a = 1400 then fq else .ref (ad a)).category = 1
    by_cases ha : a = 1400
    · rw [if_pos ha, hf]
    · rw [if_neg ha]; rfl
  | _ => rfl
theorem zTr_cats {ad : Nat → Nat} {fq : Value} (hf : fq.category = 1) (r : List Value) : ((r.map (zTr ad fq)).map fun v => v.category).sum = (r.map fun v => v.category).sum := by
  rw [List.map_map]
  congr 1
  apply List.map_congr_left
  intro v _
  exact zTr_cat hf v
theorem zTr_ref {ad : Nat → Nat} {fq : Value} {a : Nat} (ha : a ≠ 1400) : zTr ad fq (.ref a) = .ref (ad a) := if_neg ha
/-! what nobody writes -/
def zBl : List Nat := [4, 4, 7, 6, 5]
def zRO (B0 : Nat) (sp : Nat → Nat) (fq : Value) (sc : zSc) (U : State) (H : Heap) : Prop :=
  vk_S 5 zBl zBt (fun i => sp (1000 + i)) (fun i => sp (1100 + i)) (zA B0) U H ∧ (∀ e ∈ zTt, vk_R (zO e.1.1) e.1.2 e.2.1 (sp (1000 + e.2.2)) U) ∧
  va_Z "UntoldFacts$Family" "WITH" "[J" (.ref (sp 1200)) (zA B0) U H ∧ va_T .long (sp 1200) 6 (fun j => .long (zWi j)) (zA B0) U H ∧
  va_Z "java/lang/String" "COMPACT_STRINGS" "Z" (.int 1) (zA B0) U H ∧ va_Z "jdk/internal/util/Preconditions" "SIOOBE_FORMATTER" "Ljava/util/function/BiFunction;" fq (zA B0) U H ∧
  (∀ e ∈ zCt, e.2.1 = 3 → va_Nw (.methodLinkNest (zO e.1.1) e.1.2 (zY e.2.2.1) "UntoldFacts") U) ∧ va_AO "UntoldFacts$Talk" U ∧ va_X (sp 1300) sc.1 sc.2 U H ∧ sp 1300 < B0
theorem zRO.move {B0 : Nat} {sp : Nat → Nat} {fq : Value} {sc : zSc} {s U : State} {H H1 : Heap} (h : zRO B0 sp fq sc s H) (hW : s.WarmedH U.vm) (hs : B0 ≤ H.size) (hq : ∀ a : Nat, a < H.size → ¬ zA B0 a → H1[a]? = H[a]?) : zRO B0 sp fq sc U H1 := by
  obtain ⟨h1, h2, h3, h4, h5, h6, h7, h8, h9, h10⟩ := h
  exact ⟨(h1.moved hW.alike).kept hq, fun e he => (h2 e he).warm hW, (h3.moved hW.alike).kept hq, (h4.moved hW.alike).kept hq, (h5.moved hW.alike).kept hq, (h6.moved hW.alike).kept hq, fun e he hk => va_Nw.warmM hW (h7 e he hk), h8.moved hW.alike, (h9.moved hW.alike).kept (hq _ (by omega) (fun z => by unfold zA at z; omega)), h10⟩
theorem zRO.blind {B0 : Nat} {sp : Nat → Nat} {fq : Value} {sc : zSc} {s U : State} {H : Heap} (h : zRO B0 sp fq sc s H) (hv : U.vm = s.vm) : zRO B0 sp fq sc U H := by
  obtain ⟨h1, h2, h3, h4, h5, h6, h7, h8, h9, h10⟩ := h
  have hA : s.vm.Alike U.vm := by rw [hv]; exact Vm.Alike.refl s.vm
  exact ⟨h1.moved hA, fun e he => (h2 e he).same hv, h3.moved hA, h4.moved hA, h5.moved hA, h6.moved hA, fun e he hk => (h7 e he hk).same rfl hv.symm, h8.moved hA, h9.moved hA, h10⟩
set_option maxRecDepth 100000 in
theorem z_okSt : zSt.all (fun e => match e.2.1 with
  | 0 => z_wd e.2.2 (.fieldLink (zO e.1.1) e.1.2 "UntoldFacts$Family" "WITH" "[J")
  | 1 => z_wd e.2.2 (.fieldLink (zO e.1.1) e.1.2 "java/lang/String" "COMPACT_STRINGS" "Z")
  | 2 => z_wd e.2.2 (.fieldLink (zO e.1.1) e.1.2 "jdk/internal/util/Preconditions" "SIOOBE_FORMATTER" "Ljava/util/function/BiFunction;")
  | _ => false) = true := by decide +kernel
/-- the fields' codes are their types -/
def z_okT (ci k : Nat) : Bool := match zCl[ci]?, zFc ci k with
  | some r, some c => decide (k < r.2.2) && (match c with
    | 0 => decide (parseFieldDescriptor (r.2.1 k).2.2.1 = some .int) && decide ((r.2.1 k).2.2.2 = false)
    | 1 => decide (parseFieldDescriptor (r.2.1 k).2.2.1 = some .boolean) && decide ((r.2.1 k).2.2.2 = false)
    | 2 => decide (parseFieldDescriptor (r.2.1 k).2.2.1 = some .long) && decide ((r.2.1 k).2.2.2 = false)
    | 3 => decide ((r.2.1 k).1 = r.1) && decide ((r.2.1 k).2.2.2 = true) && (match parseFieldDescriptor (r.2.1 k).2.2.1 with
      | some (.object _) => true
      | some (.array _) => true
      | _ => false)
    | _ => decide ((r.2.1 k).2.2.2 = false) && (match parseFieldDescriptor (r.2.1 k).2.2.1 with
      | some (.object _) => true
      | _ => false))
  | some r, none => decide (r.2.2 ≤ k)
  | none, _ => true
set_option maxRecDepth 100000 in
theorem z_okTt : (List.range 9).all (fun ci => (List.range 44).all (fun k => z_okT ci k)) = true := by decide +kernel
set_option maxRecDepth 100000 in
theorem z_okCo : (List.range 9).all (fun ci => match zCl[ci]?, zCo[ci]? with
  | some r, some o => decide (zO o = r.1) && decide (r.2.2 = ((zFs[ci]?).getD []).length)
  | _, _ => false) = true := by decide +kernel
end
section
/-! ===== the small machine is sound: instructions without the heap ===== -/
def zCtx (D : va_G) (C : Nat → ClassId) (B0 : Nat) (sp : Nat → Nat) (fq : Value) (sc : zSc) (M : Nat) (p : Program) (s : State) (m : MethodId) (args : Array Value) (meth : Method) (c : Code) : Prop :=
  p.tables.exec = Jvm.exec ∧ c.code = zBy M ∧ c.maxLocals = zML M ∧ s.vm.findClass (zO (zOn M)) = some m.cls ∧ (∀ w ∈ zTb, w.before args s = true) ∧ va_K D zCl (zTys C) s ∧ zRO B0 sp fq sc s s.heap ∧ (zIni M ≠ 99 → meth.name = "<init>") ∧ B0 ≤ s.heap.size ∧ fq.category = 1
def zLh (tr : Value → Value) (ls : Array Slot) (nL : Nat) (lv : zLv) : Prop := ls.size = nL ∧ lv_wf ls ∧ lv.length = nL ∧ ∀ (i : Nat) (v : Value), lv[i]? = some (some v) → ls[i]? = some (.val (tr v))
theorem zLh.at {tr : Value → Value} {ls : Array Slot} {nL : Nat} {lv : zLv} (h : zLh tr ls nL lv) {i : Nat} {v : Value} (hv : zLg lv i = some v) : ls[i]? = some (.val (tr v)) := by
  apply h.2.2.2
  unfold zLg at hv
  cases hx : lv[i]? with
  | none => rw [hx] at hv; cases hv
  | some o => rw [hx] at hv; cases hv; rfl
theorem z_i1_some {f : Int32 → Option Value} {st st' : List Value} (h : z_i1 f st = some st') : ∃ x r v, st = .int x :: r ∧ f x = some v ∧ st' = v :: r := by
  unfold z_i1 at h
  split at h
  · rename_i x r
    cases hf : f x with
    | none => rw [hf] at h; cases h
    | some v => rw [hf] at h; cases h; exact ⟨x, r, v, rfl, hf, rfl⟩
  · cases h
theorem z_l1_some {f : Int64 → Option Value} {st st' : List Value} (h : z_l1 f st = some st') : ∃ x r v, st = .long x :: r ∧ f x = some v ∧ st' = v :: r := by
  unfold z_l1 at h
  split at h
  · rename_i x r
    cases hf : f x with
    | none => rw [hf] at h; cases h
    | some v => rw [hf] at h; cases h; exact ⟨x, r, v, rfl, hf, rfl⟩
  · cases h
theorem z_i2_some {f : Int32 → Int32 → Option Value} {st st' : List Value} (h : z_i2 f st = some st') : ∃ x y r v, st = .int y :: .int x :: r ∧ f x y = some v ∧ st' = v :: r := by
  unfold z_i2 at h
  split at h
  · rename_i y x r
    cases hf : f x y with
    | none => rw [hf] at h; cases h
    | some v => rw [hf] at h; cases h; exact ⟨x, y, r, v, rfl, hf, rfl⟩
  · cases h
theorem z_l2_some {f : Int64 → Int64 → Option Value} {st st' : List Value} (h : z_l2 f st = some st') : ∃ x y r v, st = .long y :: .long x :: r ∧ f x y = some v ∧ st' = v :: r := by
  unfold z_l2 at h
  split at h
  · rename_i y x r
    cases hf : f x y with
    | none => rw [hf] at h; cases h
    | some v => rw [hf] at h; cases h; exact ⟨x, y, r, v, rfl, hf, rfl⟩
  · cases h
theorem z_li_some {f : Int64 → Int32 → Option Value} {st st' : List Value} (h : z_li f st = some st') : ∃ x y r v, st = .int y :: .long x :: r ∧ f x y = some v ∧ st' = v :: r := by
  unfold z_li at h
  split at h
  · rename_i y x r
    cases hf : f x y with
    | none => rw [hf] at h; cases h
    | some v => rw [hf] at h; cases h; exact ⟨x, y, r, v, rfl, hf, rfl⟩
  · cases h
theorem z_il_some {lv : zLv} {i : Nat} {st st' : List Value} (h : z_il lv i st = some st') : ∃ x, zLg lv i = some (.int x) ∧ st' = .int x :: st := by
  unfold z_il at h
  split at h
  · rename_i x hx; cases h; exact ⟨x, hx, rfl⟩
  · cases h
theorem z_ll_some {lv : zLv} {i : Nat} {st st' : List Value} (h : z_ll lv i st = some st') : ∃ x, zLg lv i = some (.long x) ∧ st' = .long x :: st := by
  unfold z_ll at h
  split at h
  · rename_i x hx; cases h; exact ⟨x, hx, rfl⟩
  · cases h
theorem z_al_some {lv : zLv} {i : Nat} {st st' : List Value} (h : z_al lv i st = some st') : ∃ x, zLg lv i = some (.ref x) ∧ x ≠ 1400 ∧ st' = .ref x :: st := by
  unfold z_al at h
  split at h
  · rename_i x hx
    by_cases h4 : x = 1400
    · rw [if_pos h4] at h; cases h
    · rw [if_neg h4] at h; cases h; exact ⟨x, hx, h4, rfl⟩
  · cases h
theorem z_ci_some {o i : Nat} {st st' : List Value} (h : z_ci o i st = some st') : ∃ v, Cond.constant (zO o) i v ∈ zTb ∧ st' = .int v :: st := by
  unfold z_ci zKc at h
  cases hk : zKt.lookup (o, i) with
  | none => rw [hk] at h; cases h
  | some q =>
    obtain ⟨v | v, w⟩ := q
    · rw [hk] at h
      cases h
      have hm := List.all_eq_true.mp z_okKt _ (z_lk hk)
      exact ⟨v, z_wd_in hm, rfl⟩
    · rw [hk] at h; cases h
theorem z_cl_some {o i : Nat} {st st' : List Value} (h : z_cl o i st = some st') : ∃ v, Cond.constantLong (zO o) i v ∈ zTb ∧ st' = .long v :: st := by
  unfold z_cl zKc at h
  cases hk : zKt.lookup (o, i) with
  | none => rw [hk] at h; cases h
  | some q =>
    obtain ⟨v | v, w⟩ := q
    · rw [hk] at h; cases h
    · rw [hk] at h
      cases h
      have hm := List.all_eq_true.mp z_okKt _ (z_lk hk)
      exact ⟨v, z_wd_in hm, rfl⟩
theorem z_ct_some {o i : Nat} {st st' : List Value} (h : z_ct o i st = some st') : ∃ t j, ((o, i), (t, j)) ∈ zTt ∧ st' = .ref (1000 + j) :: st := by
  unfold z_ct zTc at h
  cases hk : zTt.lookup (o, i) with
  | none => rw [hk] at h; cases h
  | some q =>
    obtain ⟨t, j⟩ := q
    rw [hk] at h
    cases h
    exact ⟨t, j, z_lk hk, rfl⟩
theorem z_st_some {o i : Nat} {st st' : List Value} (h : z_st o i st = some st') : (Cond.fieldLink (zO o) i "UntoldFacts$Family" "WITH" "[J" ∈ zTb ∧ st' = .ref 1200 :: st) ∨ (Cond.fieldLink (zO o) i "java/lang/String" "COMPACT_STRINGS" "Z" ∈ zTb ∧ st' = .int 1 :: st) ∨ (Cond.fieldLink (zO o) i "jdk/internal/util/Preconditions" "SIOOBE_FORMATTER" "Ljava/util/function/BiFunction;" ∈ zTb ∧ st' = .ref 1400 :: st) := by
  unfold z_st zSc' at h
  cases hk : zSt.lookup (o, i) with
  | none => rw [hk] at h; cases h
  | some q =>
    obtain ⟨t, j⟩ := q
    rw [hk] at h
    have hm := List.all_eq_true.mp z_okSt _ (z_lk hk)
    match t, h, hm with
    | 0, h, hm => cases h; exact Or.inl ⟨z_wd_in hm, rfl⟩
    | 1, h, hm => cases h; exact Or.inr (Or.inl ⟨z_wd_in hm, rfl⟩)
    | 2, h, hm => cases h; exact Or.inr (Or.inr ⟨z_wd_in hm, rfl⟩)
    | _ + 3, h, hm => cases h
set_option maxRecDepth 100000 in
theorem zTt_lt : ∀ e ∈ zTt, e.2.2 < 5 := by decide +kernel
section
variable {p : Program} {l : Launch} {e : Env} {R : Room} {s : State} {m : MethodId} {args : Array Value} {below : List Frame} {meth : Method} {c : Code} {H : Heap} {locs : List Loc} {cells slots : Nat} {Q : State → Prop}
variable {D : va_G} {C : Nat → ClassId} {B0 : Nat} {sp : Nat → Nat} {fq : Value} {sc : zSc} {M : Nat}
set_option maxHeartbeats 4000000 in
theorem zPure_ok (hc : zCtx D C B0 sp fq sc M p s m args meth c) {op : Instr} {len pc : Nat} {lv : zLv} {st st' : List Value} {ls : Array Slot} (hd : decode (zBy M) pc = .ok (op, len)) (hk : zLk op len = true) (hl : zLh (zTr (zad B0 sp) fq) ls (zML M) lv) (hS : va_S (zA B0) s.heap H locs) (hs : zPure (zOn M) op lv st = some st')
    (k : W p l e R s m args below meth c H locs cells slots Q (F0 m (pc + len) ls (st'.map (zTr (zad B0 sp) fq)))) : W p l e R s m args below meth c H locs cells slots Q (F0 m pc ls (st.map (zTr (zad B0 sp) fq))) := by
  obtain ⟨hx, hb, hml, hown, hts, hK, hRO, hin, hB, hfq⟩ := hc
  cases op with
  | iconst n =>
    obtain rfl : len = 1 := by simpa [zLk] using hk
    cases hs
    exact lv_iconst hx hb hd rfl k
  | bipush n =>
    obtain rfl : len = 2 := by simpa [zLk] using hk
    cases hs
    exact lv_bipush hx hb hd rfl k
  | sipush n =>
    obtain rfl : len = 3 := by simpa [zLk] using hk
    cases hs
    exact lv_sipush hx hb hd rfl k
  | lconst n =>
    obtain rfl : len = 1 := by simpa [zLk] using hk
    cases hs
    exact lv_lconst hx hb hd rfl k
  | ldc i =>
    obtain rfl : len = 2 := by simpa [zLk] using hk
    simp only [zPure] at hs
    cases h1 : z_ci (zOn M) i st with
    | some a =>
      rw [h1] at hs
      cases hs
      obtain ⟨v, hw, rfl⟩ := z_ci_some h1
      exact lv_ldc hx hb hown (hts _ hw) hd k
    | none =>
      rw [h1] at hs
      obtain ⟨t, j, hm, rfl⟩ := z_ct_some hs
      have hj := zTt_lt _ hm
      have hr : vk_R (zO (zOn M)) i t (sp (1000 + j)) s := hRO.2.1 ((zOn M, i), (t, j)) hm
      generalize zO (zOn M) = own at hr hown
      refine va_ldcS (own := own) (tx := t) (q := sp (1000 + j)) hx hb hown hr hd ?_
      have k := k
      rw [List.map_cons, zTr_ref (by show 1000 + j ≠ 1400; have : j < 5 := hj; omega)] at k
      have hz : zad B0 sp (1000 + j) = sp (1000 + j) := if_neg (by omega)
      rw [hz] at k
      exact k
  | ldc_w i =>
    obtain rfl : len = 3 := by simpa [zLk] using hk
    obtain ⟨v, hw, rfl⟩ := z_ci_some hs
    exact lv_ldcw hx hb hown (hts _ hw) hd k
  | ldc2_w i =>
    obtain rfl : len = 3 := by simpa [zLk] using hk
    obtain ⟨v, hw, rfl⟩ := z_cl_some hs
    exact lv_ldc2 hx hb hown (hts _ hw) hd k
  | getstatic i =>
    obtain rfl : len = 3 := by simpa [zLk] using hk
    rcases z_st_some hs with ⟨hw, rfl⟩ | ⟨hw, rfl⟩ | ⟨hw, rfl⟩
    · exact va_gets hx hb hRO.2.2.1 hS hown (hts _ hw) (fun _ h => h) hd k
    · exact va_gets hx hb hRO.2.2.2.2.1 hS hown (hts _ hw) (fun _ h => h) hd k
    · exact va_gets hx hb hRO.2.2.2.2.2.1 hS hown (hts _ hw) (fun _ h => h) hd k
  | iload i =>
    obtain rfl : len = 2 := by simpa [zLk] using hk
    obtain ⟨x, hv, rfl⟩ := z_il_some hs
    exact lv_iload hx hb hd (hl.at hv) k
  | iload_n i =>
    obtain rfl : len = 1 := by simpa [zLk] using hk
    obtain ⟨x, hv, rfl⟩ := z_il_some hs
    exact lv_iload_n hx hb hd rfl (hl.at hv) k
  | lload i =>
    obtain rfl : len = 2 := by simpa [zLk] using hk
    obtain ⟨x, hv, rfl⟩ := z_ll_some hs
    exact lv_lload hx hb hd (hl.at hv) k
  | lload_n i =>
    obtain rfl : len = 1 := by simpa [zLk] using hk
    obtain ⟨x, hv, rfl⟩ := z_ll_some hs
    exact lv_lload_n hx hb hd rfl (hl.at hv) k
  | aload i =>
    obtain rfl : len = 2 := by simpa [zLk] using hk
    obtain ⟨x, hv, h4, rfl⟩ := z_al_some hs
    have h5 := hl.at hv
    rw [zTr_ref h4] at h5
    rw [List.map_cons, zTr_ref h4] at k
    exact lv_aload hx hb hd h5 k
  | aload_n i =>
    obtain rfl : len = 1 := by simpa [zLk] using hk
    obtain ⟨x, hv, h4, rfl⟩ := z_al_some hs
    have h5 := hl.at hv
    rw [zTr_ref h4] at h5
    rw [List.map_cons, zTr_ref h4] at k
    exact lv_aload_n hx hb hd rfl h5 k
  | dup =>
    obtain rfl : len = 1 := by simpa [zLk] using hk
    cases st with
    | nil => cases hs
    | cons v r =>
      by_cases hv : v.category = 1
      · have h1 : st' = v :: v :: r := by
          have := hs
          simp only [zPure, z_dup, if_pos hv] at this
          exact (Option.some.inj this).symm
        subst h1
        exact lv_dup hx hb hd (by rw [zTr_cat hfq]; exact hv) k
      · simp [zPure, z_dup, hv] at hs
  | pop =>
    obtain rfl : len = 1 := by simpa [zLk] using hk
    cases st with
    | nil => cases hs
    | cons v r =>
      by_cases hv : v.category = 1
      · have h1 : st' = r := by
          have := hs
          simp only [zPure, z_pop, if_pos hv] at this
          exact (Option.some.inj this).symm
        subst h1
        exact lv_pop hx hb hd (by rw [zTr_cat hfq]; exact hv) k
      · simp [zPure, z_pop, hv] at hs
  | dup2 =>
    obtain rfl : len = 1 := by simpa [zLk] using hk
    simp only [zPure] at hs
    match st, hs with
    | [], hs => cases hs
    | [v], hs =>
      by_cases hv : v.category = 2
      · simp only [z_dup2, if_pos hv] at hs
        cases hs
        exact lv_dup2_2 hx hb hd (by rw [zTr_cat hfq]; exact hv) k
      · simp [z_dup2, hv] at hs
    | v :: w :: r, hs =>
      by_cases hv : v.category = 1 ∧ w.category = 1
      · simp only [z_dup2, if_pos hv] at hs
        cases hs
        exact lv_dup2_11 hx hb hd (by rw [zTr_cat hfq]; exact hv.1) (by rw [zTr_cat hfq]; exact hv.2) k
      · by_cases hv2 : v.category = 2
        · simp only [z_dup2, if_neg hv, if_pos hv2] at hs
          cases hs
          exact lv_dup2_2 hx hb hd (by rw [zTr_cat hfq]; exact hv2) k
        · simp [z_dup2, hv, hv2] at hs
  | iadd =>
    obtain rfl : len = 1 := by simpa [zLk] using hk
    obtain ⟨x, y, r, v, rfl, hv, rfl⟩ := z_i2_some hs
    cases hv
    exact lv_iadd hx hb hd k
  | isub =>
    obtain rfl : len = 1 := by simpa [zLk] using hk
    obtain ⟨x, y, r, v, rfl, hv, rfl⟩ := z_i2_some hs
    cases hv
    exact lv_isub hx hb hd k
  | imul =>
    obtain rfl : len = 1 := by simpa [zLk] using hk
    obtain ⟨x, y, r, v, rfl, hv, rfl⟩ := z_i2_some hs
    cases hv
    exact lv_imul hx hb hd k
  | ishl =>
    obtain rfl : len = 1 := by simpa [zLk] using hk
    obtain ⟨x, y, r, v, rfl, hv, rfl⟩ := z_i2_some hs
    cases hv
    exact lv_ishl hx hb hd k
  | ishr =>
    obtain rfl : len = 1 := by simpa [zLk] using hk
    obtain ⟨x, y, r, v, rfl, hv, rfl⟩ := z_i2_some hs
    cases hv
    exact lv_ishr hx hb hd k
  | iand =>
    obtain rfl : len = 1 := by simpa [zLk] using hk
    obtain ⟨x, y, r, v, rfl, hv, rfl⟩ := z_i2_some hs
    cases hv
    exact lv_iand hx hb hd k
  | ior =>
    obtain rfl : len = 1 := by simpa [zLk] using hk
    obtain ⟨x, y, r, v, rfl, hv, rfl⟩ := z_i2_some hs
    cases hv
    exact lv_ior hx hb hd k
  | ixor =>
    obtain rfl : len = 1 := by simpa [zLk] using hk
    obtain ⟨x, y, r, v, rfl, hv, rfl⟩ := z_i2_some hs
    cases hv
    exact lv_ixor hx hb hd k
  | iushr =>
    obtain rfl : len = 1 := by simpa [zLk] using hk
    obtain ⟨x, y, r, v, rfl, hv, rfl⟩ := z_i2_some hs
    cases hv
    exact lv_iushr hx hb hd rfl k
  | idiv =>
    obtain rfl : len = 1 := by simpa [zLk] using hk
    obtain ⟨x, y, r, v, rfl, hv, rfl⟩ := z_i2_some hs
    by_cases h0 : y = 0
    · rw [if_pos h0] at hv; cases hv
    · rw [if_neg h0] at hv; cases hv
      exact lv_idiv hx hb hd h0 k
  | irem =>
    obtain rfl : len = 1 := by simpa [zLk] using hk
    obtain ⟨x, y, r, v, rfl, hv, rfl⟩ := z_i2_some hs
    by_cases h0 : y = 0
    · rw [if_pos h0] at hv; cases hv
    · rw [if_neg h0] at hv; cases hv
      exact lv_irem hx hb hd h0 k
  | lrem =>
    obtain rfl : len = 1 := by simpa [zLk] using hk
    obtain ⟨x, y, r, v, rfl, hv, rfl⟩ := z_l2_some hs
    by_cases h0 : y = 0
    · rw [if_pos h0] at hv; cases hv
    · rw [if_neg h0] at hv; cases hv
      exact lv_lrem hx hb hd h0 k
  | ineg =>
    obtain rfl : len = 1 := by simpa [zLk] using hk
    obtain ⟨x, r, v, rfl, hv, rfl⟩ := z_i1_some hs
    cases hv
    exact lv_ineg hx hb hd k
  | i2l =>
    obtain rfl : len = 1 := by simpa [zLk] using hk
    obtain ⟨x, r, v, rfl, hv, rfl⟩ := z_i1_some hs
    cases hv
    exact lv_i2l hx hb hd rfl k
  | i2c =>
    obtain rfl : len = 1 := by simpa [zLk] using hk
    obtain ⟨x, r, v, rfl, hv, rfl⟩ := z_i1_some hs
    cases hv
    exact lv_i2c hx hb hd rfl k
  | l2i =>
    obtain rfl : len = 1 := by simpa [zLk] using hk
    obtain ⟨x, r, v, rfl, hv, rfl⟩ := z_l1_some hs
    cases hv
    exact lv_l2i hx hb hd rfl k
  | ladd =>
    obtain rfl : len = 1 := by simpa [zLk] using hk
    obtain ⟨x, y, r, v, rfl, hv, rfl⟩ := z_l2_some hs
    cases hv
    exact lv_ladd hx hb hd k
  | lsub =>
    obtain rfl : len = 1 := by simpa [zLk] using hk
    obtain ⟨x, y, r, v, rfl, hv, rfl⟩ := z_l2_some hs
    cases hv
    exact lv_lsub hx hb hd k
  | lmul =>
    obtain rfl : len = 1 := by simpa [zLk] using hk
    obtain ⟨x, y, r, v, rfl, hv, rfl⟩ := z_l2_some hs
    cases hv
    exact lv_lmul hx hb hd k
  | land =>
    obtain rfl : len = 1 := by simpa [zLk] using hk
    obtain ⟨x, y, r, v, rfl, hv, rfl⟩ := z_l2_some hs
    cases hv
    exact lv_land hx hb hd k
  | lor =>
    obtain rfl : len = 1 := by simpa [zLk] using hk
    obtain ⟨x, y, r, v, rfl, hv, rfl⟩ := z_l2_some hs
    cases hv
    exact lv_lor hx hb hd k
  | lxor =>
    obtain rfl : len = 1 := by simpa [zLk] using hk
    obtain ⟨x, y, r, v, rfl, hv, rfl⟩ := z_l2_some hs
    cases hv
    exact lv_lxor hx hb hd k
  | lshl =>
    obtain rfl : len = 1 := by simpa [zLk] using hk
    obtain ⟨x, y, r, v, rfl, hv, rfl⟩ := z_li_some hs
    cases hv
    exact lv_lshl hx hb hd rfl k
  | lshr =>
    obtain rfl : len = 1 := by simpa [zLk] using hk
    obtain ⟨x, y, r, v, rfl, hv, rfl⟩ := z_li_some hs
    cases hv
    exact lv_lshr hx hb hd rfl k
  | lushr =>
    obtain rfl : len = 1 := by simpa [zLk] using hk
    obtain ⟨x, y, r, v, rfl, hv, rfl⟩ := z_li_some hs
    cases hv
    exact lv_lushr hx hb hd rfl k
  | lcmp =>
    obtain rfl : len = 1 := by simpa [zLk] using hk
    obtain ⟨x, y, r, v, rfl, hv, rfl⟩ := z_l2_some hs
    cases hv
    exact W.lcmp hx hb hd k
  | _ => cases hs
end
end
section
/-! ===== soundness: locals and branches ===== -/
theorem z_cat2 {w : Value} (h : w.category = 2) : (∃ x, w = .long x) ∨ ∃ x, w = .double x := by
  cases w with
  | long x => exact Or.inl ⟨x, rfl⟩
  | double x => exact Or.inr ⟨x, rfl⟩
  | _ => simp [Value.category] at h
theorem zInv_len (lv : zLv) (i : Nat) : (zInv lv i).length = lv.length := by
  unfold zInv
  split
  · rfl
  · split <;> simp
theorem zInv_get {lv : zLv} {i j : Nat} {w : Value} (hj : (zInv lv i)[j]? = some (some w)) : lv[j]? = some (some w) ∧ ¬ (j + 1 = i ∧ w.category = 2) := by
  cases i with
  | zero => exact ⟨hj, fun h => by omega⟩
  | succ i =>
    by_cases hji : j = i
    · subst hji
      have key : lv[j]? = some (some w) → ¬ w.category = 2 → lv[j]? = some (some w) ∧ ¬ (j + 1 = j + 1 ∧ w.category = 2) := fun a b => ⟨a, fun c => b c.2⟩
      unfold zInv at hj
      simp only at hj
      by_cases hl : j < lv.length
      · cases hx : zLg lv j with
        | none =>
          rw [hx] at hj
          simp only at hj
          unfold zLg at hx
          rw [hj] at hx
          simp at hx
        | some u =>
          rw [hx] at hj
          have hu : lv[j]? = some (some u) := by
            unfold zLg at hx
            cases hq : lv[j]? with
            | none => rw [hq] at hx; simp at hx
            | some o => rw [hq] at hx; simp at hx; rw [hx]
          cases u with
          | long x => simp [hl] at hj
          | double x => simp [hl] at hj
          | _ =>
            simp only at hj
            refine key hj ?_
            rw [hu] at hj
            cases hj
            simp [Value.category]
      · split at hj
        · simp [hl] at hj
        · simp [hl] at hj
        · simp [hl] at hj
    · refine ⟨?_, fun h => hji (by omega)⟩
      unfold zInv at hj
      simp only at hj
      split at hj
      · rw [List.getElem?_set_ne (Ne.symm hji)] at hj; exact hj
      · rw [List.getElem?_set_ne (Ne.symm hji)] at hj; exact hj
      · exact hj
theorem zSto_get {lv : zLv} {i j : Nat} {v w : Value} (hj : (zSto lv i v)[j]? = some (some w)) : (j = i ∧ w = v) ∨ (j ≠ i ∧ lv[j]? = some (some w) ∧ ¬ (j + 1 = i ∧ w.category = 2)) := by
  unfold zSto at hj
  by_cases hji : j = i
  · subst hji
    by_cases hl : j < lv.length
    · rw [List.getElem?_set_self (by rw [zInv_len]; exact hl)] at hj
      cases hj
      exact Or.inl ⟨rfl, rfl⟩
    · rw [List.getElem?_eq_none (by rw [List.length_set, zInv_len]; omega)] at hj
      cases hj
  · rw [List.getElem?_set_ne (Ne.symm hji)] at hj
    exact Or.inr ⟨hji, zInv_get hj⟩
theorem zStL_get {lv : zLv} {i j : Nat} {v w : Value} (hj : (zStL lv i v)[j]? = some (some w)) : (j = i ∧ w = v) ∨ (j ≠ i ∧ j ≠ i + 1 ∧ lv[j]? = some (some w) ∧ ¬ (j + 1 = i ∧ w.category = 2)) := by
  unfold zStL at hj
  by_cases hji : j = i
  · subst hji
    by_cases hl : j < lv.length
    · rw [List.getElem?_set_self (by rw [List.length_set, zInv_len]; exact hl)] at hj
      cases hj
      exact Or.inl ⟨rfl, rfl⟩
    · rw [List.getElem?_eq_none (by rw [List.length_set, List.length_set, zInv_len]; omega)] at hj
      cases hj
  · rw [List.getElem?_set_ne (Ne.symm hji)] at hj
    by_cases hj1 : j = i + 1
    · subst hj1
      by_cases hl : i + 1 < lv.length
      · rw [List.getElem?_set_self (by rw [zInv_len]; exact hl)] at hj
        cases hj
      · rw [List.getElem?_eq_none (by rw [List.length_set, zInv_len]; omega)] at hj
        cases hj
    · rw [List.getElem?_set_ne (Ne.symm hj1)] at hj
      exact Or.inr ⟨hji, hj1, zInv_get hj⟩
/-- the locals that are known, as the kit lists them -/
def zAl (tr : Value → Value) (lv : zLv) : List (Nat × Value) := (List.range lv.length).filterMap (fun i => (zLg lv i).map (fun v => (i, tr v)))
theorem zAl_mem {tr : Value → Value} {lv : zLv} {i : Nat} {v : Value} (h : lv[i]? = some (some v)) : (i, tr v) ∈ zAl tr lv := by
  unfold zAl
  rw [List.mem_filterMap]
  refine ⟨i, List.mem_range.mpr (List.getElem?_eq_some_iff.mp h).1, ?_⟩
  unfold zLg
  rw [h]
  rfl
theorem zAl_has {tr : Value → Value} {ls : Array Slot} {nL : Nat} {lv : zLv} (h : zLh tr ls nL lv) : lv_has ls nL (zAl tr lv) := by
  refine ⟨h.1, h.2.1, fun q hq => ?_⟩
  unfold zAl at hq
  rw [List.mem_filterMap] at hq
  obtain ⟨i, -, hi⟩ := hq
  cases hx : zLg lv i with
  | none => rw [hx] at hi; cases hi
  | some v =>
    rw [hx] at hi
    cases hi
    exact h.at hx
theorem zLh_sto {tr : Value → Value} {ls' : Array Slot} {nL i : Nat} {lv : zLv} {v : Value} (hcat : ∀ v, (tr v).category = v.category) (hn : lv.length = nL) (h : lv_has ls' nL ((i, tr v) :: (zAl tr lv).filter (fun q => !(q.1 == i) && !(q.1 + 1 == i && q.2.category == 2)))) : zLh tr ls' nL (zSto lv i v) := by
  refine ⟨h.1, h.2.1, ?_, fun j w hj => ?_⟩
  · unfold zSto
    rw [List.length_set, zInv_len, hn]
  · rcases zSto_get hj with ⟨rfl, rfl⟩ | ⟨h1, h2, h3⟩
    · exact h.2.2 (j, tr w) List.mem_cons_self
    · refine h.2.2 (j, tr w) (List.mem_cons_of_mem _ (List.mem_filter.mpr ⟨zAl_mem h2, ?_⟩))
      simp only [hcat]
      by_cases hj1 : j + 1 = i
      · have hc : ¬ w.category = 2 := fun z => h3 ⟨hj1, z⟩
        simp [h1, hc]
      · simp [h1, hj1]
theorem zLh_stl {tr : Value → Value} {ls' : Array Slot} {nL i : Nat} {lv : zLv} {v : Value} (hcat : ∀ v, (tr v).category = v.category) (hn : lv.length = nL) (h : lv_has ls' nL ((i, tr v) :: (zAl tr lv).filter (fun q => !(q.1 == i) && (!(q.1 == i + 1) && !(q.1 + 1 == i && q.2.category == 2))))) : zLh tr ls' nL (zStL lv i v) := by
  refine ⟨h.1, h.2.1, ?_, fun j w hj => ?_⟩
  · unfold zStL
    rw [List.length_set, List.length_set, zInv_len, hn]
  · rcases zStL_get hj with ⟨rfl, rfl⟩ | ⟨h1, h1', h2, h3⟩
    · exact h.2.2 (j, tr w) List.mem_cons_self
    · refine h.2.2 (j, tr w) (List.mem_cons_of_mem _ (List.mem_filter.mpr ⟨zAl_mem h2, ?_⟩))
      simp only [hcat]
      by_cases hj1 : j + 1 = i
      · have hc : ¬ w.category = 2 := fun z => h3 ⟨hj1, z⟩
        simp [h1, h1', hc]
      · simp [h1, h1', hj1]
theorem z_is_some {lv lv' : zLv} {i : Nat} {st st' : List Value} (h : z_is lv i st = some (lv', st')) : ∃ x, st = .int x :: st' ∧ i < lv.length ∧ lv' = zSto lv i (.int x) := by
  unfold z_is at h
  split at h
  · rename_i x r
    by_cases hi : i < lv.length
    · rw [if_pos hi] at h; cases h; exact ⟨x, rfl, hi, rfl⟩
    · rw [if_neg hi] at h; cases h
  · cases h
theorem z_ls_some {lv lv' : zLv} {i : Nat} {st st' : List Value} (h : z_ls lv i st = some (lv', st')) : ∃ x, st = .long x :: st' ∧ i + 1 < lv.length ∧ lv' = zStL lv i (.long x) := by
  unfold z_ls at h
  split at h
  · rename_i x r
    by_cases hi : i + 1 < lv.length
    · rw [if_pos hi] at h; cases h; exact ⟨x, rfl, hi, rfl⟩
    · rw [if_neg hi] at h; cases h
  · cases h
theorem z_as_some {lv lv' : zLv} {i : Nat} {st st' : List Value} (h : z_as lv i st = some (lv', st')) : ∃ x, st = .ref x :: st' ∧ i < lv.length ∧ x ≠ 1400 ∧ lv' = zSto lv i (.ref x) := by
  unfold z_as at h
  split at h
  · rename_i x r
    by_cases hi : i < lv.length ∧ x ≠ 1400
    · rw [if_pos hi] at h; cases h; exact ⟨x, rfl, hi.1, hi.2, rfl⟩
    · rw [if_neg hi] at h; cases h
  · cases h
theorem z_ic_some {lv lv' : zLv} {i : Nat} {n : Int} {st st' : List Value} (h : z_ic lv i n st = some (lv', st')) : ∃ x, zLg lv i = some (.int x) ∧ st = st' ∧ lv' = zSto lv i (.int (x + Int32.ofInt n)) := by
  unfold z_ic at h
  split at h
  · rename_i x hx
    cases h
    exact ⟨x, hx, rfl, rfl⟩
  · cases h
theorem zLg_lt {lv : zLv} {i : Nat} {v : Value} (h : zLg lv i = some v) : i < lv.length ∧ lv[i]? = some (some v) := by
  unfold zLg at h
  cases hq : lv[i]? with
  | none => rw [hq] at h; simp at h
  | some o => rw [hq] at h; simp at h; exact ⟨(List.getElem?_eq_some_iff.mp hq).1, by rw [h]⟩
theorem zTg_some {pc t : Nat} {off : Int} (h : zTg pc off = some t) : (pc : Int) + off = (t : Int) := by
  unfold zTg at h
  by_cases h0 : 0 ≤ (pc : Int) + off
  · rw [if_pos h0] at h
    cases h
    omega
  · rw [if_neg h0] at h; cases h
theorem z_b1_some {pc pc' : Nat} {cd : ClassFile.Cond} {off : Int} {st st' : List Value} (h : z_b1 pc cd off st = some (pc', st')) : ∃ (x : Int32) (t : Nat), st = .int x :: st' ∧ (pc : Int) + off = (t : Int) ∧ pc' = (if zC1 cd x then t else pc + 3) := by
  unfold z_b1 at h
  split at h
  · rename_i x r
    cases ht : zTg pc off with
    | none => rw [ht] at h; cases h
    | some t => rw [ht] at h; cases h; exact ⟨x, t, rfl, zTg_some ht, rfl⟩
  · cases h
theorem z_b2_some {pc pc' : Nat} {cd : ClassFile.Cond} {off : Int} {st st' : List Value} (h : z_b2 pc cd off st = some (pc', st')) : ∃ (x y : Int32) (t : Nat), st = .int y :: .int x :: st' ∧ (pc : Int) + off = (t : Int) ∧ pc' = (if zC2 cd x y then t else pc + 3) := by
  unfold z_b2 at h
  split at h
  · rename_i y x r
    cases ht : zTg pc off with
    | none => rw [ht] at h; cases h
    | some t => rw [ht] at h; cases h; exact ⟨x, y, t, rfl, zTg_some ht, rfl⟩
  · cases h
section
variable {p : Program} {l : Launch} {e : Env} {R : Room} {s : State} {m : MethodId} {args : Array Value} {below : List Frame} {meth : Method} {c : Code} {H : Heap} {locs : List Loc} {cells slots : Nat} {Q : State → Prop}
variable {D : va_G} {C : Nat → ClassId} {B0 : Nat} {sp : Nat → Nat} {fq : Value} {sc : zSc} {M : Nat}
set_option maxHeartbeats 4000000 in
theorem zLoc_ok (hc : zCtx D C B0 sp fq sc M p s m args meth c) {op : Instr} {len pc : Nat} {lv lv' : zLv} {st st' : List Value} {ls : Array Slot} (hd : decode (zBy M) pc = .ok (op, len)) (hk : zLk op len = true) (hl : zLh (zTr (zad B0 sp) fq) ls (zML M) lv) (hs : zLoc op lv st = some (lv', st'))
    (k : ∀ ls' : Array Slot, zLh (zTr (zad B0 sp) fq) ls' (zML M) lv' → W p l e R s m args below meth c H locs cells slots Q (F0 m (pc + len) ls' (st'.map (zTr (zad B0 sp) fq)))) : W p l e R s m args below meth c H locs cells slots Q (F0 m pc ls (st.map (zTr (zad B0 sp) fq))) := by
  obtain ⟨hx, hb, hml, hown, hts, hK, hRO, hin, hB, hfq⟩ := hc
  have hcat := fun v => zTr_cat (ad := zad B0 sp) hfq v
  have hn := hl.2.2.1
  have hh := zAl_has hl
  generalize zML M = nL at hl hn hh k
  cases op with
  | istore i =>
    obtain rfl : len = 2 := by simpa [zLk] using hk
    obtain ⟨x, rfl, hi, rfl⟩ := z_is_some hs
    exact lv_istore hx hb hd hh (by omega) rfl (fun ls' h' => k ls' (zLh_sto hcat hn h'))
  | istore_n i =>
    obtain rfl : len = 1 := by simpa [zLk] using hk
    obtain ⟨x, rfl, hi, rfl⟩ := z_is_some hs
    exact lv_istore_n hx hb hd rfl hh (by omega) rfl (fun ls' h' => k ls' (zLh_sto hcat hn h'))
  | lstore i =>
    obtain rfl : len = 2 := by simpa [zLk] using hk
    obtain ⟨x, rfl, hi, rfl⟩ := z_ls_some hs
    exact lv_lstore hx hb hd hh (by omega) rfl (fun ls' h' => k ls' (zLh_stl hcat hn h'))
  | lstore_n i =>
    obtain rfl : len = 1 := by simpa [zLk] using hk
    obtain ⟨x, rfl, hi, rfl⟩ := z_ls_some hs
    exact lv_lstore_n hx hb hd rfl hh (by omega) rfl (fun ls' h' => k ls' (zLh_stl hcat hn h'))
  | astore i =>
    obtain rfl : len = 2 := by simpa [zLk] using hk
    obtain ⟨x, rfl, hi, h4, rfl⟩ := z_as_some hs
    rw [List.map_cons, zTr_ref h4]
    exact lv_astore hx hb hd hh (by omega) rfl (fun ls' h' => k ls' (zLh_sto hcat hn (by rw [zTr_ref h4]; exact h')))
  | astore_n i =>
    obtain rfl : len = 1 := by simpa [zLk] using hk
    obtain ⟨x, rfl, hi, h4, rfl⟩ := z_as_some hs
    rw [List.map_cons, zTr_ref h4]
    exact lv_astore_n hx hb hd rfl hh (by omega) rfl (fun ls' h' => k ls' (zLh_sto hcat hn (by rw [zTr_ref h4]; exact h')))
  | iinc i n =>
    obtain rfl : len = 3 := by simpa [zLk] using hk
    obtain ⟨x, hx2, rfl, rfl⟩ := z_ic_some hs
    obtain ⟨h1, h2⟩ := zLg_lt hx2
    obtain ⟨j, hj⟩ := List.getElem?_of_mem (zAl_mem (tr := zTr (zad B0 sp) fq) h2)
    exact lv_iinc hx hb hd hh (k := j) hj rfl (by omega) rfl (fun ls' h' => k ls' (zLh_sto hcat hn h'))
  | _ => cases hs
set_option maxHeartbeats 4000000 in
theorem zBr_ok (hc : zCtx D C B0 sp fq sc M p s m args meth c) {op : Instr} {len pc pc' : Nat} {st st' : List Value} {ls : Array Slot} (hd : decode (zBy M) pc = .ok (op, len)) (hk : zLk op len = true) (hs : zBr op pc st = some (pc', st'))
    (k : W p l e R s m args below meth c H locs cells slots Q (F0 m pc' ls (st'.map (zTr (zad B0 sp) fq)))) : W p l e R s m args below meth c H locs cells slots Q (F0 m pc ls (st.map (zTr (zad B0 sp) fq))) := by
  obtain ⟨hx, hb, hml, hown, hts, hK, hRO, hin, hB, hfq⟩ := hc
  cases op with
  | goto off =>
    obtain rfl : len = 3 := by simpa [zLk] using hk
    simp only [zBr] at hs
    cases ht : zTg pc off with
    | none => rw [ht] at hs; cases hs
    | some t => rw [ht] at hs; cases hs; exact lv_goto hx hb hd (zTg_some ht) k
  | ifCond cd off =>
    obtain rfl : len = 3 := by simpa [zLk] using hk
    obtain ⟨x, t, rfl, ht, rfl⟩ := z_b1_some hs
    cases cd with
    | eq => exact lv_if_eq hx hb hd ht (fun h => by simpa [zC1, h] using k) (fun h => by simpa [zC1, h] using k)
    | ne => exact lv_if_ne hx hb hd ht (fun h => by simpa [zC1, h] using k) (fun h => by simpa [zC1, h] using k)
    | lt => exact lv_if_lt hx hb hd ht (fun h => by simpa [zC1, h] using k) (fun h => by simpa [zC1, h] using k)
    | ge => exact lv_if_ge hx hb hd ht (fun h => by simpa [zC1, Int32.not_lt.mpr h] using k) (fun h => by simpa [zC1, Int32.not_le.mp h] using k)
    | gt => exact lv_if_gt hx hb hd ht (fun h => by simpa [zC1, h] using k) (fun h => by simpa [zC1, h] using k)
    | le => exact lv_if_le hx hb hd ht (fun h => by simpa [zC1, Int32.not_lt.mpr h] using k) (fun h => by simpa [zC1, Int32.not_le.mp h] using k)
  | if_icmp cd off =>
    obtain rfl : len = 3 := by simpa [zLk] using hk
    obtain ⟨x, y, t, rfl, ht, rfl⟩ := z_b2_some hs
    cases cd with
    | eq => exact lv_icmp_eq hx hb hd ht (fun h => by simpa [zC2, h] using k) (fun h => by simpa [zC2, h] using k)
    | ne => exact lv_icmp_ne hx hb hd ht (fun h => by simpa [zC2, h] using k) (fun h => by simpa [zC2, h] using k)
    | lt => exact lv_icmp_lt hx hb hd ht (fun h => by simpa [zC2, h] using k) (fun h => by simpa [zC2, h] using k)
    | ge => exact lv_icmp_ge hx hb hd ht (fun h => by simpa [zC2, Int32.not_lt.mpr h] using k) (fun h => by simpa [zC2, Int32.not_le.mp h] using k)
    | gt => exact lv_icmp_gt hx hb hd ht (fun h => by simpa [zC2, h] using k) (fun h => by simpa [zC2, h] using k)
    | le => exact lv_icmp_le hx hb hd ht (fun h => by simpa [zC2, Int32.not_lt.mpr h] using k) (fun h => by simpa [zC2, Int32.not_le.mp h] using k)
  | tableswitch d lo hi offs =>
    simp only [zBr] at hs
    unfold z_ts at hs
    split at hs
    · rename_i x r
      by_cases h0 : x.toInt < lo ∨ hi < x.toInt
      · rw [if_pos h0] at hs
        cases ht : zTg pc d with
        | none => rw [ht] at hs; cases hs
        | some t => rw [ht] at hs; cases hs; exact lv_tableOut hx hb hd h0 (zTg_some ht) k
      · rw [if_neg h0] at hs
        cases ho : offs[(x.toInt - lo).toNat]? with
        | none => rw [ho] at hs; cases hs
        | some o =>
          rw [ho] at hs
          simp only at hs
          cases ht : zTg pc o with
          | none => rw [ht] at hs; cases hs
          | some t => rw [ht] at hs; cases hs; exact lv_tableIn hx hb hd (fun h => h0 (Or.inl h)) (fun h => h0 (Or.inr h)) ho (zTg_some ht) k
    · cases hs
  | lookupswitch d ps =>
    simp only [zBr] at hs
    unfold z_lk' at hs
    split at hs
    · rename_i x r
      by_cases h0 : (ps.toList.zip (ps.toList.drop 1)).all (fun (a, next) => a.1 < next.1) = true
      · rw [if_pos h0] at hs
        cases ht : zTg pc (Op.lookupswitch.offset ps.toList d x.toInt) with
        | none => rw [ht] at hs; cases hs
        | some t => rw [ht] at hs; cases hs; exact lv_lookup hx hb hd h0 rfl (zTg_some ht) k
      · rw [if_neg h0] at hs; cases hs
    · cases hs
  | _ => cases hs
end
end
section
/-! ===== soundness: the heap's instructions, words and pictures ===== -/
theorem zFl_mem {o i ci k : Nat} (h : zFl o i = some (ci, k)) : ∃ w, ((o, i), (ci, k, w)) ∈ zFt := by
  unfold zFl at h
  cases hk : zFt.lookup (o, i) with
  | none => rw [hk] at h; cases h
  | some q =>
    obtain ⟨a, b, w⟩ := q
    rw [hk] at h
    cases h
    exact ⟨w, z_lk hk⟩
theorem zFl_in {o i ci k : Nat} (h : zFl o i = some (ci, k)) (h1 : ci ≠ 100) : ∃ r : vw_C, zCl[ci]? = some r ∧ k < r.2.2 ∧ Cond.fieldLink (zO o) i (r.2.1 k).1 (r.2.1 k).2.1 (r.2.1 k).2.2.1 ∈ zTb := by
  obtain ⟨w, hm⟩ := zFl_mem h
  have h2 := List.all_eq_true.mp z_okFt _ hm
  unfold z_okF at h2
  simp only at h2
  cases hr : zCl[ci]? with
  | none =>
    rw [hr] at h2
    simp only [Bool.and_eq_true, decide_eq_true_eq] at h2
    exact absurd h2.1 h1
  | some r =>
    rw [hr] at h2
    simp only [Bool.and_eq_true, decide_eq_true_eq] at h2
    exact ⟨r, rfl, h2.1, z_wd_in h2.2⟩
theorem zFl_str {o i k : Nat} (h : zFl o i = some (100, k)) : (k = 0 → Cond.fieldLink (zO o) i "java/lang/String" "value" "[B" ∈ zTb) ∧ (k ≠ 0 → Cond.fieldLink (zO o) i "java/lang/String" "coder" "B" ∈ zTb) := by
  obtain ⟨w, hm⟩ := zFl_mem h
  have h2 := List.all_eq_true.mp z_okFt _ hm
  unfold z_okF at h2
  have hn : zCl[100]? = none := rfl
  simp only [hn, Bool.and_eq_true, decide_eq_true_eq] at h2
  constructor
  · intro hk
    rw [if_pos hk] at h2
    exact z_wd_in h2.2
  · intro hk
    rw [if_neg hk] at h2
    exact z_wd_in h2.2
theorem z_uws {ci : Nat} {r : vw_C} (h : zCl[ci]? = some r) : ∀ w ∈ u_ws r.1 r.2.1 r.2.2, w ∈ zTb := by
  intro w hw
  have h1 := List.all_eq_true.mp z_okU r (List.mem_of_getElem? h)
  have h2 := List.all_eq_true.mp h1 w hw
  rw [Bool.and_eq_true] at h2
  exact List.mem_filter.mpr ⟨List.contains_iff_mem.mp h2.1, h2.2⟩
theorem zCl_lt {ci : Nat} {r : vw_C} (h : zCl[ci]? = some r) : ci < 9 := (List.getElem?_eq_some_iff.mp h).1
theorem zFc_lt {ci k c : Nat} (h : zFc ci k = some c) : k < ((zFs[ci]?).getD []).length := (List.getElem?_eq_some_iff.mp h).1
def z_Tp (r : vw_C) (k : Nat) : Nat → Prop
  | 0 => parseFieldDescriptor (r.2.1 k).2.2.1 = some .int ∧ (r.2.1 k).2.2.2 = false
  | 1 => parseFieldDescriptor (r.2.1 k).2.2.1 = some .boolean ∧ (r.2.1 k).2.2.2 = false
  | 2 => parseFieldDescriptor (r.2.1 k).2.2.1 = some .long ∧ (r.2.1 k).2.2.2 = false
  | 3 => (r.2.1 k).1 = r.1 ∧ (r.2.1 k).2.2.2 = true ∧ ((∃ z, parseFieldDescriptor (r.2.1 k).2.2.1 = some (.object z)) ∨ ∃ z, parseFieldDescriptor (r.2.1 k).2.2.1 = some (.array z))
  | _ => (r.2.1 k).2.2.2 = false ∧ ∃ z, parseFieldDescriptor (r.2.1 k).2.2.1 = some (.object z)
theorem z_T {ci k c : Nat} {r : vw_C} (h : zCl[ci]? = some r) (hk : k < 44) (hc : zFc ci k = some c) : k < r.2.2 ∧ z_Tp r k c := by
  have h1 := List.all_eq_true.mp (List.all_eq_true.mp z_okTt ci (List.mem_range.mpr (zCl_lt h))) k (List.mem_range.mpr hk)
  unfold z_okT at h1
  rw [h, hc] at h1
  simp only [Bool.and_eq_true, decide_eq_true_eq] at h1
  refine ⟨h1.1, ?_⟩
  have h2 := h1.2
  match c, h2 with
  | 0, h2 => simpa [z_Tp] using h2
  | 1, h2 => simpa [z_Tp] using h2
  | 2, h2 => simpa [z_Tp] using h2
  | 3, h2 =>
    simp only [Bool.and_eq_true, decide_eq_true_eq] at h2
    refine ⟨h2.1.1, h2.1.2, ?_⟩
    have h3 := h2.2
    split at h3
    · rename_i z hz; exact Or.inl ⟨z, hz⟩
    · rename_i z hz; exact Or.inr ⟨z, hz⟩
    · cases h3
  | n + 4, h2 =>
    simp only [Bool.and_eq_true, decide_eq_true_eq] at h2
    refine ⟨h2.1, ?_⟩
    have h3 := h2.2
    split at h3
    · rename_i z hz; exact ⟨z, hz⟩
    · cases h3
theorem zCo_at {ci : Nat} {r : vw_C} (h : zCl[ci]? = some r) : ∃ o, zCo[ci]? = some o ∧ zO o = r.1 ∧ r.2.2 = ((zFs[ci]?).getD []).length := by
  have h1 := List.all_eq_true.mp z_okCo ci (List.mem_range.mpr (zCl_lt h))
  rw [h] at h1
  cases ho : zCo[ci]? with
  | none => rw [ho] at h1; cases h1
  | some o =>
    rw [ho] at h1
    simp only [Bool.and_eq_true, decide_eq_true_eq] at h1
    exact ⟨o, rfl, h1.1, h1.2⟩
set_option maxRecDepth 100000 in
theorem z_fsl : ∀ ci, ci < 9 → ((zFs[ci]?).getD []).length ≤ 43 := by decide +kernel
theorem z_k44 {ci k c : Nat} {r : vw_C} (h : zCl[ci]? = some r) (hc : zFc ci k = some c) : k < 44 := by
  have h1 := zFc_lt hc
  have h2 := z_fsl ci (zCl_lt h)
  omega
set_option maxRecDepth 100000 in
theorem z_okN : zCl.all (fun r => (List.range r.2.2).all (fun a => (List.range r.2.2).all (fun b => decide (a = b) || decide ((r.2.1 a).2.1 ≠ (r.2.1 b).2.1)))) = true := by decide +kernel
theorem z_nm {ci : Nat} {r : vw_C} (h : zCl[ci]? = some r) : ∀ a, a < r.2.2 → ∀ b, b < r.2.2 → a ≠ b → (r.2.1 a).2.1 ≠ (r.2.1 b).2.1 := by
  intro a ha b hb hab
  have h1 := List.all_eq_true.mp (List.all_eq_true.mp (List.all_eq_true.mp z_okN r (List.mem_of_getElem? h)) a (List.mem_range.mpr ha)) b (List.mem_range.mpr hb)
  simp only [Bool.or_eq_true, decide_eq_true_eq] at h1
  rcases h1 with h1 | h1
  · exact absurd h1 hab
  · exact h1
/-- a class's field types -/
def z_ty (r : vw_C) (k : Nat) : FieldType := (parseFieldDescriptor (r.2.1 k).2.2.1).getD .int
theorem z_ty_ok {ci : Nat} {r : vw_C} (h : zCl[ci]? = some r) : ∀ k, k < r.2.2 → parseFieldDescriptor (r.2.1 k).2.2.1 = some (z_ty r k) := by
  intro k hk
  obtain ⟨o, -, -, hl⟩ := zCo_at h
  have hc : ∃ c, zFc ci k = some c := by
    unfold zFc
    exact ⟨_, List.getElem?_eq_getElem (by omega)⟩
  obtain ⟨c, hc⟩ := hc
  have h1 := (z_T h (z_k44 h hc) hc).2
  unfold z_ty
  match c, h1 with
  | 0, h1 => rw [h1.1]; rfl
  | 1, h1 => rw [h1.1]; rfl
  | 2, h1 => rw [h1.1]; rfl
  | 3, h1 =>
    rcases h1.2.2 with ⟨z, hz⟩ | ⟨z, hz⟩
    · rw [hz]; rfl
    · rw [hz]; rfl
  | n + 4, h1 =>
    obtain ⟨z, hz⟩ := h1.2
    rw [hz]; rfl
theorem zin_iff {i : Int32} {n : Nat} : zin i n = true ↔ vp_in i n := by
  unfold zin vp_in
  rw [decide_eq_true_eq]
theorem zOb_iff {g : zSg} {a ci : Nat} : zOb g a ci = true ↔ a < g.1 ∧ zKi a = some (.inr ci) := by
  unfold zOb
  rw [Bool.and_eq_true, decide_eq_true_eq, decide_eq_true_eq]
theorem zLn_iff {a t n : Nat} : zLn a = some (t, n) ↔ zKi a = some (.inl (t, n)) := by
  unfold zLn
  split
  · rename_i q hq
    rw [hq]
    constructor
    · intro h; cases h; rfl
    · intro h; cases h; rfl
  · rename_i hq
    constructor
    · intro h; cases h
    · intro h; exact absurd h (hq _)
/-- slots of the first n cells -/
def zSz : ((Nat × Nat) ⊕ Nat) → Nat
  | .inl q => q.2
  | .inr ci => ((zFs[ci]?).getD []).length
def zSl (n : Nat) : Nat := ((zKL.take n).map zSz).sum
theorem zSl_succ {n : Nat} {kd : (Nat × Nat) ⊕ Nat} (h : zKi n = some kd) : zSl (n + 1) = zSl n + zSz kd := by
  unfold zSl
  unfold zKi at h
  rw [List.take_add_one, h]
  simp
theorem zSl_le {n m : Nat} (h : n ≤ m) : zSl n ≤ zSl m := by
  obtain ⟨j, rfl⟩ := Nat.le.dest h
  induction j with
  | zero => exact Nat.le_refl _
  | succ j ih =>
    refine Nat.le_trans (ih (by omega)) ?_
    cases hk : zKi (n + j) with
    | none =>
      unfold zKi at hk
      show zSl (n + j) ≤ zSl (n + j + 1)
      unfold zSl
      rw [List.take_add_one, hk]
      simp
    | some kd =>
      show zSl (n + j) ≤ zSl (n + j + 1)
      rw [zSl_succ hk]
      omega
theorem zad_lt {B0 : Nat} {sp : Nat → Nat} {a : Nat} (h : a < 1000) : zad B0 sp a = B0 + a := if_pos h
theorem zad_ge {B0 : Nat} {sp : Nat → Nat} {a : Nat} (h : ¬ a < 1000) : zad B0 sp a = sp a := if_neg h
theorem zG_cons_self {g : zSg} {a k b : Nat} : zG (g.1, ((a, k), b) :: g.2) a k = some b := by
  unfold zG
  simp
theorem zG_cons_ne {g : zSg} {a k b a' k' : Nat} (h : ¬ (a' = a ∧ k' = k)) : zG (g.1, ((a, k), b) :: g.2) a' k' = zG g a' k' := by
  unfold zG
  rw [List.lookup_cons]
  have : ((a', k') == (a, k)) = false := by
    rw [beq_eq_false_iff_ne]
    intro e
    cases e
    exact h ⟨rfl, rfl⟩
  rw [this]
theorem zFree_none {g : zSg} (h : zFree g = true) (k : Nat) : zG g g.1 k = none := by
  unfold zG
  cases hq : g.2.lookup (g.1, k) with
  | none => rfl
  | some b =>
    have hm := z_lk hq
    unfold zFree at h
    rw [Bool.and_eq_true] at h
    have h1 := List.all_eq_true.mp h.2 _ hm
    simp at h1
theorem zFree_lt {g : zSg} (h : zFree g = true) : g.1 < 1000 := by
  unfold zFree at h
  rw [Bool.and_eq_true, decide_eq_true_eq] at h
  exact h.1
theorem zBk_ne {h : zHp} {a b : Nat} (hb : b ≠ a) : (zBk h a).1 b = h.1 b ∧ (zBk h a).2.1 b = h.2.1 b ∧ (zBk h a).2.2 b = h.2.2 b := by
  refine ⟨?_, ?_, ?_⟩ <;> · funext y; simp [zBk, hb]
/-- the upper bound of the heap's size, out of the machine's own books -/
theorem W_size {p : Program} {l : Launch} {e : Env} {R : Room} {s : State} {m : MethodId} {args : Array Value} {below : List Frame} {meth : Method} {c : Code} {H : Heap} {locs : List Loc} {cells slots : Nat} {Q : State → Prop} {g : JFrame}
    (k : H.size ≤ s.heap.size + cells → W p l e R s m args below meth c H locs cells slots Q g) : W p l e R s m args below meth c H locs cells slots Q g := by
  intro T hT X
  exact k (by rw [← hT]; exact X.heapSize) T hT X
theorem z_size {D : va_G} {C : Nat → ClassId} {B0 : Nat} {sp : Nat → Nat} {g : zSg} {h : zHp} {s : State} {H : Heap} {locs : List Loc} {cells : Nat} (hg : g.1 ≤ 1000) (hP : va_P D zCl (zWo C (zad B0 sp) g h) H) (hS : va_S (zA B0) s.heap H locs) (hcl : s.heap.size + cells = B0 + g.1) (hB : B0 ≤ s.heap.size) (hu : H.size ≤ s.heap.size + cells) : H.size = B0 + g.1 := by
  have h1 := hS.1
  by_cases h0 : g.1 = 0
  · omega
  · have h2 := (hP (g.1 - 1) _ (zWo_get (by omega))).lt
    simp only [zad_lt (B0 := B0) (sp := sp) (show g.1 - 1 < 1000 by omega)] at h2
    omega
end
section
/-! ===== soundness: reads of the heap ===== -/
section
variable {p : Program} {l : Launch} {e : Env} {R : Room} {s : State} {m : MethodId} {args : Array Value} {below : List Frame} {meth : Method} {c : Code} {H : Heap} {locs : List Loc} {cells slots : Nat} {Q : State → Prop}
variable {D : va_G} {C : Nat → ClassId} {B0 : Nat} {sp : Nat → Nat} {fq : Value} {sc : zSc} {M : Nat} {g : zSg} {h : zHp} {pc i : Nat} {st st' : List Value} {ls : Array Slot}
theorem z_bl (j : Nat) (hj : j < 5) : zBl.getD j 0 = (zBt.getD j []).length := by
  match j, hj with
  | 0, _ => rfl
  | 1, _ => rfl
  | 2, _ => rfl
  | 3, _ => rfl
  | 4, _ => rfl
theorem z_ne14 {a : Nat} {g : zSg} (ha : a < g.1) (hg : g.1 ≤ 1000) : a ≠ 1400 := by omega
theorem zget_ok (hc : zCtx D C B0 sp fq sc M p s m args meth c) (hg : g.1 ≤ 1000) (hP : va_P D zCl (zWo C (zad B0 sp) g h) H) (hS : va_S (zA B0) s.heap H locs) (hd : decode (zBy M) pc = .ok (.getfield i, 3)) (hs : z_get (zOn M) i g h st = some st')
    (k : W p l e R s m args below meth c H locs cells slots Q (F0 m (pc + 3) ls (st'.map (zTr (zad B0 sp) fq)))) : W p l e R s m args below meth c H locs cells slots Q (F0 m pc ls (st.map (zTr (zad B0 sp) fq))) := by
  obtain ⟨hx, hb, hml, hown, hts, hK, hRO, hin, hB, hfq⟩ := hc
  unfold z_get at hs
  split at hs
  · rename_i a r
    cases hf : zFl (zOn M) i with
    | none => rw [hf] at hs; cases hs
    | some q =>
      obtain ⟨ci, kf⟩ := q
      rw [hf] at hs
      simp only at hs
      by_cases h100 : ci = 100
      · subst h100
        rw [if_pos rfl] at hs
        by_cases ha : 1000 ≤ a ∧ a < 1005
        · rw [if_pos ha] at hs
          obtain ⟨hw1, hw2⟩ := zFl_str hf
          obtain ⟨j, rfl⟩ := Nat.le.dest ha.1
          have hj : j < 5 := by have h9 : (1000 + j : Nat) < 1005 := ha.2; omega
          have hE := hRO.1.1 j hj
          rw [List.map_cons, zTr_ref (by show (_ : Nat) ≠ 1400; omega), zad_ge (by show ¬ (_ : Nat) < 1000; omega)]
          by_cases hk : kf = 0
          · rw [if_pos hk] at hs
            cases hs
            rw [List.map_cons, zTr_ref (by show (_ : Nat) ≠ 1400; omega), zad_ge (by show ¬ (_ : Nat) < 1000; omega), show 1000 + j + 100 = 1100 + j by omega] at k
            have hw := hts _ (hw1 hk)
            generalize zO (zOn M) = own at hown hw
            exact vk_getf hx hb hE.2.2.1 hS hown hw (fun _ z => z) hd k
          · rw [if_neg hk] at hs
            cases hs
            have hw := hts _ (hw2 hk)
            generalize zO (zOn M) = own at hown hw
            exact vk_getf hx hb hE.2.1 hS hown hw (fun _ z => z) hd k
        · rw [if_neg ha] at hs; cases hs
      · rw [if_neg h100] at hs
        obtain ⟨r0, hr0, hkf, hw⟩ := zFl_in hf h100
        by_cases ho : zOb g a ci = true
        · rw [if_pos ho] at hs
          obtain ⟨ha, hki⟩ := zOb_iff.mp ho
          cases hfc : zFc ci kf with
          | none => rw [hfc] at hs; cases hs
          | some cd =>
            rw [hfc] at hs
            simp only at hs
            cases hv : z_gf g h a kf cd with
            | none => rw [hv] at hs; cases hs
            | some v =>
              rw [hv] at hs
              cases hs
              have hw := hts _ hw
              have hu := z_uws hr0
              generalize zO (zOn M) = own at hown hw
              rw [List.map_cons, zTr_ref (z_ne14 ha hg)]
              have he := zWo_get (C := C) (ad := zad B0 sp) (h := h) ha
              rw [zCe_ob hki] at he
              have hval : zFv (zad B0 sp) g h a kf cd = zTr (zad B0 sp) fq v := by
                match cd, hv with
                | 0, hv => cases hv; rfl
                | 1, hv => cases hv; rfl
                | 2, hv => cases hv; rfl
                | 3, hv =>
                  simp only [z_gf] at hv
                  cases hz : zG g a kf with
                  | none => rw [hz] at hv; cases hv
                  | some b =>
                    rw [hz] at hv
                    simp only at hv
                    by_cases hb1 : b < 1000
                    · rw [if_pos hb1] at hv
                      cases hv
                      rw [zTr_ref (by omega)]
                      simp [zFv, hz, va_rf]
                    · rw [if_neg hb1] at hv; cases hv
                | 4, hv =>
                  simp only [z_gf] at hv
                  cases hz : h.2.2 a kf with
                  | none => rw [hz] at hv; cases hv
                  | some b =>
                    rw [hz] at hv
                    simp only at hv
                    by_cases hb1 : zTw b = true
                    · rw [if_pos hb1] at hv
                      cases hv
                      have hb2 : b ≠ 1400 := by
                        intro hbb
                        rw [hbb] at hb1
                        exact absurd hb1 (by decide)
                      rw [zTr_ref hb2]
                      simp [zFv, hz, va_rf]
                    · rw [if_neg hb1] at hv; cases hv
                | n + 5, hv => simp [z_gf] at hv
              exact va_get (ci := ci) (C := r0.1) (T := r0.2.1) (N := r0.2.2) hx hb hts hu hown hK hP a he hr0 kf hkf hw (fun _ z => z) (zFv_at hfc) hd (by rw [hval]; exact k)
        · rw [if_neg ho] at hs; cases hs
  · cases hs
theorem ziald_ok (hc : zCtx D C B0 sp fq sc M p s m args meth c) (hg : g.1 ≤ 1000) (hP : va_P D zCl (zWo C (zad B0 sp) g h) H) (hS : va_S (zA B0) s.heap H locs) (hd : decode (zBy M) pc = .ok (.iaload, 1)) (hs : z_iald sc g h st = some st')
    (k : W p l e R s m args below meth c H locs cells slots Q (F0 m (pc + 1) ls (st'.map (zTr (zad B0 sp) fq)))) : W p l e R s m args below meth c H locs cells slots Q (F0 m pc ls (st.map (zTr (zad B0 sp) fq))) := by
  obtain ⟨hx, hb, hml, hown, hts, hK, hRO, hin, hB, hfq⟩ := hc
  unfold z_iald at hs
  split at hs
  · rename_i j a r
    by_cases h13 : a = 1300
    · subst h13
      rw [if_pos rfl] at hs
      by_cases hi : zin j sc.1 = true
      · rw [if_pos hi] at hs
        cases hs
        have h9 := hRO.2.2.2.2.2.2.2.2
        exact va_sld hx hb h9.1 (by omega) (fun z => by unfold zA at z; omega) hS (zin_iff.mp hi) hd k
      · rw [if_neg hi] at hs; cases hs
    · rw [if_neg h13] at hs
      by_cases ha : a < g.1
      · rw [if_pos ha] at hs
        split at hs
        · rename_i n hn
          by_cases hi : zin j n = true
          · rw [if_pos hi] at hs
            cases hs
            have he := zWo_get (C := C) (ad := zad B0 sp) (h := h) ha
            rw [zCe_i (zLn_iff.mp hn)] at he
            rw [List.map_cons, List.map_cons, zTr_ref (z_ne14 ha hg)]
            exact va_iald hx hb hK hP a 0 he rfl (zin_iff.mp hi) hd k
          · rw [if_neg hi] at hs; cases hs
        · cases hs
      · rw [if_neg ha] at hs; cases hs
  · cases hs
theorem zbald_ok (hc : zCtx D C B0 sp fq sc M p s m args meth c) (hg : g.1 ≤ 1000) (hP : va_P D zCl (zWo C (zad B0 sp) g h) H) (hS : va_S (zA B0) s.heap H locs) (hd : decode (zBy M) pc = .ok (.baload, 1)) (hs : z_bald g h st = some st')
    (k : W p l e R s m args below meth c H locs cells slots Q (F0 m (pc + 1) ls (st'.map (zTr (zad B0 sp) fq)))) : W p l e R s m args below meth c H locs cells slots Q (F0 m pc ls (st.map (zTr (zad B0 sp) fq))) := by
  obtain ⟨hx, hb, hml, hown, hts, hK, hRO, hin, hB, hfq⟩ := hc
  unfold z_bald at hs
  split at hs
  · rename_i j a r
    by_cases h13 : 1100 ≤ a ∧ a < 1105
    · rw [if_pos h13] at hs
      obtain ⟨b, rfl⟩ := Nat.le.dest h13.1
      have hb5 : b < 5 := by have h9 : (1100 + b : Nat) < 1105 := (by first | exact h13.2 | exact h11.2); omega
      rw [show 1100 + b - 1100 = b by omega] at hs
      by_cases hi : zin j (zBt.getD b []).length = true
      · rw [if_pos hi] at hs
        cases hs
        have hE := (hRO.1.1 b hb5).2.2.2
        rw [z_bl b hb5] at hE
        rw [List.map_cons, List.map_cons, zTr_ref (by show (_ : Nat) ≠ 1400; omega), zad_ge (by show ¬ (_ : Nat) < 1000; omega)]
        exact va_tb hx hb hE hS (zin_iff.mp hi) rfl hd k
      · rw [if_neg hi] at hs; cases hs
    · rw [if_neg h13] at hs
      by_cases ha : a < g.1
      · rw [if_pos ha] at hs
        split at hs
        · rename_i n hn
          by_cases hi : zin j n = true
          · rw [if_pos hi] at hs
            cases hs
            have he := zWo_get (C := C) (ad := zad B0 sp) (h := h) ha
            rw [zCe_z (zLn_iff.mp hn)] at he
            rw [List.map_cons, List.map_cons, zTr_ref (z_ne14 ha hg)]
            exact va_zald hx hb hK hP a 1 he rfl (zin_iff.mp hi) hd k
          · rw [if_neg hi] at hs; cases hs
        · cases hs
      · rw [if_neg ha] at hs; cases hs
  · cases hs
theorem zlald_ok (hc : zCtx D C B0 sp fq sc M p s m args meth c) (hg : g.1 ≤ 1000) (hP : va_P D zCl (zWo C (zad B0 sp) g h) H) (hS : va_S (zA B0) s.heap H locs) (hd : decode (zBy M) pc = .ok (.laload, 1)) (hs : z_lald g h st = some st')
    (k : W p l e R s m args below meth c H locs cells slots Q (F0 m (pc + 1) ls (st'.map (zTr (zad B0 sp) fq)))) : W p l e R s m args below meth c H locs cells slots Q (F0 m pc ls (st.map (zTr (zad B0 sp) fq))) := by
  obtain ⟨hx, hb, hml, hown, hts, hK, hRO, hin, hB, hfq⟩ := hc
  unfold z_lald at hs
  split at hs
  · rename_i j a r
    by_cases h13 : a = 1200
    · subst h13
      rw [if_pos rfl] at hs
      by_cases hi : zin j 6 = true
      · rw [if_pos hi] at hs
        cases hs
        exact va_tl hx hb hRO.2.2.2.1 hS (zin_iff.mp hi) rfl hd k
      · rw [if_neg hi] at hs; cases hs
    · rw [if_neg h13] at hs
      by_cases ha : a < g.1
      · rw [if_pos ha] at hs
        split at hs
        · rename_i n hn
          by_cases hi : zin j n = true
          · rw [if_pos hi] at hs
            cases hs
            have he := zWo_get (C := C) (ad := zad B0 sp) (h := h) ha
            rw [zCe_l (zLn_iff.mp hn)] at he
            rw [List.map_cons, List.map_cons, zTr_ref (z_ne14 ha hg)]
            exact va_lald hx hb hK hP a 2 he rfl (zin_iff.mp hi) hd k
          · rw [if_neg hi] at hs; cases hs
        · cases hs
      · rw [if_neg ha] at hs; cases hs
  · cases hs
theorem zaald_ok (hc : zCtx D C B0 sp fq sc M p s m args meth c) (hg : g.1 ≤ 1000) (hP : va_P D zCl (zWo C (zad B0 sp) g h) H) (hS : va_S (zA B0) s.heap H locs) (hd : decode (zBy M) pc = .ok (.aaload, 1)) (hs : z_aald g h st = some st')
    (k : W p l e R s m args below meth c H locs cells slots Q (F0 m (pc + 1) ls (st'.map (zTr (zad B0 sp) fq)))) : W p l e R s m args below meth c H locs cells slots Q (F0 m pc ls (st.map (zTr (zad B0 sp) fq))) := by
  obtain ⟨hx, hb, hml, hown, hts, hK, hRO, hin, hB, hfq⟩ := hc
  unfold z_aald at hs
  split at hs
  · rename_i j a r
    by_cases ha : a < g.1
    · rw [if_pos ha] at hs
      split at hs
      · rename_i n hn
        by_cases hi : zin j n = true
        · rw [if_pos hi] at hs
          cases hz : h.2.2 a j.toNatClampNeg with
          | none => rw [hz] at hs; cases hs
          | some b =>
            rw [hz] at hs
            simp only at hs
            by_cases hb1 : zTk b = true
            · rw [if_pos hb1] at hs
              cases hs
              have hb2 : b ≠ 1400 := by
                intro hbb
                rw [hbb] at hb1
                exact absurd hb1 (by decide)
              have he := zWo_get (C := C) (ad := zad B0 sp) (h := h) ha
              rw [zCe_q (zLn_iff.mp hn)] at he
              rw [List.map_cons, List.map_cons, zTr_ref (z_ne14 ha hg)]
              rw [List.map_cons, zTr_ref hb2] at k
              exact va_aldq hx hb hK hP a 3 he rfl (zin_iff.mp hi) hd (by rw [hz]; exact k)
            · rw [if_neg hb1] at hs; cases hs
        · rw [if_neg hi] at hs; cases hs
      · cases hs
    · rw [if_neg ha] at hs; cases hs
  · cases hs
theorem zCe_arr {C : Nat → ClassId} {ad : Nat → Nat} {g : zSg} {h : zHp} {a t n : Nat} (hk : zKi a = some (.inl (t, n))) : ∃ (t0 : Nat) (ty : FieldType) (x : vp_A), zCe C ad g h a = .inl (C t0, x) ∧ x.1 = n ∧ (zTys C)[t0]? = some (C t0, ty) := by
  match t, hk with
  | 0, hk => exact ⟨0, .int, _, zCe_i hk, rfl, rfl⟩
  | 1, hk => exact ⟨1, .boolean, _, zCe_z hk, rfl, rfl⟩
  | 2, hk => exact ⟨2, .long, _, zCe_l hk, rfl, rfl⟩
  | t + 3, hk =>
    refine ⟨3, .object "UntoldFacts$Talk", (n, .inr (.inr (.inr (.inr (fun j => (h.2.2 a j).map ad))))), ?_, rfl, rfl⟩
    unfold zCe
    rw [hk]
    rfl
theorem zalen_ok (hc : zCtx D C B0 sp fq sc M p s m args meth c) (hg : g.1 ≤ 1000) (hP : va_P D zCl (zWo C (zad B0 sp) g h) H) (hS : va_S (zA B0) s.heap H locs) (hd : decode (zBy M) pc = .ok (.arraylength, 1)) (hs : z_alen sc g st = some st')
    (k : W p l e R s m args below meth c H locs cells slots Q (F0 m (pc + 1) ls (st'.map (zTr (zad B0 sp) fq)))) : W p l e R s m args below meth c H locs cells slots Q (F0 m pc ls (st.map (zTr (zad B0 sp) fq))) := by
  obtain ⟨hx, hb, hml, hown, hts, hK, hRO, hin, hB, hfq⟩ := hc
  unfold z_alen at hs
  split at hs
  · rename_i a r
    by_cases h13 : a = 1300
    · subst h13
      rw [if_pos rfl] at hs
      cases hs
      have h9 := hRO.2.2.2.2.2.2.2.2
      exact va_slen (b := sp 1300) hx hb h9.1 (by omega) (fun z => by unfold zA at z; omega) hS hd k
    · rw [if_neg h13] at hs
      by_cases h12 : a = 1200
      · subst h12
        rw [if_pos rfl] at hs
        cases hs
        exact va_tlen hx hb hRO.2.2.2.1 hS rfl hd k
      · rw [if_neg h12] at hs
        by_cases h11 : 1100 ≤ a ∧ a < 1105
        · rw [if_pos h11] at hs
          obtain ⟨b, rfl⟩ := Nat.le.dest h11.1
          have hb5 : b < 5 := by have h9 : (1100 + b : Nat) < 1105 := (by first | exact h13.2 | exact h11.2); omega
          rw [show 1100 + b - 1100 = b by omega] at hs
          cases hs
          have hE := (hRO.1.1 b hb5).2.2.2
          rw [z_bl b hb5] at hE
          rw [List.map_cons, zTr_ref (by show (_ : Nat) ≠ 1400; omega), zad_ge (by show ¬ (_ : Nat) < 1000; omega)]
          exact va_tlen hx hb hE hS rfl hd k
        · rw [if_neg h11] at hs
          by_cases ha : a < g.1
          · rw [if_pos ha] at hs
            split at hs
            · rename_i t n hn
              cases hs
              have he := zWo_get (C := C) (ad := zad B0 sp) (h := h) ha
              obtain ⟨t0, ty, x, h1, h2, h3⟩ := zCe_arr (C := C) (ad := zad B0 sp) (g := g) (h := h) (zLn_iff.mp hn)
              rw [h1] at he
              rw [List.map_cons, zTr_ref (z_ne14 ha hg)]
              exact va_alen hx hb hK hP a t0 he h3 (by rw [h2]) hd k
            · cases hs
          · rw [if_neg ha] at hs; cases hs
  · cases hs
end
end
section
/-! ===== soundness: writes of the heap ===== -/
section
variable {p : Program} {l : Launch} {e : Env} {R : Room} {s : State} {m : MethodId} {args : Array Value} {below : List Frame} {meth : Method} {c : Code} {H : Heap} {locs : List Loc} {cells slots : Nat} {Q : State → Prop}
variable {D : va_G} {C : Nat → ClassId} {B0 : Nat} {sp : Nat → Nat} {fq : Value} {sc : zSc} {M : Nat} {g g' : zSg} {h h' : zHp} {pc i : Nat} {st st' : List Value} {ls : Array Slot}
theorem z_ini {ci : Nat} {r : vw_C} (hr : zCl[ci]? = some r) (hi : zIni M = ci) : zIni M ≠ 99 ∧ zO (zOn M) = r.1 := by
  have h9 := zCl_lt hr
  refine ⟨by omega, ?_⟩
  unfold zIni at hi
  by_cases hn : (zY M).name = "<init>"
  · rw [if_pos hn] at hi
    obtain ⟨o, h1, h2, -⟩ := zCo_at hr
    have hl : zCo.idxOf (zOn M) < zCo.length := by
      rw [hi]
      exact (List.getElem?_eq_some_iff.mp h1).1
    have h3 := List.getElem_idxOf hl
    have h4 := List.getElem?_eq_getElem hl
    rw [h3, hi, h1] at h4
    rw [← h2, Option.some.inj h4]
  · rw [if_neg hn] at hi
    omega
theorem zput_ok (hc : zCtx D C B0 sp fq sc M p s m args meth c) (hg : g.1 ≤ 1000) (hP : va_P D zCl (zWo C (zad B0 sp) g h) H) (hS : va_S (zA B0) s.heap H locs) (hd : decode (zBy M) pc = .ok (.putfield i, 3)) (hs : z_put (zIni M) (zOn M) i g h st = some (st', g', h'))
    (k : ∀ (H1 : Heap) (locs1 : List Loc), va_P D zCl (zWo C (zad B0 sp) g' h') H1 → va_S (zA B0) s.heap H1 locs1 → W p l e R s m args below meth c H1 locs1 cells slots Q (F0 m (pc + 3) ls (st'.map (zTr (zad B0 sp) fq)))) : g'.1 = g.1 ∧ W p l e R s m args below meth c H locs cells slots Q (F0 m pc ls (st.map (zTr (zad B0 sp) fq))) := by
  obtain ⟨hx, hb, hml, hown, hts, hK, hRO, hin, hB, hfq⟩ := hc
  have hD := zWo_D (C := C) (B0 := B0) (sp := sp) (h := h) hg
  unfold z_put at hs
  split at hs
  · rename_i v a r
    cases hf : zFl (zOn M) i with
    | none => rw [hf] at hs; cases hs
    | some q =>
      obtain ⟨ci, kf⟩ := q
      rw [hf] at hs
      simp only at hs
      by_cases ho : zOb g a ci = true
      · rw [if_pos ho] at hs
        obtain ⟨ha, hki⟩ := zOb_iff.mp ho
        cases hfc : zFc ci kf with
        | none => rw [hfc] at hs; cases hs
        | some cd =>
          rw [hfc] at hs
          simp only at hs
          have h100 : ci ≠ 100 := by
            intro hh
            rw [hh] at hfc
            have : zFc 100 kf = none := by
              show (([] : List Nat))[kf]? = none
              rfl
            rw [this] at hfc
            cases hfc
          obtain ⟨r0, hr0, hkf, hw⟩ := zFl_in hf h100
          cases hv : z_pf (zIni M) ci g h a kf v cd with
          | none => rw [hv] at hs; cases hs
          | some q2 =>
            rw [hv] at hs
            cases hs
            have hw := hts _ hw
            have hu := z_uws hr0
            have hfi : zIni M = ci → zO (zOn M) = r0.1 ∧ meth.name = "<init>" := fun z => ⟨(z_ini hr0 z).2, hin (z_ini hr0 z).1⟩
            generalize zIni M = ini at hv hfi
            generalize zO (zOn M) = own at hown hw hfi
            rw [List.map_cons, List.map_cons, zTr_ref (z_ne14 ha hg)]
            have he := zWo_get (C := C) (ad := zad B0 sp) (h := h) ha
            rw [zCe_ob hki] at he
            have hT := (z_T hr0 (z_k44 hr0 hfc) hfc).2
            have hlen : kf < (((zFs[ci]?).getD []).mapIdx (fun k c => zFv (zad B0 sp) g h a k c)).length := by
              rw [List.length_mapIdx]
              exact zFc_lt hfc
            match cd, hT, hv with
            | 0, hT, hv =>
              cases v with
              | int x =>
                simp only [z_pf] at hv
                cases hv
                refine ⟨rfl, va_put (ci := ci) (C := r0.1) (T := r0.2.1) (N := r0.2.2) hx hb hts hu (z_ty r0) (z_ty_ok hr0) (z_nm hr0) hown hK hP hD hS a he hr0 kf hkf hw (fun _ z => z) hT.2 hT.1 rfl rfl hlen hd (fun H1 locs1 h1 h2 h3 => k H1 locs1 ?_ h3)⟩
                have hset := zWo_set (C := C) (ad := zad B0 sp) (g := g) (g' := g) (h := h) (h' := zPI h a kf x) (e := .inr (ci, (((zFs[ci]?).getD []).mapIdx (fun k c => zFv (zad B0 sp) g h a k c)).set kf (.int x))) ha rfl
                  (by rw [zCe_ob hki, zFv_set (g := g) (h := h) hfc (v := .int x) (by simp [zFv, zPI]) (fun j d hj => by match d with | 0 => simp [zFv, zPI, hj] | 1 => simp [zFv, zPI, hj] | 2 => rfl | 3 => rfl | _ + 4 => rfl)])
                  (fun b hb1 => zCe_row (zPI_ne hb1) rfl rfl (fun _ => rfl))
                rw [← hset]
                exact h1
              | _ => cases hv
            | 1, hT, hv =>
              cases v with
              | int x =>
                simp only [z_pf] at hv
                by_cases h01 : x = 0 ∨ x = 1
                · rw [if_pos h01] at hv
                  cases hv
                  have hnar : narrow .boolean (.int x) = .int x := by rcases h01 with rfl | rfl <;> rfl
                  have hfit : fits .boolean (.int x) = true := by rcases h01 with rfl | rfl <;> rfl
                  refine ⟨rfl, va_put (ci := ci) (C := r0.1) (T := r0.2.1) (N := r0.2.2) hx hb hts hu (z_ty r0) (z_ty_ok hr0) (z_nm hr0) hown hK hP hD hS a he hr0 kf hkf hw (fun _ z => z) hT.2 hT.1 hnar hfit hlen hd (fun H1 locs1 h1 h2 h3 => k H1 locs1 ?_ h3)⟩
                  have hset := zWo_set (C := C) (ad := zad B0 sp) (g := g) (g' := g) (h := h) (h' := zPI h a kf x) (e := .inr (ci, (((zFs[ci]?).getD []).mapIdx (fun k c => zFv (zad B0 sp) g h a k c)).set kf (.int x))) ha rfl
                    (by rw [zCe_ob hki, zFv_set (g := g) (h := h) hfc (v := .int x) (by simp [zFv, zPI]) (fun j d hj => by match d with | 0 => simp [zFv, zPI, hj] | 1 => simp [zFv, zPI, hj] | 2 => rfl | 3 => rfl | _ + 4 => rfl)])
                    (fun b hb1 => zCe_row (zPI_ne hb1) rfl rfl (fun _ => rfl))
                  rw [← hset]
                  exact h1
                · rw [if_neg h01] at hv; cases hv
              | _ => cases hv
            | 2, hT, hv =>
              cases v with
              | long x =>
                simp only [z_pf] at hv
                cases hv
                refine ⟨rfl, va_put (ci := ci) (C := r0.1) (T := r0.2.1) (N := r0.2.2) hx hb hts hu (z_ty r0) (z_ty_ok hr0) (z_nm hr0) hown hK hP hD hS a he hr0 kf hkf hw (fun _ z => z) hT.2 hT.1 rfl rfl hlen hd (fun H1 locs1 h1 h2 h3 => k H1 locs1 ?_ h3)⟩
                have hset := zWo_set (C := C) (ad := zad B0 sp) (g := g) (g' := g) (h := h) (h' := zPL h a kf x) (e := .inr (ci, (((zFs[ci]?).getD []).mapIdx (fun k c => zFv (zad B0 sp) g h a k c)).set kf (.long x))) ha rfl
                  (by rw [zCe_ob hki, zFv_set (g := g) (h := h) hfc (v := .long x) (by simp [zFv, zPL]) (fun j d hj => by match d with | 0 => rfl | 1 => rfl | 2 => simp [zFv, zPL, hj] | 3 => rfl | _ + 4 => rfl)])
                  (fun b hb1 => zCe_row rfl (zPL_ne hb1) rfl (fun _ => rfl))
                rw [← hset]
                exact h1
              | _ => cases hv
            | 3, hT, hv =>
              cases v with
              | ref b =>
                simp only [z_pf] at hv
                by_cases h01 : b < g.1 ∧ zG g a kf = none ∧ ini = ci
                · rw [if_pos h01] at hv
                  cases hv
                  obtain ⟨hown2, hname⟩ := hfi h01.2.2
                  have hb14 : b ≠ 1400 := z_ne14 h01.1 hg
                  rw [zTr_ref hb14]
                  have hty : ∃ ty, parseFieldDescriptor (r0.2.1 kf).2.2.1 = some ty ∧ narrow ty (.ref (zad B0 sp b)) = .ref (zad B0 sp b) ∧ fits ty (.ref (zad B0 sp b)) = true := by
                    rcases hT.2.2 with ⟨z, hz⟩ | ⟨z, hz⟩
                    · exact ⟨_, hz, rfl, rfl⟩
                    · exact ⟨_, hz, rfl, rfl⟩
                  obtain ⟨ty, t1, t2, t3⟩ := hty
                  refine ⟨rfl, va_putF (ci := ci) (C := r0.1) (T := r0.2.1) (N := r0.2.2) hx hb hts hu (z_ty r0) (z_ty_ok hr0) (z_nm hr0) hown hK hP hD hS a he hr0 kf hkf hw (fun _ z => z) hT.2.1 hname (by rw [hown2]; exact hT.1) t1 t2 t3 hlen hd (fun H1 locs1 h1 h2 h3 => k H1 locs1 ?_ h3)⟩
                  have hset := zWo_set (C := C) (ad := zad B0 sp) (g := g) (g' := (g.1, ((a, kf), b) :: g.2)) (h := h) (h' := h) (e := .inr (ci, (((zFs[ci]?).getD []).mapIdx (fun k c => zFv (zad B0 sp) g h a k c)).set kf (.ref (zad B0 sp b)))) ha rfl
                    (by rw [zCe_ob hki, zFv_set (g := g) (h := h) hfc (v := .ref (zad B0 sp b)) (by simp only [zFv, zG_cons_self]; rfl) (fun j d hj => by match d with | 0 => rfl | 1 => rfl | 2 => rfl | 3 => simp only [zFv]; rw [zG_cons_ne (fun z => hj z.2)] | _ + 4 => rfl)])
                    (fun b1 hb1 => zCe_row rfl rfl rfl (fun k1 => zG_cons_ne (fun z => hb1 z.1)))
                  rw [← hset]
                  exact h1
                · rw [if_neg h01] at hv; cases hv
              | _ => cases hv
            | 4, hT, hv =>
              cases v with
              | ref b =>
                simp only [z_pf] at hv
                by_cases h01 : b < g.1
                · rw [if_pos h01] at hv
                  cases hv
                  have hb14 : b ≠ 1400 := z_ne14 h01 hg
                  rw [zTr_ref hb14]
                  obtain ⟨z, hz⟩ := hT.2
                  refine ⟨rfl, va_put (ci := ci) (C := r0.1) (T := r0.2.1) (N := r0.2.2) hx hb hts hu (z_ty r0) (z_ty_ok hr0) (z_nm hr0) hown hK hP hD hS a he hr0 kf hkf hw (fun _ z => z) hT.1 hz rfl rfl hlen hd (fun H1 locs1 h1 h2 h3 => k H1 locs1 ?_ h3)⟩
                  have hset := zWo_set (C := C) (ad := zad B0 sp) (g := g) (g' := g) (h := h) (h' := zPR h a kf b) (e := .inr (ci, (((zFs[ci]?).getD []).mapIdx (fun k c => zFv (zad B0 sp) g h a k c)).set kf (.ref (zad B0 sp b)))) ha rfl
                    (by rw [zCe_ob hki, zFv_set (g := g) (h := h) hfc (v := .ref (zad B0 sp b)) (by simp [zFv, zPR, va_rf]) (fun j d hj => by match d with | 0 => rfl | 1 => rfl | 2 => rfl | 3 => rfl | _ + 4 => simp [zFv, zPR, hj])])
                    (fun b1 hb1 => zCe_row rfl rfl (zPR_ne hb1) (fun _ => rfl))
                  rw [← hset]
                  exact h1
                · rw [if_neg h01] at hv; cases hv
              | _ => cases hv
            | n + 5, hT, hv => simp [z_pf] at hv
      · rw [if_neg ho] at hs; cases hs
  · cases hs
theorem ziast_ok (hc : zCtx D C B0 sp fq sc M p s m args meth c) (hg : g.1 ≤ 1000) (hP : va_P D zCl (zWo C (zad B0 sp) g h) H) (hS : va_S (zA B0) s.heap H locs) (hd : decode (zBy M) pc = .ok (.iastore, 1)) (hs : z_iast g h st = some (st', g', h'))
    (k : ∀ (H1 : Heap) (locs1 : List Loc), va_P D zCl (zWo C (zad B0 sp) g' h') H1 → va_S (zA B0) s.heap H1 locs1 → W p l e R s m args below meth c H1 locs1 cells slots Q (F0 m (pc + 1) ls (st'.map (zTr (zad B0 sp) fq)))) : g'.1 = g.1 ∧ W p l e R s m args below meth c H locs cells slots Q (F0 m pc ls (st.map (zTr (zad B0 sp) fq))) := by
  obtain ⟨hx, hb, hml, hown, hts, hK, hRO, hin, hB, hfq⟩ := hc
  have hD := zWo_D (C := C) (B0 := B0) (sp := sp) (h := h) hg
  unfold z_iast at hs
  split at hs
  · rename_i x j a r
    by_cases ha : a < g.1
    · rw [if_pos ha] at hs
      split at hs
      · rename_i n hn
        by_cases hi : zin j n = true
        · rw [if_pos hi] at hs
          cases hs
          have he := zWo_get (C := C) (ad := zad B0 sp) (h := h) ha
          rw [zCe_i (zLn_iff.mp hn)] at he
          rw [List.map_cons, List.map_cons, List.map_cons, zTr_ref (z_ne14 ha hg)]
          refine ⟨rfl, va_iast hx hb hK hP hD hS a 0 he rfl (zin_iff.mp hi) hd (fun H1 locs1 h1 h2 h3 => k H1 locs1 ?_ h3)⟩
          have hset := zWo_set (C := C) (ad := zad B0 sp) (g := g) (g' := g) (h := h) (h' := zPI h a j.toNatClampNeg x) (e := .inl (C 0, n, .inl (upd (h.1 a) j.toNatClampNeg x))) ha rfl
            (by rw [zCe_i (zLn_iff.mp hn), zPI_up]) (fun b hb1 => zCe_row (zPI_ne hb1) rfl rfl (fun _ => rfl))
          rw [← hset]
          exact h1
        · rw [if_neg hi] at hs; cases hs
      · cases hs
    · rw [if_neg ha] at hs; cases hs
  · cases hs
theorem zbast_ok (hc : zCtx D C B0 sp fq sc M p s m args meth c) (hg : g.1 ≤ 1000) (hP : va_P D zCl (zWo C (zad B0 sp) g h) H) (hS : va_S (zA B0) s.heap H locs) (hd : decode (zBy M) pc = .ok (.bastore, 1)) (hs : z_bast g h st = some (st', g', h'))
    (k : ∀ (H1 : Heap) (locs1 : List Loc), va_P D zCl (zWo C (zad B0 sp) g' h') H1 → va_S (zA B0) s.heap H1 locs1 → W p l e R s m args below meth c H1 locs1 cells slots Q (F0 m (pc + 1) ls (st'.map (zTr (zad B0 sp) fq)))) : g'.1 = g.1 ∧ W p l e R s m args below meth c H locs cells slots Q (F0 m pc ls (st.map (zTr (zad B0 sp) fq))) := by
  obtain ⟨hx, hb, hml, hown, hts, hK, hRO, hin, hB, hfq⟩ := hc
  have hD := zWo_D (C := C) (B0 := B0) (sp := sp) (h := h) hg
  unfold z_bast at hs
  split at hs
  · rename_i x j a r
    by_cases ha : a < g.1 ∧ (x = 0 ∨ x = 1)
    · rw [if_pos ha] at hs
      split at hs
      · rename_i n hn
        by_cases hi : zin j n = true
        · rw [if_pos hi] at hs
          cases hs
          have he := zWo_get (C := C) (ad := zad B0 sp) (h := h) ha.1
          rw [zCe_z (zLn_iff.mp hn)] at he
          rw [List.map_cons, List.map_cons, List.map_cons, zTr_ref (z_ne14 ha.1 hg)]
          refine ⟨rfl, va_zast hx hb hK hP hD hS a 1 he rfl (zin_iff.mp hi) hd (fun H1 locs1 h1 h2 h3 => k H1 locs1 ?_ h3)⟩
          have hnar : vp_nar .boolean x = x := by rcases ha.2 with rfl | rfl <;> rfl
          rw [hnar] at h1
          have hset := zWo_set (C := C) (ad := zad B0 sp) (g := g) (g' := g) (h := h) (h' := zPI h a j.toNatClampNeg x) (e := .inl (C 1, n, .inl (upd (h.1 a) j.toNatClampNeg x))) ha.1 rfl
            (by rw [zCe_z (zLn_iff.mp hn), zPI_up]) (fun b hb1 => zCe_row (zPI_ne hb1) rfl rfl (fun _ => rfl))
          rw [← hset]
          exact h1
        · rw [if_neg hi] at hs; cases hs
      · cases hs
    · rw [if_neg ha] at hs; cases hs
  · cases hs
theorem zlast_ok (hc : zCtx D C B0 sp fq sc M p s m args meth c) (hg : g.1 ≤ 1000) (hP : va_P D zCl (zWo C (zad B0 sp) g h) H) (hS : va_S (zA B0) s.heap H locs) (hd : decode (zBy M) pc = .ok (.lastore, 1)) (hs : z_last g h st = some (st', g', h'))
    (k : ∀ (H1 : Heap) (locs1 : List Loc), va_P D zCl (zWo C (zad B0 sp) g' h') H1 → va_S (zA B0) s.heap H1 locs1 → W p l e R s m args below meth c H1 locs1 cells slots Q (F0 m (pc + 1) ls (st'.map (zTr (zad B0 sp) fq)))) : g'.1 = g.1 ∧ W p l e R s m args below meth c H locs cells slots Q (F0 m pc ls (st.map (zTr (zad B0 sp) fq))) := by
  obtain ⟨hx, hb, hml, hown, hts, hK, hRO, hin, hB, hfq⟩ := hc
  have hD := zWo_D (C := C) (B0 := B0) (sp := sp) (h := h) hg
  unfold z_last at hs
  split at hs
  · rename_i x j a r
    by_cases ha : a < g.1
    · rw [if_pos ha] at hs
      split at hs
      · rename_i n hn
        by_cases hi : zin j n = true
        · rw [if_pos hi] at hs
          cases hs
          have he := zWo_get (C := C) (ad := zad B0 sp) (h := h) ha
          rw [zCe_l (zLn_iff.mp hn)] at he
          rw [List.map_cons, List.map_cons, List.map_cons, zTr_ref (z_ne14 ha hg)]
          refine ⟨rfl, va_last hx hb hK hP hD hS a 2 he rfl (zin_iff.mp hi) hd (fun H1 locs1 h1 h2 h3 => k H1 locs1 ?_ h3)⟩
          have hset := zWo_set (C := C) (ad := zad B0 sp) (g := g) (g' := g) (h := h) (h' := zPL h a j.toNatClampNeg x) (e := .inl (C 2, n, .inr (.inl (vp_updL (h.2.1 a) j.toNatClampNeg x)))) ha rfl
            (by rw [zCe_l (zLn_iff.mp hn), zPL_up]) (fun b hb1 => zCe_row rfl (zPL_ne hb1) rfl (fun _ => rfl))
          rw [← hset]
          exact h1
        · rw [if_neg hi] at hs; cases hs
      · cases hs
    · rw [if_neg ha] at hs; cases hs
  · cases hs
theorem zaast_ok (hc : zCtx D C B0 sp fq sc M p s m args meth c) (hg : g.1 ≤ 1000) (hP : va_P D zCl (zWo C (zad B0 sp) g h) H) (hS : va_S (zA B0) s.heap H locs) (hd : decode (zBy M) pc = .ok (.aastore, 1)) (hs : z_aast g h st = some (st', g', h'))
    (k : ∀ (H1 : Heap) (locs1 : List Loc), va_P D zCl (zWo C (zad B0 sp) g' h') H1 → va_S (zA B0) s.heap H1 locs1 → W p l e R s m args below meth c H1 locs1 cells slots Q (F0 m (pc + 1) ls (st'.map (zTr (zad B0 sp) fq)))) : g'.1 = g.1 ∧ W p l e R s m args below meth c H locs cells slots Q (F0 m pc ls (st.map (zTr (zad B0 sp) fq))) := by
  obtain ⟨hx, hb, hml, hown, hts, hK, hRO, hin, hB, hfq⟩ := hc
  have hD := zWo_D (C := C) (B0 := B0) (sp := sp) (h := h) hg
  unfold z_aast at hs
  split at hs
  · rename_i b j a r
    by_cases ha : a < g.1 ∧ zOb g b 4 = true
    · rw [if_pos ha] at hs
      split at hs
      · rename_i n hn
        by_cases hi : zin j n = true
        · rw [if_pos hi] at hs
          cases hs
          obtain ⟨hb1, hb2⟩ := zOb_iff.mp ha.2
          have he := zWo_get (C := C) (ad := zad B0 sp) (h := h) ha.1
          rw [zCe_q (zLn_iff.mp hn)] at he
          have he2 := zWo_get (C := C) (ad := zad B0 sp) (h := h) hb1
          rw [zCe_ob hb2] at he2
          rw [List.map_cons, List.map_cons, List.map_cons, zTr_ref (z_ne14 ha.1 hg), zTr_ref (z_ne14 hb1 hg)]
          refine ⟨rfl, va_astq (r := (RX5, TX5, 7)) hx hb hK hP hD hS a 3 b 4 he rfl he2 rfl (zin_iff.mp hi) hd (fun H1 locs1 h1 h2 h3 => k H1 locs1 ?_ h3)⟩
          have hset := zWo_set (C := C) (ad := zad B0 sp) (g := g) (g' := g) (h := h) (h' := zPR h a j.toNatClampNeg b) (e := .inl (C 3, n, .inr (.inr (.inr (.inr (va_up (fun j => (h.2.2 a j).map (zad B0 sp)) j.toNatClampNeg (some (zad B0 sp b)))))))) ha.1 rfl
            (by
              rw [zCe_q (zLn_iff.mp hn), zPR_up]
              congr 7
              funext y
              by_cases hy : y = j.toNatClampNeg
              · subst hy; simp [va_up]
              · simp [va_up, hy]) (fun b hb1 => zCe_row rfl rfl (zPR_ne hb1) (fun _ => rfl))
          rw [← hset]
          exact h1
        · rw [if_neg hi] at hs; cases hs
      · cases hs
    · rw [if_neg ha] at hs; cases hs
  · cases hs
end
end
section
/-! ===== soundness: new objects and arrays, Object(), arraycopy ===== -/
def z_has (w : Cond) : Bool := lw_tbl.contains w && goodWord w
theorem z_has_in {w : Cond} (h : z_has w = true) : w ∈ zTb := by
  unfold z_has at h
  rw [Bool.and_eq_true] at h
  exact List.mem_filter.mpr ⟨List.contains_iff_mem.mp h.1, h.2⟩
set_option maxRecDepth 100000 in
theorem z_wI : Cond.arrayClass .int ∈ zTb := z_has_in (by decide +kernel)
set_option maxRecDepth 100000 in
theorem z_wZ : Cond.arrayClass .boolean ∈ zTb := z_has_in (by decide +kernel)
set_option maxRecDepth 100000 in
theorem z_wJ : Cond.arrayClass .long ∈ zTb := z_has_in (by decide +kernel)
set_option maxRecDepth 100000 in
theorem z_wO1 : Cond.instanceMethod objectInit ∈ zTb := z_has_in (by decide +kernel)
set_option maxRecDepth 100000 in
theorem z_wO2 : Cond.code objectInit ⟨#[0xb1]⟩ 1 none ∈ zTb := z_has_in (by decide +kernel)
set_option maxRecDepth 100000 in
theorem z_wA1 : Cond.native arraycopyName ∈ zTb := z_has_in (by decide +kernel)
set_option maxRecDepth 100000 in
theorem z_wA2 : Cond.static arraycopyName ∈ zTb := z_has_in (by decide +kernel)
set_option maxRecDepth 100000 in
theorem z_wA3 : Cond.initialized "java/lang/System" ∈ zTb := z_has_in (by decide +kernel)
theorem zLl_in {o i ci : Nat} (h : zLl o i = some ci) : ∃ r : vw_C, zCl[ci]? = some r ∧ Cond.classLink (zO o) i r.1 ∈ zTb ∧ Cond.instantiable r.1 r.2.2 ∈ zTb ∧ Cond.initialized r.1 ∈ zTb := by
  unfold zLl at h
  cases hk : zLt.lookup (o, i) with
  | none => rw [hk] at h; cases h
  | some q =>
    obtain ⟨a, w1, w2, w3⟩ := q
    rw [hk] at h
    cases h
    have h2 := List.all_eq_true.mp z_okLt _ (z_lk hk)
    unfold z_okL at h2
    simp only at h2
    cases hr : zCl[a]? with
    | none => rw [hr] at h2; cases h2
    | some r =>
      rw [hr] at h2
      simp only [Bool.and_eq_true] at h2
      exact ⟨r, rfl, z_wd_in h2.1.1, z_wd_in h2.1.2, z_wd_in h2.2⟩
theorem z_new_some {o i : Nat} {st st' : List Value} {g g' : zSg} {h h' : zHp} (hs : z_new o i st g h = some (st', g', h')) : ∃ ci, zLl o i = some ci ∧ zKi g.1 = some (.inr ci) ∧ zFree g = true ∧ st' = .ref g.1 :: st ∧ g' = (g.1 + 1, g.2) ∧ h' = zBk h g.1 := by
  unfold z_new at hs
  cases hl : zLl o i with
  | none => rw [hl] at hs; cases hs
  | some ci =>
    rw [hl] at hs
    simp only at hs
    by_cases h1 : zKi g.1 = some (.inr ci) ∧ zFree g = true
    · rw [if_pos h1] at hs
      cases hs
      exact ⟨ci, rfl, h1.1, h1.2, rfl, rfl, rfl⟩
    · rw [if_neg h1] at hs; cases hs
theorem z_newa_some {t : ArrayType} {st st' : List Value} {g g' : zSg} {h h' : zHp} (hs : z_newa t g h st = some (st', g', h')) : ∃ n r, st = .int n :: r ∧ ¬ n < 0 ∧ zAt' t ≠ 9 ∧ n.toNatClampNeg ≤ 1000 ∧ zKi g.1 = some (.inl (zAt' t, n.toNatClampNeg)) ∧ zFree g = true ∧ st' = .ref g.1 :: r ∧ g' = (g.1 + 1, g.2) ∧ h' = zBk h g.1 := by
  unfold z_newa at hs
  split at hs
  · rename_i n r
    by_cases h1 : ¬ n < 0 ∧ zAt' t ≠ 9 ∧ n.toNatClampNeg ≤ 1000 ∧ zKi g.1 = some (.inl (zAt' t, n.toNatClampNeg)) ∧ zFree g = true
    · rw [if_pos h1] at hs
      cases hs
      exact ⟨n, r, rfl, h1.1, h1.2.1, h1.2.2.1, h1.2.2.2.1, h1.2.2.2.2, rfl, rfl, rfl⟩
    · rw [if_neg h1] at hs; cases hs
  · cases hs
theorem z_newq_some {o i : Nat} {st st' : List Value} {g g' : zSg} {h h' : zHp} (hs : z_newq o i g h st = some (st', g', h')) : ∃ n r, st = .int n :: r ∧ zLl o i = some 4 ∧ ¬ n < 0 ∧ n.toNatClampNeg ≤ 1000 ∧ zKi g.1 = some (.inl (3, n.toNatClampNeg)) ∧ zFree g = true ∧ st' = .ref g.1 :: r ∧ g' = (g.1 + 1, g.2) ∧ h' = zBk h g.1 := by
  unfold z_newq at hs
  split at hs
  · rename_i n r
    by_cases h1 : zLl o i = some 4 ∧ ¬ n < 0 ∧ n.toNatClampNeg ≤ 1000 ∧ zKi g.1 = some (.inl (3, n.toNatClampNeg)) ∧ zFree g = true
    · rw [if_pos h1] at hs
      cases hs
      exact ⟨n, r, rfl, h1.1, h1.2.1, h1.2.2.1, h1.2.2.2.1, h1.2.2.2.2, rfl, rfl, rfl⟩
    · rw [if_neg h1] at hs; cases hs
  · cases hs
section
variable {p : Program} {l : Launch} {e : Env} {R : Room} {s : State} {m : MethodId} {args : Array Value} {below : List Frame} {meth : Method} {c : Code} {H : Heap} {locs : List Loc} {cells slots : Nat} {Q : State → Prop}
variable {D : va_G} {C : Nat → ClassId} {B0 : Nat} {sp : Nat → Nat} {fq : Value} {sc : zSc} {M : Nat} {g g' : zSg} {h h' : zHp} {pc i : Nat} {st st' : List Value} {ls : Array Slot}
/-- the picture behind a new cell -/
theorem z_pushed {H1 : Heap} (hfr : zFree g = true) (hP : va_P D zCl (zWo C (zad B0 sp) g h) H) (hsz : H.size = B0 + g.1) (o1 : ∀ q : Nat, q < B0 + g.1 → H1[q]? = H[q]?) (z1 : H1.size = B0 + g.1 + 1) (hS : va_S (zA B0) s.heap H locs) (hat : va_at D zCl (zad B0 sp g.1, zCe C (zad B0 sp) (g.1 + 1, g.2) (zBk h g.1) g.1) H1) :
    va_P D zCl (zWo C (zad B0 sp) (g.1 + 1, g.2) (zBk h g.1)) H1 ∧ va_S (zA B0) s.heap H1 locs := by
  have hk : ∀ (k : Nat) (x : Nat × va_E), (zWo C (zad B0 sp) g h)[k]? = some x → H1[x.1]? = H[x.1]? := fun k x hx => o1 x.1 (by rw [← hsz]; exact (hP k x hx).lt)
  constructor
  · rw [← zWo_push (C := C) (ad := zad B0 sp) (g := g) (h := h) (h' := zBk h g.1) (v := g.2) (fun b hb => zCe_row (zBk_ne (by omega)).1 (zBk_ne (by omega)).2.1 (zBk_ne (by omega)).2.2 (fun _ => rfl))]
    refine (hP.kept hk).app (fun k x hx => ?_)
    have hz : k < 1 := (List.getElem?_eq_some_iff.mp hx).1
    rw [show k = 0 by omega] at hx
    cases hx
    exact hat
  · have h1 := hS.1
    exact ⟨by omega, fun q a b => (o1 q (by omega)).trans (hS.2.1 q a b), hS.2.2⟩
theorem znew_ok (hc : zCtx D C B0 sp fq sc M p s m args meth c) (hg : g.1 ≤ 1000) (hP : va_P D zCl (zWo C (zad B0 sp) g h) H) (hS : va_S (zA B0) s.heap H locs) (hcl : s.heap.size + cells = B0 + g.1) (hd : decode (zBy M) pc = .ok (.new i, 3)) (hs : z_new (zOn M) i st g h = some (st', g', h'))
    (hce : cells + (g'.1 - g.1) ≤ R.cells) (hsl : slots + (zSl g'.1 - zSl g.1) ≤ R.slots)
    (k : ∀ (H1 : Heap) (locs1 : List Loc), va_P D zCl (zWo C (zad B0 sp) g' h') H1 → va_S (zA B0) s.heap H1 locs1 → W p l e R s m args below meth c H1 locs1 (cells + (g'.1 - g.1)) (slots + (zSl g'.1 - zSl g.1)) Q (F0 m (pc + 3) ls (st'.map (zTr (zad B0 sp) fq)))) : W p l e R s m args below meth c H locs cells slots Q (F0 m pc ls (st.map (zTr (zad B0 sp) fq))) := by
  obtain ⟨hx, hb, hml, hown, hts, hK, hRO, hin, hB, hfq⟩ := hc
  obtain ⟨ci, hl, hki, hfr, rfl, rfl, rfl⟩ := z_new_some hs
  obtain ⟨r, hr, w1, w2, w3⟩ := zLl_in hl
  obtain ⟨o, -, -, hlen⟩ := zCo_at hr
  have hlt := zFree_lt hfr
  have hss : zSl (g.1 + 1) - zSl g.1 = r.2.2 := by
    rw [zSl_succ hki]
    simp only [zSz]
    omega
  have hcc : g.1 + 1 - g.1 = 1 := by omega
  simp only [hss, hcc] at hce hsl k
  refine W_size (fun hu => ?_)
  have hsz := z_size hg hP hS hcl hB hu
  have w1 := hts _ w1
  have w2 := hts _ w2
  have w3 := hts _ w3
  have hKn := hK.1 ci _ hr
  have hu2 := z_uws hr
  generalize zO (zOn M) = own at hown w1
  refine W.newcK (C := r.1) (n := r.2.2) hx hb hown w1 w2 w3 rfl hd hce hsl hKn.2.1 hsz fun H1 kC hkC e1 z1 o1 => ?_
  have had : zad B0 sp g.1 = B0 + g.1 := zad_lt hlt
  obtain ⟨p1, p2⟩ := z_pushed (C := C) (sp := sp) hfr hP hsz o1 z1 hS (by
    rw [zCe_ob hki, had]
    refine ⟨r, hr, (u_born (z_ty r) hts hu2 hKn hkC e1 (z_ty_ok hr)).to (fun j hj => ?_)⟩
    have hfc : ∃ cd, zFc ci j = some cd := by
      unfold zFc
      exact ⟨_, List.getElem?_eq_getElem (by omega)⟩
    obtain ⟨cd, hfc⟩ := hfc
    have hT := (z_T hr (z_k44 hr hfc) hfc).2
    have hv : vp_V (((zFs[ci]?).getD []).mapIdx (fun k c => zFv (zad B0 sp) (g.1 + 1, g.2) (zBk h g.1) g.1 k c)) j = zFv (zad B0 sp) (g.1 + 1, g.2) (zBk h g.1) g.1 j cd := by
      unfold vp_V
      rw [List.getD_eq_getElem?_getD, zFv_at hfc]
      rfl
    rw [hv]
    unfold z_ty
    match cd, hT with
    | 0, hT => rw [hT.1]; simp [zFv, zBk, defaultValue]
    | 1, hT => rw [hT.1]; simp [zFv, zBk, defaultValue]
    | 2, hT => rw [hT.1]; simp [zFv, zBk, defaultValue]
    | 3, hT =>
      have hz : zG (g.1 + 1, g.2) g.1 j = none := zFree_none hfr j
      rcases hT.2.2 with ⟨z, hz2⟩ | ⟨z, hz2⟩
      · rw [hz2]; simp [zFv, hz, defaultValue, va_rf]
      · rw [hz2]; simp [zFv, hz, defaultValue, va_rf]
    | n + 4, hT =>
      obtain ⟨z, hz2⟩ := hT.2
      rw [hz2]; simp [zFv, zBk, defaultValue, va_rf])
  have k := k H1 locs p1 p2
  rw [List.map_cons, zTr_ref (show g.1 ≠ 1400 by omega), had] at k
  exact k
theorem z_arr_at {H1 : Heap} {cA : ClassId} {t n : Nat} {ty : FieldType} (hkt : (t = 0 ∧ ty = .int) ∨ (t = 1 ∧ ty = .boolean) ∨ (t = 2 ∧ ty = .long)) (hlt : g.1 < 1000) (hK : va_K D zCl (zTys C) s) (hki : zKi g.1 = some (.inl (t, n))) (hNm : s.vm.findClass ("[" ++ ty.toString) = some cA) (e1 : H1[B0 + g.1]? = some (arrV cA n (fun _ => defaultValue ty))) :
    va_at D zCl (zad B0 sp g.1, zCe C (zad B0 sp) (g.1 + 1, g.2) (zBk h g.1) g.1) H1 := by
  rw [zad_lt hlt]
  rcases hkt with ⟨rfl, rfl⟩ | ⟨rfl, rfl⟩ | ⟨rfl, rfl⟩
  · have hcA : C 0 = cA := Option.some.inj (((hK.2 0 _ rfl).2 : s.vm.findClass ("[" ++ (FieldType.int).toString) = some (C 0)).symm.trans hNm)
    rw [zCe_i hki, hcA]
    show H1[B0 + g.1]? = some (vp_cell _ _)
    rw [e1, vp_cell_i]
    simp [zBk, defaultValue]
  · have hcA : C 1 = cA := Option.some.inj (((hK.2 1 _ rfl).2 : s.vm.findClass ("[" ++ (FieldType.boolean).toString) = some (C 1)).symm.trans hNm)
    rw [zCe_z hki, hcA]
    show H1[B0 + g.1]? = some (vp_cell _ _)
    rw [e1, vp_cell_i]
    simp [zBk, defaultValue]
  · have hcA : C 2 = cA := Option.some.inj (((hK.2 2 _ rfl).2 : s.vm.findClass ("[" ++ (FieldType.long).toString) = some (C 2)).symm.trans hNm)
    rw [zCe_l hki, hcA]
    show H1[B0 + g.1]? = some (vp_cell _ _)
    rw [e1, vp_cell_l]
    simp [zBk, defaultValue]
theorem znewa_ok {t : ArrayType} (hc : zCtx D C B0 sp fq sc M p s m args meth c) (hg : g.1 ≤ 1000) (hP : va_P D zCl (zWo C (zad B0 sp) g h) H) (hS : va_S (zA B0) s.heap H locs) (hcl : s.heap.size + cells = B0 + g.1) (hd : decode (zBy M) pc = .ok (.newarray t, 2)) (hs : z_newa t g h st = some (st', g', h'))
    (hce : cells + (g'.1 - g.1) ≤ R.cells) (hsl : slots + (zSl g'.1 - zSl g.1) ≤ R.slots)
    (k : ∀ (H1 : Heap) (locs1 : List Loc), va_P D zCl (zWo C (zad B0 sp) g' h') H1 → va_S (zA B0) s.heap H1 locs1 → W p l e R s m args below meth c H1 locs1 (cells + (g'.1 - g.1)) (slots + (zSl g'.1 - zSl g.1)) Q (F0 m (pc + 2) ls (st'.map (zTr (zad B0 sp) fq)))) : W p l e R s m args below meth c H locs cells slots Q (F0 m pc ls (st.map (zTr (zad B0 sp) fq))) := by
  obtain ⟨hx, hb, hml, hown, hts, hK, hRO, hin, hB, hfq⟩ := hc
  obtain ⟨n, r, rfl, hn, h9, hn1, hki, hfr, rfl, rfl, rfl⟩ := z_newa_some hs
  have hlt := zFree_lt hfr
  have hss : zSl (g.1 + 1) - zSl g.1 = n.toNatClampNeg := by
    rw [zSl_succ hki]
    simp only [zSz]
    omega
  have hcc : g.1 + 1 - g.1 = 1 := by omega
  simp only [hss, hcc] at hce hsl k
  refine W_size (fun hu => ?_)
  have hsz := z_size hg hP hS hcl hB hu
  have had : zad B0 sp g.1 = B0 + g.1 := zad_lt hlt
  have hkt : ∃ ty, newarray.typeOf t = ty ∧ (Cond.arrayClass ty).before args s = true ∧ componentBytes ty ≤ 8 ∧ ((zAt' t = 0 ∧ ty = .int) ∨ (zAt' t = 1 ∧ ty = .boolean) ∨ (zAt' t = 2 ∧ ty = .long)) := by
    cases t with
    | int => exact ⟨.int, rfl, hts _ z_wI, by decide, Or.inl ⟨rfl, rfl⟩⟩
    | boolean => exact ⟨.boolean, rfl, hts _ z_wZ, by decide, Or.inr (Or.inl ⟨rfl, rfl⟩)⟩
    | long => exact ⟨.long, rfl, hts _ z_wJ, by decide, Or.inr (Or.inr ⟨rfl, rfl⟩)⟩
    | _ => exact absurd rfl h9
  obtain ⟨ty, hty, hwd, hby, hkt⟩ := hkt
  refine va_newaK hx hb (by rw [hty]; exact hwd) rfl hd rfl hn rfl (by rw [hty]; exact Nat.le_trans (Nat.mul_le_mul hn1 hby) (by decide)) hce hsl hsz fun H1 cA e1 z1 o1 hAr hNm => ?_
  rw [hty] at e1 hNm
  obtain ⟨p1, p2⟩ := z_pushed (C := C) (sp := sp) hfr hP hsz o1 z1 hS (z_arr_at hkt hlt hK hki hNm e1)
  have k := k H1 locs p1 p2
  rw [List.map_cons, zTr_ref (show g.1 ≠ 1400 by omega), had] at k
  exact k
theorem znewq_ok (hc : zCtx D C B0 sp fq sc M p s m args meth c) (hg : g.1 ≤ 1000) (hP : va_P D zCl (zWo C (zad B0 sp) g h) H) (hS : va_S (zA B0) s.heap H locs) (hcl : s.heap.size + cells = B0 + g.1) (hd : decode (zBy M) pc = .ok (.anewarray i, 3)) (hs : z_newq (zOn M) i g h st = some (st', g', h'))
    (hce : cells + (g'.1 - g.1) ≤ R.cells) (hsl : slots + (zSl g'.1 - zSl g.1) ≤ R.slots)
    (k : ∀ (H1 : Heap) (locs1 : List Loc), va_P D zCl (zWo C (zad B0 sp) g' h') H1 → va_S (zA B0) s.heap H1 locs1 → W p l e R s m args below meth c H1 locs1 (cells + (g'.1 - g.1)) (slots + (zSl g'.1 - zSl g.1)) Q (F0 m (pc + 3) ls (st'.map (zTr (zad B0 sp) fq)))) : W p l e R s m args below meth c H locs cells slots Q (F0 m pc ls (st.map (zTr (zad B0 sp) fq))) := by
  obtain ⟨hx, hb, hml, hown, hts, hK, hRO, hin, hB, hfq⟩ := hc
  obtain ⟨n, r, rfl, hl, hn, hn1, hki, hfr, rfl, rfl, rfl⟩ := z_newq_some hs
  obtain ⟨r0, hr, w1, w2, w3⟩ := zLl_in hl
  have hr4 : r0.1 = "UntoldFacts$Talk" := by
    have h4 : zCl[4]? = some (RX5, TX5, 7) := rfl
    rw [h4] at hr
    cases hr
    rfl
  have hlt := zFree_lt hfr
  have hss : zSl (g.1 + 1) - zSl g.1 = n.toNatClampNeg := by
    rw [zSl_succ hki]
    simp only [zSz]
    omega
  have hcc : g.1 + 1 - g.1 = 1 := by omega
  simp only [hss, hcc] at hce hsl k
  refine W_size (fun hu => ?_)
  have hsz := z_size hg hP hS hcl hB hu
  have had : zad B0 sp g.1 = B0 + g.1 := zad_lt hlt
  have w1 := hts _ w1
  rw [hr4] at w1
  generalize zO (zOn M) = own at hown w1
  have hover := va_AO.use (A := args) hRO.2.2.2.2.2.2.2.1
  refine W.anew hx hb hown w1 hover rfl hd rfl hn (by omega) hce hsl fun cA kA comp f1 f2 f3 f4 => ?_
  generalize hH1 : H.push ({ cls := cA, slots := Array.replicate n.toNatClampNeg .null, vm := .none } : Cell) = H1
  have z1 : H1.size = B0 + g.1 + 1 := by rw [← hH1, Array.size_push, hsz]
  have e1 : H1[B0 + g.1]? = some (arrV cA n.toNatClampNeg (fun _ => .null)) := by rw [← hH1, ← hsz, Array.getElem?_push_size, ← arrV_new]
  have o1 : ∀ q : Nat, q < B0 + g.1 → H1[q]? = H[q]? := by
    intro q hq
    rw [← hH1, Array.getElem?_push, if_neg (by omega)]
  obtain ⟨p1, p2⟩ := z_pushed (C := C) (sp := sp) hfr hP hsz o1 z1 hS (by
    rw [had, zCe_q hki]
    have hcA : C 3 = cA := by
      obtain ⟨_, _, _, _, _, h5⟩ := (hK.2 3 _ rfl).2
      exact Option.some.inj (h5.symm.trans f1)
    rw [hcA]
    show H1[B0 + g.1]? = some (vp_cell _ _)
    rw [e1, vp_cell_q]
    simp [zBk, va_rf])
  have k := k H1 locs p1 p2
  rw [List.map_cons, zTr_ref (show g.1 ≠ 1400 by omega), had] at k
  rw [hsz]
  exact k
theorem zoi_ok {d : Nat} (hc : zCtx D C B0 sp fq sc M p s m args meth c) (hls : ls.size = zML M) (hfr : d ≤ R.frames) (hlo : 70 * d ≤ R.locals) (hd : decode (zBy M) pc = .ok (.invokespecial i, 3)) (hs : z_oi d (zOn M) i st = some st')
    (k : W p l e R s m args below meth c H locs cells slots Q (F0 m (pc + 3) ls (st'.map (zTr (zad B0 sp) fq)))) : W p l e R s m args below meth c H locs cells slots Q (F0 m pc ls (st.map (zTr (zad B0 sp) fq))) := by
  obtain ⟨hx, hb, hml, hown, hts, hK, hRO, hin, hB, hfq⟩ := hc
  unfold z_oi at hs
  split at hs
  · rename_i a r
    by_cases h1 : (zOt.lookup (zOn M, i)).isSome = true ∧ a < 1000 ∧ 0 < d ∧ (r.map fun v => v.category).sum ≤ 8
    · rw [if_pos h1] at hs
      cases hs
      obtain ⟨q, hq⟩ := Option.isSome_iff_exists.mp h1.1
      have hw := z_wd_in (List.all_eq_true.mp z_okOt _ (z_lk hq))
      have hw := hts _ hw
      simp only at hw
      rw [List.map_cons, zTr_ref (z_ne14 (g := (1000, [])) h1.2.1 (Nat.le_refl _))]
      generalize zO (zOn M) = own at hown hw
      exact W.objInit hx hb hown hw (hts _ z_wO1) (hts _ z_wO2) rfl (by rw [hml]; exact hls) rfl hd (by omega) (by
        have h2 := lv_room (m := m) (pc := pc) (ls := ls) (rest := zTr (zad B0 sp) fq (.ref a) :: st'.map (zTr (zad B0 sp) fq)) (st := st'.map (zTr (zad B0 sp) fq)) (by rw [zTr_cats hfq]; exact h1.2.2.2)
        have h3 : 2 * (F0 m pc ls (.ref (zad B0 sp a) :: st'.map (zTr (zad B0 sp) fq))).monitorRoom + ((st'.map (zTr (zad B0 sp) fq)).map fun v => v.category).sum ≤ 8 := h2
        omega) k
    · rw [if_neg h1] at hs; cases hs
  · cases hs
end
end
section
/-! ===== soundness: arraycopy; all instructions of the heap ===== -/
theorem z_put_g {ini o i : Nat} {st st' : List Value} {g g' : zSg} {h h' : zHp} (hs : z_put ini o i g h st = some (st', g', h')) : g'.1 = g.1 := by
  unfold z_put at hs
  split at hs
  · rename_i v a r
    cases hf : zFl o i with
    | none => rw [hf] at hs; cases hs
    | some q =>
      rw [hf] at hs
      simp only at hs
      by_cases ho : zOb g a q.1 = true
      · rw [if_pos ho] at hs
        cases hfc : zFc q.1 q.2 with
        | none => rw [hfc] at hs; cases hs
        | some cd =>
          rw [hfc] at hs
          simp only at hs
          cases hv : z_pf ini q.1 g h a q.2 v cd with
          | none => rw [hv] at hs; cases hs
          | some q2 =>
            rw [hv] at hs
            cases hs
            unfold z_pf at hv
            split at hv
            · cases hv; rfl
            · split at hv <;> cases hv; rfl
            · cases hv; rfl
            · split at hv <;> cases hv; rfl
            · split at hv <;> cases hv; rfl
            · cases hv
      · rw [if_neg ho] at hs; cases hs
  · cases hs
theorem z_iast_g {st st' : List Value} {g g' : zSg} {h h' : zHp} (hs : z_iast g h st = some (st', g', h')) : g' = g := by
  unfold z_iast at hs
  split at hs
  · split at hs
    · split at hs
      · split at hs <;> cases hs; rfl
      · cases hs
    · cases hs
  · cases hs
theorem z_bast_g {st st' : List Value} {g g' : zSg} {h h' : zHp} (hs : z_bast g h st = some (st', g', h')) : g' = g := by
  unfold z_bast at hs
  split at hs
  · split at hs
    · split at hs
      · split at hs <;> cases hs; rfl
      · cases hs
    · cases hs
  · cases hs
theorem z_last_g {st st' : List Value} {g g' : zSg} {h h' : zHp} (hs : z_last g h st = some (st', g', h')) : g' = g := by
  unfold z_last at hs
  split at hs
  · split at hs
    · split at hs
      · split at hs <;> cases hs; rfl
      · cases hs
    · cases hs
  · cases hs
theorem z_aast_g {st st' : List Value} {g g' : zSg} {h h' : zHp} (hs : z_aast g h st = some (st', g', h')) : g' = g := by
  unfold z_aast at hs
  split at hs
  · split at hs
    · split at hs
      · split at hs <;> cases hs; rfl
      · cases hs
    · cases hs
  · cases hs
theorem z_cpy_some {d o i : Nat} {st st' : List Value} {g g' : zSg} {h h' : zHp} (hs : z_cpy d o i g h st = some (st', g', h')) : ∃ (n dp sp : Int32) (a b na nb : Nat), st = .int n :: .int dp :: .ref b :: .int sp :: .ref a :: st' ∧ (zAt.lookup (o, i)).isSome = true ∧ 0 < d ∧ a < g.1 ∧ b < g.1 ∧ (st'.map fun v => v.category).sum ≤ 8 ∧ ¬ sp < 0 ∧ ¬ dp < 0 ∧ ¬ n < 0 ∧ sp.toNatClampNeg + n.toNatClampNeg ≤ na ∧ dp.toNatClampNeg + n.toNatClampNeg ≤ nb ∧ g' = g ∧
    ((zKi a = some (.inl (0, na)) ∧ zKi b = some (.inl (0, nb)) ∧ h' = zCI h a b sp.toNatClampNeg dp.toNatClampNeg n.toNatClampNeg) ∨ (zKi a = some (.inl (2, na)) ∧ zKi b = some (.inl (2, nb)) ∧ h' = zCL h a b sp.toNatClampNeg dp.toNatClampNeg n.toNatClampNeg)) := by
  unfold z_cpy at hs
  split at hs
  · rename_i n dp b sp a r
    by_cases h1 : (zAt.lookup (o, i)).isSome = true ∧ 0 < d ∧ a < g.1 ∧ b < g.1 ∧ (r.map fun v => v.category).sum ≤ 8 ∧ ¬ sp < 0 ∧ ¬ dp < 0 ∧ ¬ n < 0
    · rw [if_pos h1] at hs
      split at hs
      · rename_i na nb hna hnb
        split at hs
        · rename_i h2
          cases hs
          exact ⟨n, dp, sp, a, b, na, nb, rfl, h1.1, h1.2.1, h1.2.2.1, h1.2.2.2.1, h1.2.2.2.2.1, h1.2.2.2.2.2.1, h1.2.2.2.2.2.2.1, h1.2.2.2.2.2.2.2, h2.1, h2.2, rfl, Or.inl ⟨zLn_iff.mp hna, zLn_iff.mp hnb, rfl⟩⟩
        · cases hs
      · rename_i na nb hna hnb
        split at hs
        · rename_i h2
          cases hs
          exact ⟨n, dp, sp, a, b, na, nb, rfl, h1.1, h1.2.1, h1.2.2.1, h1.2.2.2.1, h1.2.2.2.2.1, h1.2.2.2.2.2.1, h1.2.2.2.2.2.2.1, h1.2.2.2.2.2.2.2, h2.1, h2.2, rfl, Or.inr ⟨zLn_iff.mp hna, zLn_iff.mp hnb, rfl⟩⟩
        · cases hs
      · cases hs
    · rw [if_neg h1] at hs; cases hs
  · cases hs
section
variable {p : Program} {l : Launch} {e : Env} {R : Room} {s : State} {m : MethodId} {args : Array Value} {below : List Frame} {meth : Method} {c : Code} {H : Heap} {locs : List Loc} {cells slots : Nat} {Q : State → Prop}
variable {D : va_G} {C : Nat → ClassId} {B0 : Nat} {sp : Nat → Nat} {fq : Value} {sc : zSc} {M : Nat} {g g' : zSg} {h h' : zHp} {pc i d : Nat} {st st' : List Value} {ls : Array Slot}
theorem zcpy_ok (hc : zCtx D C B0 sp fq sc M p s m args meth c) (hls : ls.size = zML M) (hg : g.1 ≤ 1000) (hP : va_P D zCl (zWo C (zad B0 sp) g h) H) (hS : va_S (zA B0) s.heap H locs) (hfr : d ≤ R.frames) (hlo : 70 * d ≤ R.locals) (hd : decode (zBy M) pc = .ok (.invokestatic i, 3)) (hs : z_cpy d (zOn M) i g h st = some (st', g', h'))
    (k : ∀ (H1 : Heap) (locs1 : List Loc), va_P D zCl (zWo C (zad B0 sp) g' h') H1 → va_S (zA B0) s.heap H1 locs1 → W p l e R s m args below meth c H1 locs1 cells slots Q (F0 m (pc + 3) ls (st'.map (zTr (zad B0 sp) fq)))) : W p l e R s m args below meth c H locs cells slots Q (F0 m pc ls (st.map (zTr (zad B0 sp) fq))) := by
  obtain ⟨hx, hb, hml, hown, hts, hK, hRO, hin, hB, hfq⟩ := hc
  have hD := zWo_D (C := C) (B0 := B0) (sp := sp) (h := h) hg
  obtain ⟨n, dp, sq, a, b, na, nb, rfl, hlk, hd0, ha, hb1, hr, h1, h2, h3, h4, h5, rfl, hor⟩ := z_cpy_some hs
  obtain ⟨q, hq⟩ := Option.isSome_iff_exists.mp hlk
  have hw := hts _ (z_wd_in (List.all_eq_true.mp z_okAt _ (z_lk hq)))
  simp only at hw
  have hr' : ((st'.map (zTr (zad B0 sp) fq)).map fun v => v.category).sum + (nativeFrameWords "java/lang/System" "arraycopy" 5 + 11) ≤ R.locals := by
    rw [zTr_cats hfq]
    have h7 : nativeFrameWords "java/lang/System" "arraycopy" 5 = 7 := by decide
    omega
  generalize zO (zOn M) = own at hown hw
  simp only [List.map_cons]
  rw [zTr_ref (z_ne14 ha hg), zTr_ref (z_ne14 hb1 hg)]
  have hea := zWo_get (C := C) (ad := zad B0 sp) (h := h) ha
  have heb := zWo_get (C := C) (ad := zad B0 sp) (h := h) hb1
  rcases hor with ⟨ka, kb, rfl⟩ | ⟨ka, kb, rfl⟩
  · rw [zCe_i ka] at hea
    rw [zCe_i kb] at heb
    refine va_copyi hx hb (by rw [hml, hls]) hown hw (hts _ z_wA1) (hts _ z_wA2) (hts _ z_wA3) hK hP hD hS a b 0 0 hea heb rfl rfl rfl h1 h2 h3 h4 h5 (fun _ _ => rfl) (by omega) hr' hd (fun H1 locs1 q1 q2 q3 => k H1 locs1 ?_ q3)
    have hset := zWo_set (C := C) (ad := zad B0 sp) (g := g') (g' := g') (h := h) (h' := zCI h a b sq.toNatClampNeg dp.toNatClampNeg n.toNatClampNeg) (e := .inl (C 0, nb, .inl (va_cpy (h.1 a) (h.1 b) sq.toNatClampNeg dp.toNatClampNeg n.toNatClampNeg))) hb1 rfl
      (by rw [zCe_i kb]; congr 4; funext y; simp [zCI]) (fun b2 hb2 => zCe_row (by funext y; simp [zCI, hb2]) rfl rfl (fun _ => rfl))
    rw [← hset]
    exact q1
  · rw [zCe_l ka] at hea
    rw [zCe_l kb] at heb
    refine va_copyl hx hb (by rw [hml, hls]) hown hw (hts _ z_wA1) (hts _ z_wA2) (hts _ z_wA3) hK hP hD hS a b 2 2 hea heb rfl rfl rfl h1 h2 h3 h4 h5 (fun _ _ => rfl) (by omega) hr' hd (fun H1 locs1 q1 q2 q3 => k H1 locs1 ?_ q3)
    have hset := zWo_set (C := C) (ad := zad B0 sp) (g := g') (g' := g') (h := h) (h' := zCL h a b sq.toNatClampNeg dp.toNatClampNeg n.toNatClampNeg) (e := .inl (C 2, nb, .inr (.inl (va_cpy (h.2.1 a) (h.2.1 b) sq.toNatClampNeg dp.toNatClampNeg n.toNatClampNeg)))) hb1 rfl
      (by rw [zCe_l kb]; congr 5; funext y; simp [zCL]) (fun b2 hb2 => zCe_row rfl (by funext y; simp [zCL, hb2]) rfl (fun _ => rfl))
    rw [← hset]
    exact q1
theorem zm_some {α β : Type} {o : Option α} {f : α → β} {y : β} (h : o.map f = some y) : ∃ x, o = some x ∧ f x = y := by
  cases o with
  | none => cases h
  | some x => exact ⟨x, rfl, Option.some.inj h⟩
set_option maxHeartbeats 4000000 in
theorem zHeap_g {sc : zSc} {ini o : Nat} {op : Instr} (hs : zHeap sc d ini o op st g h = some (st', g', h')) : g.1 ≤ g'.1 ∧ (g.1 ≤ 1000 → g'.1 ≤ 1000) := by
  have same : g' = g → g.1 ≤ g'.1 ∧ (g.1 ≤ 1000 → g'.1 ≤ 1000) := fun z => by rw [z]; exact ⟨Nat.le_refl _, fun z => z⟩
  have fresh : zFree g = true → g' = (g.1 + 1, g.2) → g.1 ≤ g'.1 ∧ (g.1 ≤ 1000 → g'.1 ≤ 1000) := fun y z => by
    rw [z]
    have := zFree_lt y
    exact ⟨Nat.le_succ _, fun _ => this⟩
  cases op with
  | getfield i => obtain ⟨x, -, hx⟩ := zm_some hs; cases hx; exact same rfl
  | putfield i => rw [z_put_g hs]; exact ⟨Nat.le_refl _, fun z => z⟩
  | iaload => obtain ⟨x, -, hx⟩ := zm_some hs; cases hx; exact same rfl
  | baload => obtain ⟨x, -, hx⟩ := zm_some hs; cases hx; exact same rfl
  | laload => obtain ⟨x, -, hx⟩ := zm_some hs; cases hx; exact same rfl
  | aaload => obtain ⟨x, -, hx⟩ := zm_some hs; cases hx; exact same rfl
  | arraylength => obtain ⟨x, -, hx⟩ := zm_some hs; cases hx; exact same rfl
  | iastore => exact same (z_iast_g hs)
  | bastore => exact same (z_bast_g hs)
  | lastore => exact same (z_last_g hs)
  | aastore => exact same (z_aast_g hs)
  | new i => obtain ⟨ci, -, -, h1, -, h2, -⟩ := z_new_some hs; exact fresh h1 h2
  | newarray t => obtain ⟨n, r, -, -, -, -, -, h1, -, h2, -⟩ := z_newa_some hs; exact fresh h1 h2
  | anewarray i => obtain ⟨n, r, -, -, -, -, -, h1, -, h2, -⟩ := z_newq_some hs; exact fresh h1 h2
  | invokespecial i => obtain ⟨x, -, hx⟩ := zm_some hs; cases hx; exact same rfl
  | invokestatic i => obtain ⟨n, dp, sq, a, b, na, nb, -, -, -, -, -, -, -, -, -, -, -, h1, -⟩ := z_cpy_some hs; exact same h1
  | _ => cases hs
set_option maxHeartbeats 4000000 in
theorem zHeap_ok {op : Instr} {len : Nat} (hc : zCtx D C B0 sp fq sc M p s m args meth c) (hls : ls.size = zML M) (hg : g.1 ≤ 1000) (hP : va_P D zCl (zWo C (zad B0 sp) g h) H) (hS : va_S (zA B0) s.heap H locs) (hcl : s.heap.size + cells = B0 + g.1) (hfr : d ≤ R.frames) (hlo : 70 * d ≤ R.locals) (hd : decode (zBy M) pc = .ok (op, len)) (hk : zLk op len = true) (hs : zHeap sc d (zIni M) (zOn M) op st g h = some (st', g', h'))
    (hce : cells + (g'.1 - g.1) ≤ R.cells) (hsl : slots + (zSl g'.1 - zSl g.1) ≤ R.slots)
    (k : ∀ (H1 : Heap) (locs1 : List Loc), va_P D zCl (zWo C (zad B0 sp) g' h') H1 → va_S (zA B0) s.heap H1 locs1 → W p l e R s m args below meth c H1 locs1 (cells + (g'.1 - g.1)) (slots + (zSl g'.1 - zSl g.1)) Q (F0 m (pc + len) ls (st'.map (zTr (zad B0 sp) fq)))) : W p l e R s m args below meth c H locs cells slots Q (F0 m pc ls (st.map (zTr (zad B0 sp) fq))) := by
  have k0 : g'.1 = g.1 → ∀ (H1 : Heap) (locs1 : List Loc), va_P D zCl (zWo C (zad B0 sp) g' h') H1 → va_S (zA B0) s.heap H1 locs1 → W p l e R s m args below meth c H1 locs1 cells slots Q (F0 m (pc + len) ls (st'.map (zTr (zad B0 sp) fq))) := by
    intro hgg H1 locs1 h1 h2
    have h3 := k H1 locs1 h1 h2
    rw [hgg, Nat.sub_self, Nat.sub_self, Nat.add_zero, Nat.add_zero] at h3
    exact h3
  cases op with
  | getfield i =>
    obtain rfl : len = 3 := by simpa [zLk] using hk
    obtain ⟨x, h1, hx⟩ := zm_some hs
    cases hx
    exact zget_ok hc hg hP hS hd h1 (k0 rfl H locs hP hS)
  | putfield i =>
    obtain rfl : len = 3 := by simpa [zLk] using hk
    exact (zput_ok hc hg hP hS hd hs (k0 (z_put_g hs))).2
  | iaload =>
    obtain rfl : len = 1 := by simpa [zLk] using hk
    obtain ⟨x, h1, hx⟩ := zm_some hs
    cases hx
    exact ziald_ok hc hg hP hS hd h1 (k0 rfl H locs hP hS)
  | baload =>
    obtain rfl : len = 1 := by simpa [zLk] using hk
    obtain ⟨x, h1, hx⟩ := zm_some hs
    cases hx
    exact zbald_ok hc hg hP hS hd h1 (k0 rfl H locs hP hS)
  | laload =>
    obtain rfl : len = 1 := by simpa [zLk] using hk
    obtain ⟨x, h1, hx⟩ := zm_some hs
    cases hx
    exact zlald_ok hc hg hP hS hd h1 (k0 rfl H locs hP hS)
  | aaload =>
    obtain rfl : len = 1 := by simpa [zLk] using hk
    obtain ⟨x, h1, hx⟩ := zm_some hs
    cases hx
    exact zaald_ok hc hg hP hS hd h1 (k0 rfl H locs hP hS)
  | arraylength =>
    obtain rfl : len = 1 := by simpa [zLk] using hk
    obtain ⟨x, h1, hx⟩ := zm_some hs
    cases hx
    exact zalen_ok hc hg hP hS hd h1 (k0 rfl H locs hP hS)
  | iastore =>
    obtain rfl : len = 1 := by simpa [zLk] using hk
    exact (ziast_ok hc hg hP hS hd hs (k0 (by rw [z_iast_g hs]))).2
  | bastore =>
    obtain rfl : len = 1 := by simpa [zLk] using hk
    exact (zbast_ok hc hg hP hS hd hs (k0 (by rw [z_bast_g hs]))).2
  | lastore =>
    obtain rfl : len = 1 := by simpa [zLk] using hk
    exact (zlast_ok hc hg hP hS hd hs (k0 (by rw [z_last_g hs]))).2
  | aastore =>
    obtain rfl : len = 1 := by simpa [zLk] using hk
    exact (zaast_ok hc hg hP hS hd hs (k0 (by rw [z_aast_g hs]))).2
  | new i =>
    obtain rfl : len = 3 := by simpa [zLk] using hk
    exact znew_ok hc hg hP hS hcl hd hs hce hsl k
  | newarray t =>
    obtain rfl : len = 2 := by simpa [zLk] using hk
    exact znewa_ok hc hg hP hS hcl hd hs hce hsl k
  | anewarray i =>
    obtain rfl : len = 3 := by simpa [zLk] using hk
    exact znewq_ok hc hg hP hS hcl hd hs hce hsl k
  | invokespecial i =>
    obtain rfl : len = 3 := by simpa [zLk] using hk
    obtain ⟨x, h1, hx⟩ := zm_some hs
    cases hx
    exact zoi_ok hc hls hfr hlo hd h1 (k0 rfl H locs hP hS)
  | invokestatic i =>
    obtain rfl : len = 3 := by simpa [zLk] using hk
    have hgg : g' = g := by obtain ⟨n, dp, sq, a, b, na, nb, -, -, -, -, -, -, -, -, -, -, -, h1, -⟩ := z_cpy_some hs; exact h1
    exact zcpy_ok hc hls hg hP hS hfr hlo hd hs (k0 (by rw [hgg]))
  | _ => cases hs
end
end
section
/-! ===== soundness: entry, return, calls ===== -/
theorem zExp_len {tr : Value → Value} (hcat : ∀ v, (tr v).category = v.category) : ∀ as : List Value, (lg_sl (as.map tr)).length = (zExp as).length
  | [] => rfl
  | v :: as => by
    have ih := zExp_len hcat as
    have h1 : lg_sl ((v :: as).map tr) = (if (tr v).category = 2 then [.val (tr v), .second] else [.val (tr v)]) ++ lg_sl (as.map tr) := by simp [lg_sl]
    rw [h1, List.length_append, ih, hcat]
    cases v <;> simp [zExp, Value.category] <;> omega
theorem zExp_args {tr : Value → Value} (hcat : ∀ v, (tr v).category = v.category) : ∀ (as : List Value) (off i : Nat) (v : Value), (zExp as)[i]? = some (some v) → (off + i, tr v) ∈ lv_args off (as.map tr)
  | [], off, i, v, h => by simp [zExp] at h
  | u :: as, off, i, v, h => by
    have one : u.category ≠ 2 → zExp (u :: as) = some u :: zExp as := by
      intro hu
      cases u <;> simp [zExp, Value.category] at hu ⊢
    have two : u.category = 2 → zExp (u :: as) = some u :: none :: zExp as := by
      intro hu
      cases u <;> simp [zExp, Value.category] at hu ⊢
    by_cases hu : u.category = 2
    · rw [two hu] at h
      have hl : lv_args off ((u :: as).map tr) = (off, tr u) :: lv_args (off + 2) (as.map tr) := by simp [lv_args, hcat, hu]
      rw [hl]
      match i, h with
      | 0, h =>
        simp at h
        subst h
        exact List.mem_cons_self
      | 1, h => simp at h
      | j + 2, h =>
        simp at h
        have ih := zExp_args hcat as (off + 2) j v h
        rw [show off + (j + 2) = off + 2 + j by omega]
        exact List.mem_cons_of_mem _ ih
    · rw [one hu] at h
      have hl : lv_args off ((u :: as).map tr) = (off, tr u) :: lv_args (off + 1) (as.map tr) := by simp [lv_args, hcat, hu]
      rw [hl]
      match i, h with
      | 0, h =>
        simp at h
        subst h
        exact List.mem_cons_self
      | j + 1, h =>
        simp at h
        have ih := zExp_args hcat as (off + 1) j v h
        rw [show off + (j + 1) = off + 1 + j by omega]
        exact List.mem_cons_of_mem _ ih
theorem zEnt_ok {tr : Value → Value} (hcat : ∀ v, (tr v).category = v.category) {M : Nat} {as : List Value} (hle : (zExp as).length ≤ zML M) {ls : Array Slot} (h : lv_has ls (zML M) (lv_args 0 (as.map tr))) : zLh tr ls (zML M) (zEnt M as) := by
  refine ⟨h.1, h.2.1, ?_, fun i v hi => ?_⟩
  · unfold zEnt
    rw [List.length_append, List.length_replicate]
    omega
  · unfold zEnt at hi
    by_cases hl : i < (zExp as).length
    · rw [List.getElem?_append_left hl] at hi
      have := h.2.2 _ (zExp_args hcat as 0 i v hi)
      rw [Nat.zero_add] at this
      exact this
    · rw [List.getElem?_append_right (by omega), List.getElem?_replicate] at hi
      split at hi <;> simp at hi
theorem zM_at {M : Nat} (hM : M < zMt.length) : ∃ q, zMt[M]? = some q := ⟨_, List.getElem?_eq_getElem hM⟩
theorem zM_ok {M : Nat} (hM : M < zMt.length) : (zY M).cls = zO (zOn M) ∧ plainFor (zY M) = true ∧ zML M ≤ 40 ∧ (zY M).cls ≠ "java/lang/invoke/MethodHandle" ∧ (zY M).cls ≠ "java/lang/invoke/VarHandle" ∧ (parseMethodDescriptor (zY M).desc).map (fun d => d.parameters.length) = some (zNp M) := by
  obtain ⟨q, hq⟩ := zM_at hM
  have h1 := List.all_eq_true.mp z_okMt q (List.mem_of_getElem? hq)
  unfold z_okM at h1
  simp only [Bool.and_eq_true, decide_eq_true_eq] at h1
  unfold zY zOn zML zNp
  rw [hq]
  exact ⟨h1.1.1.1.1.1, h1.1.1.1.1.2, h1.1.1.1.2, h1.1.1.2, h1.1.2, h1.2⟩
set_option maxRecDepth 100000 in
theorem zM_len : zMt.length = 198 := rfl
theorem zM_code {M : Nat} (hM : M < 197) : Cond.code (zY M) (zBy M) (zML M) (zRt M) ∈ zTb := by
  have hl : M < zMt.length := by rw [zM_len]; omega
  obtain ⟨q, hq⟩ := zM_at hl
  have h1 := congrArg (fun x => x[M]?) z_cds
  simp only [List.getElem?_dropLast, List.length_map, zM_len] at h1
  rw [if_pos (by omega), if_pos (by omega), List.getElem?_map, List.getElem?_map, hq] at h1
  simp only [Option.map_some, Option.some.injEq] at h1
  unfold zY zBy zML zRt
  rw [hq]
  exact List.mem_filter.mpr ⟨List.mem_of_getElem? h1, rfl⟩
set_option maxRecDepth 100000 in
theorem z_callee : zCt.all (fun e => decide (e.2.2.1 < 197)) = true := by decide +kernel
def zRm (d cc ss : Nat) : Room := { frames := d, cells := cc, slots := ss, locals := 70 * d }
def zWs (M : Nat) : List Cond := Cond.code (zY M) (zBy M) (zML M) (zRt M) :: zTb
theorem zWs_good {M : Nat} (hM : M < 197) : ∀ w ∈ zWs M, w ∈ zTb ∧ ((w.onTables && w.keeps) = true ∨ ∃ ty, w = .arrayClass ty) := by
  have key : ∀ w ∈ zTb, w ∈ zTb ∧ ((w.onTables && w.keeps) = true ∨ ∃ ty, w = .arrayClass ty) := fun w hw => ⟨hw, good_of_word (List.mem_filter.mp hw).2⟩
  intro w hw
  rcases List.mem_cons.mp hw with rfl | h
  · exact key _ (zM_code hM)
  · exact key _ h
def zSta (D : va_G) (C : Nat → ClassId) (B0 : Nat) (sp : Nat → Nat) (fq : Value) (sc : zSc) (g : zSg) (h : zHp) (U : State) : Prop := U.heap.size = B0 + g.1 ∧ va_P D zCl (zWo C (zad B0 sp) g h) U.heap ∧ va_K D zCl (zTys C) U ∧ zRO B0 sp fq sc U U.heap
def zQc (D : va_G) (C : Nat → ClassId) (B0 : Nat) (sp : Nat → Nat) (g : zSg) (h : zHp) (r : Option Value) : Array Value → State → Outcome → State → Prop := match r with
  | some (.int x) => va_Qi (S := Unit) (fun y _ => y = x) (fun _ t => va_P D zCl (zWo C (zad B0 sp) g h) t.heap) (zA B0)
  | some (.long x) => va_Ql (S := Unit) (fun y _ => y = x) (fun _ t => va_P D zCl (zWo C (zad B0 sp) g h) t.heap) (zA B0)
  | none => va_Qv (S := Unit) (fun _ => True) (fun _ t => va_P D zCl (zWo C (zad B0 sp) g h) t.heap) (zA B0)
  | _ => fun _ _ _ _ => False
/-- the contract that a run of the small machine gives -/
def zMet (l : Launch) (D : va_G) (C : Nat → ClassId) (B0 : Nat) (sp : Nat → Nat) (fq : Value) (sc : zSc) (d M : Nat) (as : List Value) (g g' : zSg) (h h' : zHp) (r : Option Value) : Prop :=
  Met l (zY M) (zWs M) (zRm d (g'.1 - g.1) (zSl g'.1 - zSl g.1)) (va_Pc (as.map (zTr (zad B0 sp) fq)) (zSta D C B0 sp fq sc g h)) (zQc D C B0 sp g' h' r) (g'.1 - g.1) (zSl g'.1 - zSl g.1) (zA B0)
theorem zRk_ok {t : Option FieldType} {op : Instr} {st : List Value} {r : Option Value} (h : zRet t op st = some r) : (∃ x ty, r = some (.int x) ∧ op = .ireturn ∧ st = [.int x] ∧ t = some ty ∧ narrow ty (.int x) = .int x) ∨ (∃ x, r = some (.long x) ∧ op = .lreturn ∧ st = [.long x] ∧ t = some .long) ∨ (r = none ∧ op = .return_ ∧ st = [] ∧ t = none) := by
  unfold zRet at h
  split at h
  · rename_i x
    split at h
    · rename_i hk
      cases h
      unfold zRk at hk
      split at hk
      · rename_i h1; cases h1
      · rename_i y h1; cases h1; exact Or.inl ⟨x, _, rfl, rfl, rfl, rfl, rfl⟩
      · rename_i y h1; cases h1
      · rename_i y h1
        cases h1
        refine Or.inl ⟨x, _, rfl, rfl, rfl, rfl, ?_⟩
        simp at hk
        rcases hk with rfl | rfl <;> rfl
      · rename_i y h1
        cases h1
        refine Or.inl ⟨x, _, rfl, rfl, rfl, rfl, ?_⟩
        simp at hk
        subst hk
        rfl
      · rename_i y h1
        cases h1
        refine Or.inl ⟨x, _, rfl, rfl, rfl, rfl, ?_⟩
        simp at hk
        have h2 := pk_nc x
        rw [hk] at h2
        exact h2
      · cases hk
    · cases h
  · rename_i x
    split at h
    · rename_i hk
      cases h
      unfold zRk at hk
      split at hk
      · rename_i h1; cases h1
      · rename_i y h1; cases h1
      · rename_i y h1; cases h1; exact Or.inr (Or.inl ⟨x, rfl, rfl, rfl, rfl⟩)
      · rename_i y h1; cases h1
      · rename_i y h1; cases h1
      · rename_i y h1; cases h1
      · cases hk
    · cases h
  · split at h
    · rename_i hk
      cases h
      unfold zRk at hk
      split at hk
      · exact Or.inr (Or.inr ⟨rfl, rfl, rfl, rfl⟩)
      · rename_i y h1; cases h1
      · rename_i y h1; cases h1
      · rename_i y h1; cases h1
      · rename_i y h1; cases h1
      · rename_i y h1; cases h1
      · cases hk
    · cases h
  · cases h
theorem zBlind {D : va_G} {C : Nat → ClassId} {B0 : Nat} {sp : Nat → Nat} {fq : Value} {sc : zSc} {as : List Value} {g : zSg} {h : zHp} : FrameBlind (va_Pc as (zSta D C B0 sp fq sc g h)) := by
  intro a U f mq q
  obtain ⟨q0, q1, q2, q3, q4⟩ := q
  exact ⟨q0, q1, q2, va_K.moved (u := U) (U := U.calling f mq a) (Vm.Alike.refl U.vm) q3, q4.blind rfl⟩
section
variable {p : Program} {l : Launch} {e : Env} {R : Room} {s : State} {m : MethodId} {args : Array Value} {below : List Frame} {meth : Method} {c : Code} {H : Heap} {locs : List Loc} {cells slots : Nat} {Q : State → Prop}
variable {D : va_G} {C : Nat → ClassId} {B0 : Nat} {sp : Nat → Nat} {fq : Value} {sc : zSc} {M : Nat} {g g' : zSg} {h h' : zHp} {pc i d : Nat} {st st' : List Value} {ls : Array Slot}
theorem zgo_ok {r : Option Value} {a : Array Value} {rest : List Value} {mc ms : Nat} (hr : va_Run p l e R s m args below meth c H locs cells slots mc ms (F0 m pc ls (st.map (zTr (zad B0 sp) fq))) (rest.map (zTr (zad B0 sp) fq)) (zQc D C B0 sp g' h' r a) (zA B0)) (hS : va_S (zA B0) s.heap H locs)
    (k : ∀ (H1 : Heap) (locs1 : List Loc), va_P D zCl (zWo C (zad B0 sp) g' h') H1 → va_S (zA B0) s.heap H1 locs1 → W p l e R s m args below meth c H1 locs1 (cells + mc) (slots + ms) Q (F0 m (pc + 3) ls ((r.toList ++ rest).map (zTr (zad B0 sp) fq)))) : W p l e R s m args below meth c H locs cells slots Q (F0 m pc ls (st.map (zTr (zad B0 sp) fq))) := by
  cases r with
  | none =>
    refine va_callv (a := a) hr hS (fun q _ z => z) (fun q z => z) (fun u t H1 locs1 ht hvm hw hB hz1 hk1 hS1 => ?_)
    rw [ht] at hB
    exact k H1 locs1 hB hS1
  | some v =>
    cases v with
    | int x =>
      refine va_calli (a := a) hr hS (fun q _ z => z) (fun q z => z) (fun y u t H1 locs1 ht hvm hw hB hz1 hk1 hS1 => ?_)
      rw [ht] at hB
      rw [hw]
      exact k H1 locs1 hB hS1
    | long x =>
      refine va_calll (a := a) hr hS (fun q _ z => z) (fun q z => z) (fun y u t H1 locs1 ht hvm hw hB hz1 hk1 hS1 => ?_)
      rw [ht] at hB
      rw [hw]
      exact k H1 locs1 hB hS1
    | _ =>
      intro T hT X
      obtain ⟨v, st₀, t, T', L, h0, X', hL, e1, e2, hq, st⟩ := hr T hT X
      exact hq.elim
end
end
section
/-! ===== soundness: calls ===== -/
theorem zCk_mem {o i kd M : Nat} (h : zCk o i = some (kd, M)) : ∃ a b c f, ((o, i), (kd, M, a, b, c, f)) ∈ zCt := by
  unfold zCk at h
  cases hk : zCt.lookup (o, i) with
  | none => rw [hk] at h; cases h
  | some q =>
    obtain ⟨q1, q2, a, b, c, f⟩ := q
    rw [hk] at h
    cases h
    exact ⟨a, b, c, f, z_lk hk⟩
theorem zCk_lt {o i kd M : Nat} (h : zCk o i = some (kd, M)) : M < 197 := by
  obtain ⟨a, b, c, f, hm⟩ := zCk_mem h
  have := List.all_eq_true.mp z_callee _ hm
  simpa using this
theorem zCk_ini {o i kd M : Nat} (h : zCk o i = some (kd, M)) : Cond.initialized (zY M).cls ∈ zTb := by
  obtain ⟨a, b, c, f, hm⟩ := zCk_mem h
  have h2 := List.all_eq_true.mp z_okCt _ hm
  unfold z_okC at h2
  simp only [Bool.and_eq_true] at h2
  exact z_wd_in h2.1.2
theorem zCk_0 {o i M : Nat} (h : zCk o i = some (0, M)) : Cond.methodLink (zO o) i (zY M) ∈ zTb ∧ Cond.instanceMethod (zY M) ∈ zTb ∧ Cond.selects (zY M).cls (zY M) (zY M) ∈ zTb := by
  obtain ⟨a, b, c, f, hm⟩ := zCk_mem h
  have h2 := List.all_eq_true.mp z_okCt _ hm
  unfold z_okC at h2
  simp only [Bool.and_eq_true] at h2
  exact ⟨z_wd_in h2.2.1.1, z_wd_in h2.2.1.2, z_wd_in h2.2.2⟩
theorem zCk_1 {o i M : Nat} (h : zCk o i = some (1, M)) : Cond.methodLink (zO o) i (zY M) ∈ zTb ∧ Cond.static (zY M) ∈ zTb := by
  obtain ⟨a, b, c, f, hm⟩ := zCk_mem h
  have h2 := List.all_eq_true.mp z_okCt _ hm
  unfold z_okC at h2
  simp only [Bool.and_eq_true] at h2
  exact ⟨z_wd_in h2.2.1, z_wd_in h2.2.2⟩
theorem zCk_2 {o i M : Nat} (h : zCk o i = some (2, M)) : Cond.methodLink (zO o) i (zY M) ∈ zTb ∧ Cond.instanceMethod (zY M) ∈ zTb ∧ (zY M).name = "<init>" ∧ zRt M = none := by
  obtain ⟨a, b, c, f, hm⟩ := zCk_mem h
  have h2 := List.all_eq_true.mp z_okCt _ hm
  unfold z_okC at h2
  simp only [Bool.and_eq_true, decide_eq_true_eq] at h2
  exact ⟨z_wd_in h2.2.1.1.1, z_wd_in h2.2.1.1.2, h2.2.1.2, h2.2.2⟩
theorem zCk_3 {o i M : Nat} (h : zCk o i = some (3, M)) : (∃ e ∈ zCt, e.2.1 = 3 ∧ e.1 = (o, i) ∧ e.2.2.1 = M) ∧ Cond.static (zY M) ∈ zTb := by
  obtain ⟨a, b, c, f, hm⟩ := zCk_mem h
  have h2 := List.all_eq_true.mp z_okCt _ hm
  unfold z_okC at h2
  simp only [Bool.and_eq_true] at h2
  exact ⟨⟨_, hm, rfl, rfl, rfl⟩, z_wd_in h2.2.2⟩
theorem z_split {st : List Value} {n : Nat} {b : Value} {as : List Value} (h : (st.take (n + 1)).reverse = b :: as) : st = as.reverse ++ b :: st.drop (n + 1) := by
  have h1 : st.take (n + 1) = as.reverse ++ [b] := by
    have := congrArg List.reverse h
    simpa using this
  calc st = st.take (n + 1) ++ st.drop (n + 1) := (List.take_append_drop _ _).symm
    _ = as.reverse ++ b :: st.drop (n + 1) := by rw [h1]; simp
theorem z_nat5 {a : Nat} (h : 1000 ≤ a ∧ a < 1005) : ∃ j, j < 5 ∧ a = 1000 + j ∧ a ≠ 1400 ∧ ¬ a < 1000 := ⟨a - 1000, by omega, by omega, by omega, by omega⟩
section
variable {p : Program} {l : Launch} {e : Env} {R : Room} {s : State} {m : MethodId} {args : Array Value} {below : List Frame} {meth : Method} {c : Code} {H : Heap} {locs : List Loc} {cells slots : Nat} {Q : State → Prop}
variable {D : va_G} {C : Nat → ClassId} {B0 : Nat} {sp : Nat → Nat} {fq : Value} {sc : zSc} {M : Nat} {g g' : zSg} {h h' : zHp} {pc i d : Nat} {st st' : List Value} {ls : Array Slot}
set_option maxHeartbeats 4000000 in
theorem zCal_ok {op : Instr} {len M' : Nat} {as rest : List Value} {ini : Bool} {r : Option Value} (hc : zCtx D C B0 sp fq sc M p s m args meth c) (hls : ls.size = zML M) (hg : g.1 ≤ 1000) (hP : va_P D zCl (zWo C (zad B0 sp) g h) H) (hS : va_S (zA B0) s.heap H locs) (hcl : s.heap.size + cells = B0 + g.1) (hfr : d + 1 ≤ R.frames) (hlo : 70 * (d + 1) ≤ R.locals) (hd : decode (zBy M) pc = .ok (op, len)) (hk : zLk op len = true) (hs : zCal (zOn M) op st g = some (M', as, rest, ini))
    (hM : zMet l D C B0 sp fq sc d M' as g g' h h' r)
    (hce : cells + (g'.1 - g.1) ≤ R.cells) (hsl : slots + (zSl g'.1 - zSl g.1) ≤ R.slots)
    (k : ∀ (H1 : Heap) (locs1 : List Loc), va_P D zCl (zWo C (zad B0 sp) g' h') H1 → va_S (zA B0) s.heap H1 locs1 → W p l e R s m args below meth c H1 locs1 (cells + (g'.1 - g.1)) (slots + (zSl g'.1 - zSl g.1)) Q (F0 m (pc + 3) ls ((r.toList ++ rest).map (zTr (zad B0 sp) fq)))) : W p l e R s m args below meth c H locs cells slots Q (F0 m pc ls (st.map (zTr (zad B0 sp) fq))) := by
  obtain ⟨hx, hb, hml, hown, hts, hK, hRO, hin, hB, hfq⟩ := hc
  refine W_size (fun hu => ?_)
  have hsz := z_size hg hP hS hcl hB hu
  have hPc : ∀ U : State, U.heap = H → s.WarmedH U.vm → va_Pc (as.map (zTr (zad B0 sp) fq)) (zSta D C B0 sp fq sc g h) (as.map (zTr (zad B0 sp) fq)).toArray U := by
    intro U hU hW
    refine ⟨rfl, by rw [hU]; exact hsz, by rw [hU]; exact hP, va_K.moved hW.alike hK, ?_⟩
    rw [hU]
    exact hRO.move hW hB hS.2.1
  have hcat : (((rest.map (zTr (zad B0 sp) fq)).map fun v => v.category).sum) = (rest.map fun v => v.category).sum := zTr_cats hfq rest
  have hs0 : zCa0 (zOn M) op st g = some (M', as, rest, ini) := by
    unfold zCal at hs
    cases hq : zCa0 (zOn M) op st g with
    | none => rw [hq] at hs; cases hs
    | some q =>
      rw [hq] at hs
      simp only at hs
      split at hs
      · exact hs
      · cases hs
  unfold zMet at hM
  cases op with
  | invokevirtual i =>
    obtain rfl : len = 3 := by simpa [zLk] using hk
    simp only [zCa0] at hs0
    split at hs0
    · rename_i M1 hck
      split at hs0
      · rename_i b as1 hrev
        split at hs0
        · rename_i hcond
          cases hs0
          have hM7 := zCk_lt hck
          have hM8 : M' < zMt.length := by rw [zM_len]; omega
          obtain ⟨m1, m2, m3, m4, m5, m6⟩ := zM_ok hM8
          have hini := hts _ (zCk_ini hck)
          obtain ⟨w1, w2, w3⟩ := zCk_0 hck
          have w1 := hts _ w1
          have w2 := hts _ w2
          have w3 := hts _ w3
          have hst := z_split hrev
          have hcode := hts _ (zM_code hM7)
          have hpay := pay_in hts (zWs_good hM7)
          have hlen : ∀ sig, parseMethodDescriptor (zY M').desc = some sig → as1.length = sig.parameters.length := by
            intro sig hsig
            rw [hsig] at m6
            rw [hcond.1]
            exact (Option.some.inj m6).symm
          -- the receiver
          have hrec : ∃ a : Nat, b = .ref a ∧ a ≠ 1400 ∧ ∃ cellB : Cell, H[zad B0 sp a]? = some cellB ∧ cellB.vm.isStatics = false ∧ s.vm.findClass (zY M').cls = some cellB.cls := by
            have hrc := hcond.2.1
            unfold zRc at hrc
            split at hrc
            · rename_i a
              by_cases ha : 1000 ≤ a ∧ a < 1005
              · rw [if_pos ha] at hrc
                obtain ⟨j, hj5, hj, hn4, hn5⟩ := z_nat5 ha
                refine ⟨a, rfl, hn4, ?_⟩
                rw [zad_ge hn5, m1, of_decide_eq_true hrc, hj]
                exact vk_recv (adK := fun i => sp (1000 + i)) hRO.1 hj5 hS
              · rw [if_neg ha] at hrc
                rw [Bool.and_eq_true, decide_eq_true_eq] at hrc
                have ha1 : (a : Nat) < g.1 := hrc.1
                have hrc2 := hrc.2
                split at hrc2
                · rename_i ci hci
                  rw [decide_eq_true_eq] at hrc2
                  refine ⟨a, rfl, z_ne14 ha1 hg, ?_⟩
                  have he := zWo_get (C := C) (ad := zad B0 sp) (h := h) ha1
                  rw [zCe_ob hci] at he
                  have hci9 : ci < zCo.length := (List.getElem?_eq_some_iff.mp hrc2).1
                  have hci9' : ci < 9 := hci9
                  have hr1 : ∃ r1, zCl[ci]? = some r1 := ⟨_, List.getElem?_eq_getElem (by exact hci9')⟩
                  obtain ⟨r1, hr1⟩ := hr1
                  obtain ⟨o, h1, h2, -⟩ := zCo_at hr1
                  rw [hrc2] at h1
                  cases h1
                  rw [m1, h2]
                  exact va_recv hK hP hr1 he
                · cases hrc2
            · cases hrc
          obtain ⟨a, rfl, ha14, hcell⟩ := hrec
          have hmap : (Value.ref a :: as1).map (zTr (zad B0 sp) fq) = .ref (zad B0 sp a) :: as1.map (zTr (zad B0 sp) fq) := by rw [List.map_cons, zTr_ref ha14]
          rw [hmap] at hPc hM
          have hstk : st.map (zTr (zad B0 sp) fq) = (as1.map (zTr (zad B0 sp) fq)).reverse ++ .ref (zad B0 sp a) :: (st.drop (zNp M' + 1)).map (zTr (zad B0 sp) fq) := by
            conv => lhs; rw [hst]
            simp only [List.map_append, List.map_reverse, List.map_cons, zTr_ref ha14]
          generalize hO : zO (zOn M) = own at hown w1
          refine zgo_ok (a := (Value.ref (zad B0 sp a) :: as1.map (zTr (zad B0 sp) fq)).toArray) (rest := st.drop (zNp M' + 1)) (va_runV (Ts := zTb) (own := own) (C := (zY M').cls) (As := as1.map (zTr (zad B0 sp) fq)) (n := as1.length) (bytes := zBy M') (maxL := zML M') (ret := zRt M') ⟨hx, hb, hml, hown, hts⟩ hM
            ⟨⟨rfl, rfl, by show d + 1 ≤ R.frames; omega, by show 8 + (zML M' + 11) + 70 * d ≤ R.locals; omega, hpay, List.mem_cons_self, hcode, hini, ⟨m4, m5⟩, hlen, w1⟩, w2, w3⟩
            ⟨zBlind, hcell, hPc⟩ rfl (by simp) (by rw [hls]) hstk (lv_room (by rw [hcat]; exact hcond.2.2)) hd ⟨hce, hsl⟩) hS k
        · cases hs0
      · cases hs0
    · cases hs0
  | invokespecial i =>
    obtain rfl : len = 3 := by simpa [zLk] using hk
    simp only [zCa0] at hs0
    split at hs0
    · rename_i M1 hck
      split at hs0
      · rename_i a as1 hrev
        split at hs0
        · rename_i hcond
          cases hs0
          have hM7 := zCk_lt hck
          have hM8 : M' < zMt.length := by rw [zM_len]; omega
          obtain ⟨m1, m2, m3, m4, m5, m6⟩ := zM_ok hM8
          have hini := hts _ (zCk_ini hck)
          obtain ⟨w1, w2, w3, w4⟩ := zCk_2 hck
          have w1 := hts _ w1
          have w2 := hts _ w2
          have hst := z_split hrev
          have hcode := hts _ (zM_code hM7)
          have hpay := pay_in hts (zWs_good hM7)
          have hlen : ∀ sig, parseMethodDescriptor (zY M').desc = some sig → as1.length = sig.parameters.length := by
            intro sig hsig
            rw [hsig] at m6
            rw [hcond.1]
            exact (Option.some.inj m6).symm
          have ha14 : a ≠ 1400 := z_ne14 (g := (1000, [])) hcond.2.1 (Nat.le_refl _)
          have hmap : (Value.ref a :: as1).map (zTr (zad B0 sp) fq) = .ref (zad B0 sp a) :: as1.map (zTr (zad B0 sp) fq) := by rw [List.map_cons, zTr_ref ha14]
          rw [hmap] at hPc hM
          have hstk : st.map (zTr (zad B0 sp) fq) = (as1.map (zTr (zad B0 sp) fq)).reverse ++ .ref (zad B0 sp a) :: (st.drop (zNp M' + 1)).map (zTr (zad B0 sp) fq) := by
            conv => lhs; rw [hst]
            simp only [List.map_append, List.map_reverse, List.map_cons, zTr_ref ha14]
          rw [w4] at hcode
          generalize hO : zO (zOn M) = own at hown w1
          refine zgo_ok (a := (Value.ref (zad B0 sp a) :: as1.map (zTr (zad B0 sp) fq)).toArray) (rest := st.drop (zNp M' + 1)) (va_runI (Ts := zTb) (own := own) (As := as1.map (zTr (zad B0 sp) fq)) (n := as1.length) (bytes := zBy M') (maxL := zML M') ⟨hx, hb, hml, hown, hts⟩ hM
            ⟨⟨rfl, rfl, by show d + 1 ≤ R.frames; omega, by show 8 + (zML M' + 11) + 70 * d ≤ R.locals; omega, hpay, by rw [← w4]; exact List.mem_cons_self, hcode, hini, ⟨m4, m5⟩, hlen, w1⟩, w3, w2⟩
            ⟨zBlind, hPc⟩ rfl (by simp) (by rw [hls]) hstk (lv_room (by rw [hcat]; exact hcond.2.2)) hd ⟨hce, hsl⟩) hS k
        · cases hs0
      · cases hs0
    · cases hs0
  | invokestatic i =>
    obtain rfl : len = 3 := by simpa [zLk] using hk
    simp only [zCa0] at hs0
    split at hs0
    · rename_i M1 hck
      split at hs0
      · rename_i hcond
        cases hs0
        have hM7 := zCk_lt hck
        have hM8 : M' < zMt.length := by rw [zM_len]; omega
        obtain ⟨m1, m2, m3, m4, m5, m6⟩ := zM_ok hM8
        have hini := hts _ (zCk_ini hck)
        obtain ⟨w1, w2⟩ := zCk_1 hck
        have w1 := hts _ w1
        have w2 := hts _ w2
        have hcode := hts _ (zM_code hM7)
        have hpay := pay_in hts (zWs_good hM7)
        have hlen : ∀ sig, parseMethodDescriptor (zY M').desc = some sig → zNp M' = sig.parameters.length := by
          intro sig hsig
          rw [hsig] at m6
          exact (Option.some.inj m6).symm
        have hstk : st.map (zTr (zad B0 sp) fq) = (((st.take (zNp M')).reverse).map (zTr (zad B0 sp) fq)).reverse ++ (st.drop (zNp M')).map (zTr (zad B0 sp) fq) := by
          rw [← List.map_reverse, List.reverse_reverse, ← List.map_append, List.take_append_drop]
        generalize hO : zO (zOn M) = own at hown w1
        refine zgo_ok (a := (((st.take (zNp M')).reverse).map (zTr (zad B0 sp) fq)).toArray) (rest := st.drop (zNp M')) (va_runS (Ts := zTb) (own := own) (As := ((st.take (zNp M')).reverse).map (zTr (zad B0 sp) fq)) (n := zNp M') (bytes := zBy M') (maxL := zML M') (ret := zRt M') ⟨hx, hb, hml, hown, hts⟩ hM
          ⟨⟨rfl, rfl, by show d + 1 ≤ R.frames; omega, by show 8 + (zML M' + 11) + 70 * d ≤ R.locals; omega, hpay, List.mem_cons_self, hcode, hini, ⟨m4, m5⟩, hlen, w1⟩, w2⟩
          ⟨zBlind, hPc⟩ rfl (by rw [List.length_map, List.length_reverse]; exact hcond.1) (by rw [hls]) hstk (lv_room (by rw [hcat]; exact hcond.2)) hd ⟨hce, hsl⟩) hS k
      · cases hs0
    · rename_i M1 hck
      split at hs0
      · rename_i hcond
        cases hs0
        have hM7 := zCk_lt hck
        have hM8 : M' < zMt.length := by rw [zM_len]; omega
        obtain ⟨m1, m2, m3, m4, m5, m6⟩ := zM_ok hM8
        have hini := hts _ (zCk_ini hck)
        obtain ⟨⟨e0, he0, he1, he2, he3⟩, w2⟩ := zCk_3 hck
        have w1 := hRO.2.2.2.2.2.2.1 e0 he0 he1
        rw [he2, he3] at w1
        simp only at w1
        have w1 := va_Nw.use (A := args) rfl w1
        have w2 := hts _ w2
        have hcode := hts _ (zM_code hM7)
        have hpay := pay_in hts (zWs_good hM7)
        have hlen : ∀ sig, parseMethodDescriptor (zY M').desc = some sig → zNp M' = sig.parameters.length := by
          intro sig hsig
          rw [hsig] at m6
          exact (Option.some.inj m6).symm
        have hstk : st.map (zTr (zad B0 sp) fq) = (((st.take (zNp M')).reverse).map (zTr (zad B0 sp) fq)).reverse ++ (st.drop (zNp M')).map (zTr (zad B0 sp) fq) := by
          rw [← List.map_reverse, List.reverse_reverse, ← List.map_append, List.take_append_drop]
        generalize hO : zO (zOn M) = own at hown w1
        refine zgo_ok (a := (((st.take (zNp M')).reverse).map (zTr (zad B0 sp) fq)).toArray) (rest := st.drop (zNp M')) (va_runSN (Ts := zTb) (own := own) (As := ((st.take (zNp M')).reverse).map (zTr (zad B0 sp) fq)) (n := zNp M') (bytes := zBy M') (maxL := zML M') (ret := zRt M') ⟨hx, hb, hml, hown, hts⟩ hM
          ⟨⟨⟨rfl, rfl, by show d + 1 ≤ R.frames; omega, by show 8 + (zML M' + 11) + 70 * d ≤ R.locals; omega, hpay, List.mem_cons_self⟩, hcode, hini, ⟨m4, m5⟩, hlen, w1⟩, w2, trivial⟩
          ⟨zBlind, hPc⟩ rfl (by rw [List.length_map, List.length_reverse]; exact hcond.1) (by rw [hls]) hstk (lv_room (by rw [hcat]; exact hcond.2)) hd ⟨hce, hsl⟩) hS k
      · cases hs0
    · cases hs0
  | _ => cases hs0
end
end
section
/-! ===== soundness: a run of the small machine is a run of the machine ===== -/
theorem zStep_g {sc : zSc} {d M len pc pc' : Nat} {op : Instr} {lv lv' : zLv} {st st' : List Value} {g g' : zSg} {h h' : zHp} (hs : zStep sc d M op len pc lv st g h = some (.inl (pc', lv', st', g', h'))) : g.1 ≤ g'.1 ∧ (g.1 ≤ 1000 → g'.1 ≤ 1000) := by
  unfold zStep at hs
  split at hs
  · cases hs; exact ⟨Nat.le_refl _, fun z => z⟩
  · split at hs
    · cases hs; exact ⟨Nat.le_refl _, fun z => z⟩
    · split at hs
      · cases hs; exact ⟨Nat.le_refl _, fun z => z⟩
      · split at hs
        · rename_i hh
          cases hs
          exact zHeap_g hh
        · split at hs
          · cases hs
          · split at hs <;> cases hs
theorem zX_g (sc : zSc) : ∀ (n d M pc : Nat) (lv : zLv) (st : List Value) (g : zSg) (h : zHp) (r : Option Value) (g' : zSg) (h' : zHp), zX sc n d M pc lv st g h = some (r, g', h') → g.1 ≤ g'.1 ∧ (g.1 ≤ 1000 → g'.1 ≤ 1000) := by
  intro n
  induction n with
  | zero => intro d M pc lv st g h r g' h' hz; simp [zX] at hz
  | succ n ih =>
    intro d M pc lv st g h r g' h' hz
    rw [zX] at hz
    cases hd : zD M pc with
    | none => rw [hd] at hz; cases hz
    | some q =>
      obtain ⟨op, len, mq⟩ := q
      rw [hd] at hz
      simp only at hz
      cases hs : zStep sc d M op len pc (zMo mq lv) st g h with
      | none => rw [hs] at hz; cases hz
      | some x =>
        rw [hs] at hz
        rcases x with ⟨pc1, lv1, st1, g1, h1⟩ | r1 | ⟨M1, as, rest, ini⟩
        · have a1 := zStep_g hs
          have a2 := ih _ _ _ _ _ _ _ _ _ _ hz
          exact ⟨Nat.le_trans a1.1 a2.1, fun z => a2.2 (a1.2 z)⟩
        · cases hz; exact ⟨Nat.le_refl _, fun z => z⟩
        · cases d with
          | zero => cases hz
          | succ d1 =>
            simp only at hz
            cases hc : zX sc n d1 M1 0 (zEnt M1 as) [] g h with
            | none => rw [hc] at hz; cases hz
            | some y =>
              obtain ⟨r1, g1, h1⟩ := y
              rw [hc] at hz
              simp only at hz
              split at hz
              · have a1 := ih _ _ _ _ _ _ _ _ _ _ hc
                have a2 := ih _ _ _ _ _ _ _ _ _ _ hz
                exact ⟨Nat.le_trans a1.1 a2.1, fun z => a2.2 (a1.2 z)⟩
              · cases hz
def zBody (l : Launch) (D : va_G) (C : Nat → ClassId) (B0 : Nat) (sp : Nat → Nat) (fq : Value) (sc : zSc) (n : Nat) : Prop :=
  ∀ (d M pc : Nat) (lv : zLv) (st : List Value) (g : zSg) (h : zHp) (r : Option Value) (g' : zSg) (h' : zHp), zX sc n d M pc lv st g h = some (r, g', h') →
  ∀ (p : Program) (e : Env) (R : Room) (s : State) (m : MethodId) (args : Array Value) (below : List Frame) (meth : Method) (c : Code) (H : Heap) (locs : List Loc) (cells slots : Nat) (Q : State → Prop) (ls : Array Slot),
    zCtx D C B0 sp fq sc M p s m args meth c → zLh (zTr (zad B0 sp) fq) ls (zML M) lv → g.1 ≤ 1000 → va_P D zCl (zWo C (zad B0 sp) g h) H → va_S (zA B0) s.heap H locs → s.heap.size + cells = B0 + g.1 → d ≤ R.frames → 70 * d ≤ R.locals → cells + (g'.1 - g.1) ≤ R.cells → slots + (zSl g'.1 - zSl g.1) ≤ R.slots →
    (∀ (pcr : Nat) (lsr : Array Slot) (op : Instr) (H1 : Heap) (locs1 : List Loc), decode (zBy M) pcr = .ok (op, 1) → zRet (zRt M) op r.toList = some r → va_P D zCl (zWo C (zad B0 sp) g' h') H1 → va_S (zA B0) s.heap H1 locs1 → W p l e R s m args below meth c H1 locs1 (cells + (g'.1 - g.1)) (slots + (zSl g'.1 - zSl g.1)) Q (F0 m pcr lsr (r.toList.map (zTr (zad B0 sp) fq)))) →
    W p l e R s m args below meth c H locs cells slots Q (F0 m pc ls (st.map (zTr (zad B0 sp) fq)))
theorem zRet_len {t : Option FieldType} {op : Instr} {st : List Value} {r : Option Value} {len : Nat} (h : zRet t op st = some r) (hk : zLk op len = true) : len = 1 ∧ st = r.toList ∧ zRet t op r.toList = some r := by
  have h0 := h
  rcases zRk_ok h with ⟨x, ty, rfl, rfl, rfl, -, -⟩ | ⟨x, rfl, rfl, rfl, -⟩ | ⟨rfl, rfl, rfl, -⟩
  · exact ⟨by simpa [zLk] using hk, rfl, h0⟩
  · exact ⟨by simpa [zLk] using hk, rfl, h0⟩
  · exact ⟨by simpa [zLk] using hk, rfl, h0⟩
theorem zMet_of {l : Launch} {D : va_G} {C : Nat → ClassId} {B0 : Nat} {sp : Nat → Nat} {fq : Value} {sc : zSc} {n d M : Nat} {as : List Value} {g g' : zSg} {h h' : zHp} {r : Option Value} (hB : zBody l D C B0 sp fq sc n) (hM : M < 197) (hle : (zExp as).length ≤ zML M) (hfq : fq.category = 1) (hg : g.1 ≤ 1000) (hz : zX sc n d M 0 (zEnt M as) [] g h = some (r, g', h')) : zMet l D C B0 sp fq sc d M as g g' h h' r := by
  have hM8 : M < zMt.length := by rw [zM_len]; omega
  obtain ⟨m1, m2, m3, m4, m5, m6⟩ := zM_ok hM8
  refine va_MetF (cc := zBy M) (maxL := zML M) (ret := zRt M) m2 rfl ?_
  intro p e s m args below meth c s₁ B hml hv
  obtain ⟨rfl, hsz, hP, hK, hRO⟩ := hv
  have hx := B.exec
  have hb := B.bytes
  have hr := B.returns
  have hts := atoms_spec (ws := zWs M) B.pre
  have hown : s.vm.findClass (zY M).cls = some m.cls := findClass_of_methodNamed B.named
  have hlocks := B.notSynchronized
  have hname : meth.name = (zY M).name := (name_of_methodNamed B.named B.method).1
  have hcat := fun v => zTr_cat (ad := zad B0 sp) hfq v
  have hctx : zCtx D C B0 sp fq sc M p s m (as.map (zTr (zad B0 sp) fq)).toArray meth c := by
    refine ⟨hx, hb, hml, by rw [← m1]; exact hown, fun w hw => hts w (List.mem_cons_of_mem _ hw), hK, hRO, fun hi => ?_, by omega, hfq⟩
    unfold zIni at hi
    by_cases hn : (zY M).name = "<init>"
    · rw [hname, hn]
    · rw [if_neg hn] at hi; exact absurd rfl hi
  have hl := lv_entry (as.map (zTr (zad B0 sp) fq)) (n := zML M) (by rw [zExp_len hcat]; exact hle)
  rw [lg_entry_eq]
  generalize (lg_sl (as.map (zTr (zad B0 sp) fq)) ++ List.replicate (zML M - (lg_sl (as.map (zTr (zad B0 sp) fq))).length) Slot.unset).toArray = ls at hl ⊢
  refine hB d M 0 (zEnt M as) [] g h r g' h' hz p e _ s m _ below meth c s.heap [] 0 0 _ ls hctx (zEnt_ok hcat hle hl) hg hP va_S.rf hsz (Nat.le_refl d) (Nat.le_refl (70 * d)) (Nat.le_of_eq (Nat.zero_add _)) (Nat.le_of_eq (Nat.zero_add _)) ?_
  intro pcr lsr op H1 locs1 hd hrt hP1 hS1
  rw [Nat.zero_add, Nat.zero_add]
  rcases zRk_ok hrt with ⟨x, ty, rfl, rfl, -, ht, hn⟩ | ⟨x, rfl, rfl, -, ht⟩ | ⟨rfl, rfl, -, ht⟩
  · exact W.zret (v := x) (ty := ty) hx hb (hr.trans ht) hn (fun t ht2 hW => ⟨⟨x, (), rfl, rfl, by have hP2 := hP1; rw [← ht2] at hP2; exact hP2⟩, hS1.F ht2⟩) hS1.2.2 hd
  · exact W.lret (v := x) hx hb (hr.trans ht) (fun t ht2 hW => ⟨⟨x, (), rfl, rfl, by have hP2 := hP1; rw [← ht2] at hP2; exact hP2⟩, hS1.F ht2⟩) hS1.2.2 hd
  · exact W.vret hx hb (hr.trans ht) (fun t ht2 hW => ⟨⟨(), rfl, trivial, by have hP2 := hP1; rw [← ht2] at hP2; exact hP2⟩, hS1.F ht2⟩) hS1.2.2 hd
theorem zMo_lh {tr : Value → Value} {ls : Array Slot} {nL : Nat} {lv : zLv} {mq : Option (List Bool)} (h : zLh tr ls nL lv) (hm : (zMo mq lv).length = lv.length) : zLh tr ls nL (zMo mq lv) := by
  refine ⟨h.1, h.2.1, hm.trans h.2.2.1, fun i v hi => h.2.2.2 i v ?_⟩
  cases mq with
  | none => exact hi
  | some b =>
    simp only [zMo, List.getElem?_zipWith] at hi
    cases h1 : b[i]? with
    | none => rw [h1] at hi; simp at hi
    | some x =>
      cases h2 : lv[i]? with
      | none => rw [h1, h2] at hi; simp at hi
      | some y =>
        rw [h1, h2] at hi
        cases x with
        | false => simp at hi
        | true => simpa using hi
set_option maxRecDepth 100000 in
theorem z_mkl : (List.range 198).all (fun M => ((zMkT[M]?).getD []).all (fun e => decide (e.2.length = zML M))) = true := by decide +kernel
set_option maxRecDepth 100000 in
theorem z_mkT : zMkT.length = 198 := rfl
theorem zMk_len {M pc : Nat} {lv : zLv} (hl : lv.length = zML M) : (zMo (zMk M pc) lv).length = lv.length := by
  unfold zMk
  cases hq : ((zMkT[M]?).getD []).lookup pc with
  | none => rfl
  | some b =>
    have hM : M < 198 := by
      rcases Nat.lt_or_ge M 198 with h1 | h1
      · exact h1
      · rw [List.getElem?_eq_none (by rw [z_mkT]; exact h1)] at hq
        cases hq
    have h1 := List.all_eq_true.mp (List.all_eq_true.mp z_mkl M (List.mem_range.mpr hM)) _ (z_lk hq)
    rw [decide_eq_true_eq] at h1
    simp only at h1
    show (List.zipWith _ b lv).length = lv.length
    rw [List.length_zipWith]
    omega
theorem zD_some {M pc len : Nat} {op : Instr} {mq : Option (List Bool)} (h : zD M pc = some (op, len, mq)) : decode (zBy M) pc = .ok (op, len) ∧ zLk op len = true ∧ mq = zMk M pc := by
  unfold zD at h
  split at h
  · rename_i op1 len1 hq
    split at h
    · rename_i hk
      cases h
      exact ⟨hq, hk, rfl⟩
    · cases h
  · cases h
theorem zCal_lt {o : Nat} {op : Instr} {st : List Value} {g : zSg} {M : Nat} {as rest : List Value} {ini : Bool} (hs : zCal o op st g = some (M, as, rest, ini)) : M < 197 ∧ (zExp as).length ≤ zML M := by
  unfold zCal at hs
  cases hq : zCa0 o op st g with
  | none => rw [hq] at hs; cases hs
  | some q =>
    rw [hq] at hs
    simp only at hs
    split at hs
    · rename_i hle
      cases hs
      refine ⟨?_, hle⟩
      unfold zCa0 at hq
      split at hq
      · split at hq
        · rename_i hck
          split at hq
          · split at hq
            · cases hq; exact zCk_lt hck
            · cases hq
          · cases hq
        · cases hq
      · split at hq
        · rename_i hck
          split at hq
          · split at hq
            · cases hq; exact zCk_lt hck
            · cases hq
          · cases hq
        · cases hq
      · split at hq
        · rename_i hck
          split at hq
          · cases hq; exact zCk_lt hck
          · cases hq
        · rename_i hck
          split at hq
          · cases hq; exact zCk_lt hck
          · cases hq
        · cases hq
      · cases hq
    · cases hs
set_option maxHeartbeats 4000000 in
theorem zBody_all (l : Launch) (D : va_G) (C : Nat → ClassId) (B0 : Nat) (sp : Nat → Nat) (fq : Value) (sc : zSc) : ∀ n, zBody l D C B0 sp fq sc n := by
  intro n
  induction n with
  | zero => intro d M pc lv st g h r g' h' hz; simp [zX] at hz
  | succ n ih =>
    intro d M pc lv st g h r g' h' hz p e R s m args below meth c H locs cells slots Q ls hctx hl hg hP hS hcl hfr hlo hce hsl hret
    have hfq : fq.category = 1 := hctx.2.2.2.2.2.2.2.2.2
    rw [zX] at hz
    cases hd0 : zD M pc with
    | none => rw [hd0] at hz; cases hz
    | some q =>
      obtain ⟨op, len, mq⟩ := q
      rw [hd0] at hz
      simp only at hz
      obtain ⟨hd, hk, rfl⟩ := zD_some hd0
      have hl := zMo_lh hl (zMk_len hl.2.2.1 (pc := pc))
      generalize zMo (zMk M pc) lv = lv0 at hz hl
      cases hs : zStep sc d M op len pc lv0 st g h with
      | none => rw [hs] at hz; cases hz
      | some x =>
        rw [hs] at hz
        unfold zStep at hs
        cases h1 : zPure (zOn M) op lv0 st with
        | some st1 =>
          rw [h1] at hs
          cases hs
          exact zPure_ok hctx hd hk hl hS h1 (ih _ _ _ _ _ _ _ _ _ _ hz p e R s m args below meth c H locs cells slots Q ls hctx hl hg hP hS hcl hfr hlo hce hsl hret)
        | none =>
          rw [h1] at hs
          simp only at hs
          cases h2 : zLoc op lv0 st with
          | some y =>
            obtain ⟨lv1, st1⟩ := y
            rw [h2] at hs
            cases hs
            exact zLoc_ok hctx hd hk hl h2 (fun ls1 hl1 => ih _ _ _ _ _ _ _ _ _ _ hz p e R s m args below meth c H locs cells slots Q ls1 hctx hl1 hg hP hS hcl hfr hlo hce hsl hret)
          | none =>
            rw [h2] at hs
            simp only at hs
            cases h3 : zBr op pc st with
            | some y =>
              obtain ⟨pc1, st1⟩ := y
              rw [h3] at hs
              cases hs
              exact zBr_ok hctx hd hk h3 (ih _ _ _ _ _ _ _ _ _ _ hz p e R s m args below meth c H locs cells slots Q ls hctx hl hg hP hS hcl hfr hlo hce hsl hret)
            | none =>
              rw [h3] at hs
              simp only at hs
              cases h4 : zHeap sc d (zIni M) (zOn M) op st g h with
              | some y =>
                obtain ⟨st1, g1, h1'⟩ := y
                rw [h4] at hs
                cases hs
                simp only at hz
                have a1 := zHeap_g h4
                have a2 := zX_g _ _ _ _ _ _ _ _ _ _ _ _ hz
                have b1 := zSl_le a1.1
                have b2 := zSl_le a2.1
                refine zHeap_ok hctx hl.1 hg hP hS hcl hfr hlo hd hk h4 (by omega) (by omega) (fun H1 locs1 hP1 hS1 => ?_)
                refine ih _ _ _ _ _ _ _ _ _ _ hz p e R s m args below meth c H1 locs1 _ _ Q ls hctx hl (a1.2 hg) hP1 hS1 (by omega) hfr hlo (by omega) (by omega) ?_
                intro pcr lsr op2 H2 locs2 c1 c2 c3 c4
                have h9 := hret pcr lsr op2 H2 locs2 c1 c2 c3 c4
                rw [show cells + (g1.1 - g.1) + (g'.1 - g1.1) = cells + (g'.1 - g.1) by omega, show slots + (zSl g1.1 - zSl g.1) + (zSl g'.1 - zSl g1.1) = slots + (zSl g'.1 - zSl g.1) by omega]
                exact h9
              | none =>
                rw [h4] at hs
                simp only at hs
                cases h5 : zRet (zRt M) op st with
                | some r1 =>
                  rw [h5] at hs
                  cases hs
                  simp only at hz
                  cases hz
                  obtain ⟨rfl, rfl, h7⟩ := zRet_len h5 hk
                  have h9 := hret pc ls op H locs hd h7 hP hS
                  rw [Nat.sub_self, Nat.sub_self, Nat.add_zero, Nat.add_zero] at h9
                  exact h9
                | none =>
                  rw [h5] at hs
                  simp only at hs
                  cases h6 : zCal (zOn M) op st g with
                  | none => rw [h6] at hs; cases hs
                  | some y =>
                    obtain ⟨M1, as, rest, ini⟩ := y
                    rw [h6] at hs
                    cases hs
                    cases d with
                    | zero => cases hz
                    | succ d1 =>
                      simp only at hz
                      cases hc : zX sc n d1 M1 0 (zEnt M1 as) [] g h with
                      | none => rw [hc] at hz; cases hz
                      | some y =>
                        obtain ⟨r1, g1, h1'⟩ := y
                        rw [hc] at hz
                        simp only at hz
                        split at hz
                        · have a1 := zX_g _ _ _ _ _ _ _ _ _ _ _ _ hc
                          have a2 := zX_g _ _ _ _ _ _ _ _ _ _ _ _ hz
                          have b1 := zSl_le a1.1
                          have b2 := zSl_le a2.1
                          obtain ⟨hM7, hle⟩ := zCal_lt h6
                          refine zCal_ok hctx hl.1 hg hP hS hcl hfr hlo hd hk h6 (zMet_of ih hM7 hle hfq hg hc) (by omega) (by omega) (fun H1 locs1 hP1 hS1 => ?_)
                          refine ih _ _ _ _ _ _ _ _ _ _ hz p e R s m args below meth c H1 locs1 _ _ Q ls hctx hl (a1.2 hg) hP1 hS1 (by omega) hfr hlo (by omega) (by omega) ?_
                          intro pcr lsr op2 H2 locs2 c1 c2 c3 c4
                          have h9 := hret pcr lsr op2 H2 locs2 c1 c2 c3 c4
                          rw [show cells + (g1.1 - g.1) + (g'.1 - g1.1) = cells + (g'.1 - g.1) by omega, show slots + (zSl g1.1 - zSl g.1) + (zSl g'.1 - zSl g1.1) = slots + (zSl g'.1 - zSl g.1) by omega]
                          exact h9
                        · cases hz
end
section
-- ===== end of PART A; then your names; then what follows =====
/-! THE CLAIM OUT OF ONE WALK OF THE LAW'S BODY. Your part is whole_start (and what it stands on); all else here is the same for every law, but numbers. -/
def R_law : String := "UntoldFactsLaw"
def lw_P (b : Addr) (xs : List Int32) (args : Array Value) (s : State) : Prop := args = #[.ref b] ∧ s.IntsAt b xs ∧ xs.length ≤ 2560 ∧ (Jvm.Cond.and given_1 narrow_1).before args s = true
def lw_Q (_ : Array Value) (s : State) (o : Outcome) (t : State) : Prop := o = .returned (some (.int 1)) ∧ Framed s o t [] 600000 7302250
def lw_Z (below : List Frame) (a : Array Value) (s : State) : State → Prop := fun t => ∃ o, t.status = .running ∧ Ended t below o ∧ lw_Q a s o t
/-- the law's own end, with 1 on the stack, nothing written that was there before, its room as the claim has it -/
theorem lw_ret {p : Program} {l : Launch} {e : Env} {s : State} {m : MethodId} {below : List Frame} {meth : Method} {c : Code} {b : Nat} (hx : p.tables.exec = Jvm.exec) (hb : c.code = code) (hr : meth.sig.returnType = ret) (hlocks : meth.locks = false) {pc : Nat} {H : Heap} {ls : Array Slot} (hdg : decode code pc = .ok (.ireturn, 1)) : W p l e room_1 s m #[Value.ref b] below meth c H [] 600000 7302250 (lw_Z below #[Value.ref b] s) (F0 m pc ls [.int 1]) := by
  intro T hT X
  obtain ⟨fs, hret, hrun, hended, hW, hframe⟩ := X.leave (v := some (.int 1)) (hlocks := hlocks) (fun h => by rw [hr] at h; cases h)
  have hmeth' : T.vm.method? m = some meth := X.method'
  refine ⟨T.setFrames fs, ?_, .returned (some (.int 1)), hrun, hended, rfl, ⟨_, rfl⟩, hW, hframe⟩
  jvm_step X.here [X.here.top, hx, hb, hdg, hmeth', hr, ret, narrow_b1]
  (try refine ⟨rfl, ?_⟩); (try refine ⟨rfl, ?_⟩)
  first | (intro acts; rw [hret _ acts rfl rfl rfl]) | rw [hret _ _ rfl rfl rfl]
  exact Steps.refl _
/-- what holds at the law's entry: the machine, the code, the tables' words (any of lw_tbl by 'hts w (by decide +kernel)'), the script of L ints xs at the cell b, what the Statement gives of the start (any of its parts by flat_of_before) -/
def lw_At (p : Program) (s : State) (m : MethodId) (meth : Method) (c : Code) (b L : Nat) (xs : Nat → Int32) : Prop :=
  p.tables.exec = Jvm.exec ∧ c.code = code ∧ meth.sig.returnType = ret ∧ c.maxLocals = 4 ∧ s.vm.findClass R_law = some m.cls ∧ (∀ w ∈ lw_tbl, w.before #[Value.ref b] s = true) ∧ va_X b L xs s s.heap ∧ b < s.heap.size ∧ meth.locks = false ∧ (Jvm.Cond.and given_1 narrow_1).before #[Value.ref b] s = true
-- ===== YOUR PART BEGINS =====
end
section
/-! ===== from the law's entry to the small machine ===== -/
def zSi : List Nat := [49, 58, 88, 63, 98]
def zTm (i : Nat) : Term := .string "UntoldFacts$Reader" (zSi.getD i 0)
abbrev zGiv : List Cond := flatC (Jvm.Cond.and given_1 narrow_1)
set_option maxRecDepth 100000 in
theorem z_g1 : ∀ i, i < 5 → Cond.exactly (zTm i) "java/lang/String" ∈ zGiv := by decide +kernel
set_option maxRecDepth 100000 in
theorem z_g2 : ∀ i, i < 5 → Cond.eq (.field (zTm i) "java/lang/String" "coder" "B") (.int 0) ∈ zGiv := by decide +kernel
set_option maxRecDepth 100000 in
theorem z_g3 : ∀ i, i < 5 → Cond.arrayOf (.field (zTm i) "java/lang/String" "value" "[B") .byte ∈ zGiv := by decide +kernel
set_option maxRecDepth 100000 in
theorem z_g4 : ∀ i, i < 5 → Cond.eq (.length (.field (zTm i) "java/lang/String" "value" "[B")) (.int (Int32.ofNat (zBl.getD i 0))) ∈ zGiv := by decide +kernel
set_option maxRecDepth 100000 in
theorem z_g5 : ∀ i, i < 5 → ∀ j, j < zBl.getD i 0 → Cond.eq (.elem (.field (zTm i) "java/lang/String" "value" "[B") (.int (Int32.ofNat j))) (.int ((zBt.getD i []).getD j 0)) ∈ zGiv := by decide +kernel
set_option maxRecDepth 100000 in
theorem z_g6 : ∀ i, i < 5 → ∀ j, j < 5 → i ≠ j → (Cond.not (Cond.eq (zTm i) (zTm j)) ∈ zGiv ∨ Cond.not (Cond.eq (zTm j) (zTm i)) ∈ zGiv) := by decide +kernel
set_option maxRecDepth 100000 in
theorem z_g7 : Cond.arrayOf (.static "UntoldFacts$Family" "WITH" "[J") .long ∈ zGiv ∧ Cond.eq (.length (.static "UntoldFacts$Family" "WITH" "[J")) (.int (Int32.ofNat 6)) ∈ zGiv := by decide +kernel
set_option maxRecDepth 100000 in
theorem z_g8 : ∀ j, j < 6 → Cond.eq (.elem (.static "UntoldFacts$Family" "WITH" "[J") (.int (Int32.ofNat j))) (.long (zWi j)) ∈ zGiv := by decide +kernel
set_option maxRecDepth 100000 in
theorem z_g9 : Cond.eq (.static "java/lang/String" "COMPACT_STRINGS" "Z") (.int 1) ∈ zGiv ∧ Cond.isRef (.static "jdk/internal/util/Preconditions" "SIOOBE_FORMATTER" "Ljava/util/function/BiFunction;") ∈ zGiv := by decide +kernel
set_option maxRecDepth 100000 in
theorem z_h1 : Cond.laysStatic "UntoldFacts$Family" "WITH" "[J" ∈ lw_tbl ∧ Cond.initialized "UntoldFacts$Family" ∈ lw_tbl ∧ Cond.laysStatic "java/lang/String" "COMPACT_STRINGS" "Z" ∈ lw_tbl ∧ Cond.initialized "java/lang/String" ∈ lw_tbl ∧ Cond.laysStatic "jdk/internal/util/Preconditions" "SIOOBE_FORMATTER" "Ljava/util/function/BiFunction;" ∈ lw_tbl ∧ Cond.initialized "jdk/internal/util/Preconditions" ∈ lw_tbl := by decide +kernel
set_option maxRecDepth 100000 in
theorem z_h2 : ∀ e ∈ zTt, Cond.stringRef (zO e.1.1) e.1.2 e.2.1 ∈ lw_tbl ∧ zO e.1.1 = "UntoldFacts$Reader" ∧ e.1.2 = zSi.getD e.2.2 0 := by decide +kernel
set_option maxRecDepth 100000 in
theorem z_h3 : Cond.arrayOver (.object "UntoldFacts$Talk") ∈ lw_tbl := by decide +kernel
set_option maxRecDepth 100000 in
theorem z_h4 : zCl.all (fun r => z_has (.instantiable r.1 r.2.2)) = true := by decide +kernel
theorem z_nest {e : (Nat × Nat) × (Nat × Nat × Nat × Nat × Nat × Nat)} (he : e ∈ zCt) (h3 : e.2.1 = 3) : Cond.methodLinkNest (zO e.1.1) e.1.2 (zY e.2.2.1) "UntoldFacts" ∈ lw_tbl := by
  have h2 := List.all_eq_true.mp z_okCt _ he
  unfold z_okC at h2
  rw [h3] at h2
  simp only [Bool.and_eq_true, decide_eq_true_eq] at h2
  exact List.mem_of_getElem? h2.2.1
theorem zSl_max (n : Nat) : zSl n ≤ 100000 := by
  have h73 : zSl 73 ≤ 100000 := by decide +kernel
  rcases Nat.lt_or_ge n 73 with h | h
  · exact Nat.le_trans (zSl_le (Nat.le_of_lt h)) h73
  · have : zSl n = zSl 73 := by
      unfold zSl
      rw [List.take_of_length_le (show zKL.length ≤ n from h), List.take_of_length_le (show zKL.length ≤ 73 from Nat.le_refl _)]
    rw [this]
    exact h73
def zH0 : zHp := (fun _ _ => 0, fun _ _ => 0, fun _ _ => none)
def zGoal : Prop := ∀ sc : zSc, sc.1 ≤ 2560 → ∃ g' h', zE sc 40 197 0 [some (.ref 1300), none, none, none] [] (0, []) zH0 = some (some (.int 1), g', h')
theorem z_arrK {s : State} {args : Array Value} {ty : FieldType} (hw : (Cond.arrayClass ty).before args s = true) : ∃ cA, ArrOfT s cA ty ∧ s.vm.findClass ("[" ++ ty.toString) = some cA := by
  obtain ⟨cA, kA, comp, h1, h2, h3⟩ := Cond.arrayClass_spec hw
  exact ⟨cA, fun n z => ⟨fun k h => (by cases h), kA, h2, comp, h3⟩, h1⟩
set_option maxRecDepth 100000 in
theorem z_law : zBy 197 = code ∧ zML 197 = 4 ∧ zO (zOn 197) = "UntoldFactsLaw" ∧ zIni 197 = 99 ∧ zRt 197 = some .boolean := ⟨rfl, rfl, rfl, rfl, rfl⟩
set_option maxHeartbeats 4000000 in
theorem zStart (hZ : zGoal) {p : Program} {e : Env} {s : State} {m : MethodId} {below : List Frame} {meth : Method} {c : Code} (l : Launch) {b L : Nat} {xs : Nat → Int32} (hL : L ≤ 2560) (C0 : lw_At p s m meth c b L xs) : W p l e room_1 s m #[Value.ref b] below meth c s.heap [] 0 0 (lw_Z below #[Value.ref b] s) (entryFrame m ([Value.ref b] : List Value).toArray 4) := by
  obtain ⟨hx, hb, hr, hml, hown, hts, hX, hbl, hlocks, hgv⟩ := id C0
  have hs := flat_of_before _ hgv
  have htb : ∀ w ∈ zTb, w.before #[Value.ref b] s = true := fun w hw => hts w (List.mem_filter.mp hw).1
  have hA : ∀ a : Nat, a < s.heap.size → ¬ zA s.heap.size a := fun a ha z => by unfold zA at z; omega
  obtain ⟨adK, adV, hK1, hK2⟩ := vk_Sof (N := 5) (tm := zTm) (len := zBl) (byt := zBt) (A := zA s.heap.size) (fun i hi => by match i, hi with | 0, _ => decide | 1, _ => decide | 2, _ => decide | 3, _ => decide | 4, _ => decide) (fun i hi => hs _ (z_g1 i hi)) (fun i hi => hs _ (z_g2 i hi)) (fun i hi => hs _ (z_g3 i hi)) (fun i hi => hs _ (z_g4 i hi)) (fun i hi j hj => hs _ (z_g5 i hi j hj)) (fun i j hi hj hij => (z_g6 i hi j hj hij).imp (fun h => hs _ h) (fun h => hs _ h)) hA
  obtain ⟨tW, hW1, hW2⟩ := va_Tof (tm := .static "UntoldFacts$Family" "WITH" "[J") (ty := .long) (N := 6) (f := fun j => .long (zWi j)) (A := zA s.heap.size) (by decide) (hs _ z_g7.1) (va_eqt (hs _ z_g7.2)) (fun j hj => va_eqtl (hs _ (z_g8 j hj))) hA
  obtain ⟨l1, l2, l3, l4, l5, l6⟩ := z_h1
  have hZW := va_Zref (A := zA s.heap.size) (hts _ l1) (hts _ l2) hW1 hA
  have hZC := va_Zof (A := zA s.heap.size) (hts _ l3) (hts _ l4) (va_eqi (hs _ z_g9.1)) hA
  obtain ⟨fq, hfq, hZF⟩ : ∃ fq : Value, fq.category = 1 ∧ va_Z "jdk/internal/util/Preconditions" "SIOOBE_FORMATTER" "Ljava/util/function/BiFunction;" fq (zA s.heap.size) s s.heap := by
    rcases va_Zqof (A := zA s.heap.size) (hts _ l5) (hts _ l6) (hs _ z_g9.2) hA with h | ⟨t, h⟩
    · exact ⟨.null, rfl, h⟩
    · exact ⟨.ref t, rfl, h⟩
  obtain ⟨sp, hsp⟩ : ∃ sp : Nat → Nat, (∀ i, i < 5 → sp (1000 + i) = adK i ∧ sp (1100 + i) = adV i) ∧ sp 1200 = tW ∧ sp 1300 = b := by
    refine ⟨fun a => if a < 1100 then adK (a - 1000) else if a < 1200 then adV (a - 1100) else if a < 1300 then tW else b, fun i hi => ⟨?_, ?_⟩, rfl, rfl⟩
    · dsimp only
      rw [if_pos (by omega), show 1000 + i - 1000 = i by omega]
    · dsimp only
      rw [if_neg (by omega), if_pos (by omega), show 1100 + i - 1100 = i by omega]
  have hRO : zRO s.heap.size sp fq (L, xs) s s.heap := by
    refine ⟨⟨fun i hi => ?_, fun i j hi hj hij => ?_⟩, fun e he => ?_, by rw [hsp.2.1]; exact hZW, by rw [hsp.2.1]; exact hW2, hZC, hZF, fun e he h3 => va_Nw.of rfl (hts _ (z_nest he h3)), va_AO.of (hts _ z_h3), by rw [hsp.2.2]; exact hX, by rw [hsp.2.2]; exact hbl⟩
    · simp only [(hsp.1 i hi).1, (hsp.1 i hi).2]
      exact hK1.1 i hi
    · simp only [(hsp.1 i hi).1, (hsp.1 j hj).1] at hij
      exact hK1.2 i j hi hj hij
    · obtain ⟨h1, h2, h3⟩ := z_h2 e he
      have h5 := zTt_lt e he
      rw [(hsp.1 _ h5).1]
      refine vk_R.of (hts _ h1) ?_
      rw [h2, h3]
      exact hK2 _ h5
  obtain ⟨D, hD⟩ : ∃ D : va_G, ∀ (ci : Nat) (r : vw_C), zCl[ci]? = some r → u_Kn s r.1 r.2.1 r.2.2 (D.1 ci) (D.2 ci) := by
    have h0 : ∀ ci : Nat, ∃ q : ClassId × (Nat → Nat), ∀ r, zCl[ci]? = some r → u_Kn s r.1 r.2.1 r.2.2 q.1 q.2 := by
      intro ci
      cases hr : zCl[ci]? with
      | none => exact ⟨(0, fun _ => 0), fun r h => by cases h⟩
      | some r =>
        obtain ⟨cC, iS, h1⟩ := u_known (C := r.1) (T := r.2.1) (N := r.2.2) htb (z_uws hr) (htb _ (z_has_in (List.all_eq_true.mp z_h4 r (List.mem_of_getElem? hr))))
        exact ⟨(cC, iS), fun r2 h2 => by cases h2; exact h1⟩
    obtain ⟨f, hf⟩ := Classical.axiomOfChoice h0
    exact ⟨(fun ci => (f ci).1, fun ci => (f ci).2), fun ci r h => hf ci r h⟩
  obtain ⟨cI, i1, i2⟩ := z_arrK (htb _ z_wI)
  obtain ⟨cZ, z1, z2⟩ := z_arrK (htb _ z_wZ)
  obtain ⟨cJ, j1, j2⟩ := z_arrK (htb _ z_wJ)
  obtain ⟨comp, cT, kT, t1, -, t3, t4, t5⟩ := Cond.arrayOver_spec (hts _ z_h3)
  have hK : va_K D zCl (zTys (fun t => if t = 0 then cI else if t = 1 then cZ else if t = 2 then cJ else cT)) s := by
    refine ⟨fun ci r h => hD ci r h, fun k q hq => ?_⟩
    match k, hq with
    | 0, hq => cases hq; exact ⟨i1, i2⟩
    | 1, hq => cases hq; exact ⟨z1, z2⟩
    | 2, hq => cases hq; exact ⟨j1, j2⟩
    | 3, hq => cases hq; exact ⟨fun n z => ⟨fun k h => (by cases h), kT, t3, comp, t4⟩, kT, comp, t3, t4, t1, t5⟩
    | k + 4, hq => simp [zTys] at hq
  generalize (fun t : Nat => if t = 0 then cI else if t = 1 then cZ else if t = 2 then cJ else cT) = C at hK
  obtain ⟨e1, e2, e3, e4, e5⟩ := z_law
  have hctx : zCtx D C s.heap.size sp fq (L, xs) 197 p s m #[Value.ref b] meth c := ⟨hx, by rw [e1]; exact hb, by rw [e2]; exact hml, by rw [e3]; exact hown, htb, hK, hRO, fun h => absurd e4 h, Nat.le_refl _, hfq⟩
  obtain ⟨g', h', hz⟩ := hZ (L, xs) hL
  obtain ⟨n, hn⟩ := (zE_iff _).mp hz
  have hgg := zX_g _ _ _ _ _ _ _ _ _ _ _ _ hn
  have hg1 : g'.1 ≤ 1000 := hgg.2 (Nat.zero_le _)
  have hsm := zSl_max g'.1
  have hs0 : zSl 0 = 0 := rfl
  have hl := lv_entry ([.ref b]) (n := 4) (Nat.le_of_ble_eq_true rfl)
  rw [lg_entry_eq]
  generalize (lg_sl ([.ref b]) ++ List.replicate (4 - (lg_sl ([.ref b])).length) Slot.unset).toArray = ls at hl ⊢
  have had : zad s.heap.size sp 1300 = b := by rw [zad_ge (by omega)]; exact hsp.2.2
  refine zBody_all l D C s.heap.size sp fq (L, xs) n 40 197 0 _ [] (0, []) zH0 _ g' h' hn p e room_1 s m _ below meth c s.heap [] 0 0 _ ls hctx ?_ (Nat.zero_le _) (fun k q h => by simp [zWo] at h) va_S.rf rfl (by decide) (by decide) (by show 0 + (g'.1 - 0) ≤ 600000; omega) (by show 0 + (zSl g'.1 - zSl 0) ≤ 7302250; omega) ?_
  · rw [e2]
    refine ⟨hl.1, hl.2.1, rfl, fun i v hi => ?_⟩
    match i, hi with
    | 0, hi =>
      cases hi
      rw [zTr_ref (by decide), had]
      exact hl.2.2 (0, .ref b) List.mem_cons_self
    | 1, hi => cases hi
    | 2, hi => cases hi
    | 3, hi => cases hi
    | i + 4, hi => simp at hi
  · intro pcr lsr op H1 locs1 hd hrt hP1 hS1
    rcases zRk_ok hrt with ⟨x, ty, hx1, rfl, -, -, -⟩ | ⟨x, hx1, -⟩ | ⟨hx1, -⟩
    · refine va_forget (fun q hq => hS1.2.2 q hq) ?_
      refine W.widen (k := 600000) (n := 7302250) (by show 0 + (g'.1 - 0) ≤ 600000; omega) (by show 0 + (zSl g'.1 - zSl 0) ≤ 7302250; omega) ?_
      rw [e1] at hd
      exact lw_ret hx hb hr hlocks hd
    · cases hx1
    · cases hx1
end
section
/-! ===== an equation of the small machine for each instruction ===== -/
theorem ev_pure {sc : zSc} {d M pc len : Nat} {lv : zLv} {st st' : List Value} {g : zSg} {h : zHp} {op : Instr} {mq : Option (List Bool)} (hd : zD M pc = some (op, len, mq)) (hm : zMo mq lv = lv) (hs : zPure (zOn M) op lv st = some st') : zE sc d M pc lv st g h = zE sc d M (pc + len) lv st' g h := by
  rw [zE_eq, hd]
  simp only
  rw [hm]
  unfold zStep
  rw [hs]
theorem ev_loc {sc : zSc} {d M pc len : Nat} {lv lv' : zLv} {st st' : List Value} {g : zSg} {h : zHp} {op : Instr} {mq : Option (List Bool)} (hd : zD M pc = some (op, len, mq)) (hm : zMo mq lv = lv) (hp : zPure (zOn M) op lv st = none) (hs : zLoc op lv st = some (lv', st')) : zE sc d M pc lv st g h = zE sc d M (pc + len) lv' st' g h := by
  rw [zE_eq, hd]
  simp only
  rw [hm]
  unfold zStep
  rw [hp, hs]
theorem ev_br {sc : zSc} {d M pc pc' len : Nat} {lv : zLv} {st st' : List Value} {g : zSg} {h : zHp} {op : Instr} {mq : Option (List Bool)} (hd : zD M pc = some (op, len, mq)) (hm : zMo mq lv = lv) (hp : zPure (zOn M) op lv st = none) (hl : zLoc op lv st = none) (hs : zBr op pc st = some (pc', st')) : zE sc d M pc lv st g h = zE sc d M pc' lv st' g h := by
  rw [zE_eq, hd]
  simp only
  rw [hm]
  unfold zStep
  rw [hp, hl, hs]
theorem ev_heap {sc : zSc} {d M pc len : Nat} {lv : zLv} {st st' : List Value} {g g' : zSg} {h h' : zHp} {op : Instr} {mq : Option (List Bool)} (hd : zD M pc = some (op, len, mq)) (hm : zMo mq lv = lv) (hp : zPure (zOn M) op lv st = none) (hl : zLoc op lv st = none) (hb : zBr op pc st = none) (hs : zHeap sc d (zIni M) (zOn M) op st g h = some (st', g', h')) : zE sc d M pc lv st g h = zE sc d M (pc + len) lv st' g' h' := by
  rw [zE_eq, hd]
  simp only
  rw [hm]
  unfold zStep
  rw [hp, hl, hb, hs]
theorem ev_stuck {sc : zSc} {d M pc len : Nat} {lv : zLv} {st : List Value} {g : zSg} {h : zHp} {op : Instr} {mq : Option (List Bool)} (hd : zD M pc = some (op, len, mq)) (hm : zMo mq lv = lv) (hp : zPure (zOn M) op lv st = none) (hl : zLoc op lv st = none) (hb : zBr op pc st = none) (hs : zHeap sc d (zIni M) (zOn M) op st g h = none) (hr : zRet (zRt M) op st = none) (hc : zCal (zOn M) op st g = none) : zE sc d M pc lv st g h = none := by
  rw [zE_eq, hd]
  simp only
  rw [hm]
  unfold zStep
  rw [hp, hl, hb, hs, hr, hc]
theorem ev_ret {sc : zSc} {d M pc len : Nat} {lv : zLv} {st : List Value} {g : zSg} {h : zHp} {op : Instr} {mq : Option (List Bool)} {r : Option Value} (hd : zD M pc = some (op, len, mq)) (hm : zMo mq lv = lv) (hp : zPure (zOn M) op lv st = none) (hl : zLoc op lv st = none) (hb : zBr op pc st = none) (hs : zHeap sc d (zIni M) (zOn M) op st g h = none) (hr : zRet (zRt M) op st = some r) : zE sc d M pc lv st g h = some (r, g, h) := by
  rw [zE_eq, hd]
  simp only
  rw [hm]
  unfold zStep
  rw [hp, hl, hb, hs, hr]
theorem ev_mask {sc : zSc} {d M pc : Nat} {lv : zLv} {st : List Value} {g : zSg} {h : zHp} {op : Instr} {len : Nat} {mq : Option (List Bool)} (hd : zD M pc = some (op, len, mq)) : zE sc d M pc lv st g h = zE sc d M pc (zMo mq lv) st g h := by
  have hi : zMo mq (zMo mq lv) = zMo mq lv := by
    cases mq with
    | none => rfl
    | some b =>
      simp only [zMo]
      apply List.ext_getElem?
      intro i
      simp only [List.getElem?_zipWith]
      cases b[i]? with
      | none => rfl
      | some x =>
        cases lv[i]? with
        | none => rfl
        | some y => cases x <;> rfl
  rw [zE_eq, hd, zE_eq sc d M pc (zMo mq lv), hd]
  simp only
  rw [hi]
theorem ev_iconst {sc : zSc} {d M pc : Nat} {lv : zLv} {st : List Value} {g : zSg} {h : zHp} {mq : Option (List Bool)} {n : Int} {v : Int32} (hd : zD M pc = some (.iconst n, 1, mq)) (hm : zMo mq lv = lv) (hv : Int32.ofInt n = v) : zE sc d M pc lv st g h = zE sc d M (pc + 1) lv (.int v :: st) g h := by subst hv; exact ev_pure hd hm rfl
theorem ev_bipush {sc : zSc} {d M pc : Nat} {lv : zLv} {st : List Value} {g : zSg} {h : zHp} {mq : Option (List Bool)} {n : Int} {v : Int32} (hd : zD M pc = some (.bipush n, 2, mq)) (hm : zMo mq lv = lv) (hv : (Int8.ofInt n).toInt32 = v) : zE sc d M pc lv st g h = zE sc d M (pc + 2) lv (.int v :: st) g h := by subst hv; exact ev_pure hd hm rfl
theorem ev_sipush {sc : zSc} {d M pc : Nat} {lv : zLv} {st : List Value} {g : zSg} {h : zHp} {mq : Option (List Bool)} {n : Int} {v : Int32} (hd : zD M pc = some (.sipush n, 3, mq)) (hm : zMo mq lv = lv) (hv : (Int16.ofInt n).toInt32 = v) : zE sc d M pc lv st g h = zE sc d M (pc + 3) lv (.int v :: st) g h := by subst hv; exact ev_pure hd hm rfl
theorem ev_lconst {sc : zSc} {d M pc : Nat} {lv : zLv} {st : List Value} {g : zSg} {h : zHp} {mq : Option (List Bool)} {n : Fin 2} {v : Int64} (hd : zD M pc = some (.lconst n, 1, mq)) (hm : zMo mq lv = lv) (hv : Int64.ofNat n.val = v) : zE sc d M pc lv st g h = zE sc d M (pc + 1) lv (.long v :: st) g h := by subst hv; exact ev_pure hd hm rfl
theorem ev_ldc {sc : zSc} {d M pc : Nat} {lv : zLv} {st : List Value} {g : zSg} {h : zHp} {mq : Option (List Bool)} {i : Nat} {v : Int32} (hd : zD M pc = some (.ldc i, 2, mq) ∧ zKc (zOn M) i = some (.inl v)) (hm : zMo mq lv = lv) : zE sc d M pc lv st g h = zE sc d M (pc + 2) lv (.int v :: st) g h := ev_pure hd.1 hm (by simp [zPure, z_ci, hd.2])
theorem ev_ldcS {sc : zSc} {d M pc : Nat} {lv : zLv} {st : List Value} {g : zSg} {h : zHp} {mq : Option (List Bool)} {i j : Nat} (hd : zD M pc = some (.ldc i, 2, mq) ∧ zKc (zOn M) i = none ∧ zTc (zOn M) i = some j) (hm : zMo mq lv = lv) : zE sc d M pc lv st g h = zE sc d M (pc + 2) lv (.ref (1000 + j) :: st) g h := ev_pure hd.1 hm (by simp [zPure, z_ci, z_ct, hd.2.1, hd.2.2])
theorem ev_ldcw {sc : zSc} {d M pc : Nat} {lv : zLv} {st : List Value} {g : zSg} {h : zHp} {mq : Option (List Bool)} {i : Nat} {v : Int32} (hd : zD M pc = some (.ldc_w i, 3, mq) ∧ zKc (zOn M) i = some (.inl v)) (hm : zMo mq lv = lv) : zE sc d M pc lv st g h = zE sc d M (pc + 3) lv (.int v :: st) g h := ev_pure hd.1 hm (by simp [zPure, z_ci, hd.2])
theorem ev_ldc2 {sc : zSc} {d M pc : Nat} {lv : zLv} {st : List Value} {g : zSg} {h : zHp} {mq : Option (List Bool)} {i : Nat} {v : Int64} (hd : zD M pc = some (.ldc2_w i, 3, mq) ∧ zKc (zOn M) i = some (.inr v)) (hm : zMo mq lv = lv) : zE sc d M pc lv st g h = zE sc d M (pc + 3) lv (.long v :: st) g h := ev_pure hd.1 hm (by simp [zPure, z_cl, hd.2])
theorem ev_gsW {sc : zSc} {d M pc : Nat} {lv : zLv} {st : List Value} {g : zSg} {h : zHp} {mq : Option (List Bool)} {i : Nat} (hd : zD M pc = some (.getstatic i, 3, mq) ∧ zSc' (zOn M) i = some 0) (hm : zMo mq lv = lv) : zE sc d M pc lv st g h = zE sc d M (pc + 3) lv (.ref 1200 :: st) g h := ev_pure hd.1 hm (by simp [zPure, z_st, hd.2])
theorem ev_gsC {sc : zSc} {d M pc : Nat} {lv : zLv} {st : List Value} {g : zSg} {h : zHp} {mq : Option (List Bool)} {i : Nat} (hd : zD M pc = some (.getstatic i, 3, mq) ∧ zSc' (zOn M) i = some 1) (hm : zMo mq lv = lv) : zE sc d M pc lv st g h = zE sc d M (pc + 3) lv (.int 1 :: st) g h := ev_pure hd.1 hm (by simp [zPure, z_st, hd.2])
theorem ev_gsF {sc : zSc} {d M pc : Nat} {lv : zLv} {st : List Value} {g : zSg} {h : zHp} {mq : Option (List Bool)} {i : Nat} (hd : zD M pc = some (.getstatic i, 3, mq) ∧ zSc' (zOn M) i = some 2) (hm : zMo mq lv = lv) : zE sc d M pc lv st g h = zE sc d M (pc + 3) lv (.ref 1400 :: st) g h := ev_pure hd.1 hm (by simp [zPure, z_st, hd.2])
theorem ev_iload {sc : zSc} {d M pc : Nat} {lv : zLv} {st : List Value} {g : zSg} {h : zHp} {mq : Option (List Bool)} {i : Nat} {x : Int32} (hd : zD M pc = some (.iload i, 2, mq)) (hm : zMo mq lv = lv) (hl : zLg lv i = some (.int x)) : zE sc d M pc lv st g h = zE sc d M (pc + 2) lv (.int x :: st) g h := ev_pure hd hm (by simp [zPure, z_il, hl])
theorem ev_iload_n {sc : zSc} {d M pc : Nat} {lv : zLv} {st : List Value} {g : zSg} {h : zHp} {mq : Option (List Bool)} {i : Fin 4} {x : Int32} (hd : zD M pc = some (.iload_n i, 1, mq)) (hm : zMo mq lv = lv) (hl : zLg lv i.val = some (.int x)) : zE sc d M pc lv st g h = zE sc d M (pc + 1) lv (.int x :: st) g h := ev_pure hd hm (by simp [zPure, z_il, hl])
theorem ev_lload {sc : zSc} {d M pc : Nat} {lv : zLv} {st : List Value} {g : zSg} {h : zHp} {mq : Option (List Bool)} {i : Nat} {x : Int64} (hd : zD M pc = some (.lload i, 2, mq)) (hm : zMo mq lv = lv) (hl : zLg lv i = some (.long x)) : zE sc d M pc lv st g h = zE sc d M (pc + 2) lv (.long x :: st) g h := ev_pure hd hm (by simp [zPure, z_ll, hl])
theorem ev_lload_n {sc : zSc} {d M pc : Nat} {lv : zLv} {st : List Value} {g : zSg} {h : zHp} {mq : Option (List Bool)} {i : Fin 4} {x : Int64} (hd : zD M pc = some (.lload_n i, 1, mq)) (hm : zMo mq lv = lv) (hl : zLg lv i.val = some (.long x)) : zE sc d M pc lv st g h = zE sc d M (pc + 1) lv (.long x :: st) g h := ev_pure hd hm (by simp [zPure, z_ll, hl])
theorem ev_aload {sc : zSc} {d M pc : Nat} {lv : zLv} {st : List Value} {g : zSg} {h : zHp} {mq : Option (List Bool)} {i x : Nat} (hd : zD M pc = some (.aload i, 2, mq)) (hm : zMo mq lv = lv) (hl : zLg lv i = some (.ref x)) (hx : x ≠ 1400) : zE sc d M pc lv st g h = zE sc d M (pc + 2) lv (.ref x :: st) g h := ev_pure hd hm (by simp [zPure, z_al, hl, hx])
theorem ev_aload_n {sc : zSc} {d M pc : Nat} {lv : zLv} {st : List Value} {g : zSg} {h : zHp} {mq : Option (List Bool)} {i : Fin 4} {x : Nat} (hd : zD M pc = some (.aload_n i, 1, mq)) (hm : zMo mq lv = lv) (hl : zLg lv i.val = some (.ref x)) (hx : x ≠ 1400) : zE sc d M pc lv st g h = zE sc d M (pc + 1) lv (.ref x :: st) g h := ev_pure hd hm (by simp [zPure, z_al, hl, hx])
theorem ev_dup {sc : zSc} {d M pc : Nat} {lv : zLv} {st : List Value} {g : zSg} {h : zHp} {mq : Option (List Bool)} {v : Value} (hd : zD M pc = some (.dup, 1, mq)) (hm : zMo mq lv = lv) (hv : v.category = 1) : zE sc d M pc lv (v :: st) g h = zE sc d M (pc + 1) lv (v :: v :: st) g h := ev_pure hd hm (by simp [zPure, z_dup, hv])
theorem ev_dup2 {sc : zSc} {d M pc : Nat} {lv : zLv} {st : List Value} {g : zSg} {h : zHp} {mq : Option (List Bool)} {v w : Value} (hd : zD M pc = some (.dup2, 1, mq)) (hm : zMo mq lv = lv) (hv : v.category = 1) (hw : w.category = 1) : zE sc d M pc lv (v :: w :: st) g h = zE sc d M (pc + 1) lv (v :: w :: v :: w :: st) g h := ev_pure hd hm (by simp [zPure, z_dup2, hv, hw])
theorem ev_pop {sc : zSc} {d M pc : Nat} {lv : zLv} {st : List Value} {g : zSg} {h : zHp} {mq : Option (List Bool)} {v : Value} (hd : zD M pc = some (.pop, 1, mq)) (hm : zMo mq lv = lv) (hv : v.category = 1) : zE sc d M pc lv (v :: st) g h = zE sc d M (pc + 1) lv st g h := ev_pure hd hm (by simp [zPure, z_pop, hv])
theorem ev_iadd {sc : zSc} {d M pc : Nat} {lv : zLv} {st : List Value} {g : zSg} {h : zHp} {mq : Option (List Bool)} {x y : Int32} (hd : zD M pc = some (.iadd, 1, mq)) (hm : zMo mq lv = lv) : zE sc d M pc lv (.int y :: .int x :: st) g h = zE sc d M (pc + 1) lv (.int (x + y) :: st) g h := ev_pure hd hm rfl
theorem ev_isub {sc : zSc} {d M pc : Nat} {lv : zLv} {st : List Value} {g : zSg} {h : zHp} {mq : Option (List Bool)} {x y : Int32} (hd : zD M pc = some (.isub, 1, mq)) (hm : zMo mq lv = lv) : zE sc d M pc lv (.int y :: .int x :: st) g h = zE sc d M (pc + 1) lv (.int (x - y) :: st) g h := ev_pure hd hm rfl
theorem ev_imul {sc : zSc} {d M pc : Nat} {lv : zLv} {st : List Value} {g : zSg} {h : zHp} {mq : Option (List Bool)} {x y : Int32} (hd : zD M pc = some (.imul, 1, mq)) (hm : zMo mq lv = lv) : zE sc d M pc lv (.int y :: .int x :: st) g h = zE sc d M (pc + 1) lv (.int (x * y) :: st) g h := ev_pure hd hm rfl
theorem ev_ishl {sc : zSc} {d M pc : Nat} {lv : zLv} {st : List Value} {g : zSg} {h : zHp} {mq : Option (List Bool)} {x y : Int32} (hd : zD M pc = some (.ishl, 1, mq)) (hm : zMo mq lv = lv) : zE sc d M pc lv (.int y :: .int x :: st) g h = zE sc d M (pc + 1) lv (.int (x <<< (y &&& 31)) :: st) g h := ev_pure hd hm rfl
theorem ev_ishr {sc : zSc} {d M pc : Nat} {lv : zLv} {st : List Value} {g : zSg} {h : zHp} {mq : Option (List Bool)} {x y : Int32} (hd : zD M pc = some (.ishr, 1, mq)) (hm : zMo mq lv = lv) : zE sc d M pc lv (.int y :: .int x :: st) g h = zE sc d M (pc + 1) lv (.int (x >>> (y &&& 31)) :: st) g h := ev_pure hd hm rfl
theorem ev_iand {sc : zSc} {d M pc : Nat} {lv : zLv} {st : List Value} {g : zSg} {h : zHp} {mq : Option (List Bool)} {x y : Int32} (hd : zD M pc = some (.iand, 1, mq)) (hm : zMo mq lv = lv) : zE sc d M pc lv (.int y :: .int x :: st) g h = zE sc d M (pc + 1) lv (.int (x &&& y) :: st) g h := ev_pure hd hm rfl
theorem ev_ior {sc : zSc} {d M pc : Nat} {lv : zLv} {st : List Value} {g : zSg} {h : zHp} {mq : Option (List Bool)} {x y : Int32} (hd : zD M pc = some (.ior, 1, mq)) (hm : zMo mq lv = lv) : zE sc d M pc lv (.int y :: .int x :: st) g h = zE sc d M (pc + 1) lv (.int (x ||| y) :: st) g h := ev_pure hd hm rfl
theorem ev_ixor {sc : zSc} {d M pc : Nat} {lv : zLv} {st : List Value} {g : zSg} {h : zHp} {mq : Option (List Bool)} {x y : Int32} (hd : zD M pc = some (.ixor, 1, mq)) (hm : zMo mq lv = lv) : zE sc d M pc lv (.int y :: .int x :: st) g h = zE sc d M (pc + 1) lv (.int (x ^^^ y) :: st) g h := ev_pure hd hm rfl
theorem ev_iushr {sc : zSc} {d M pc : Nat} {lv : zLv} {st : List Value} {g : zSg} {h : zHp} {mq : Option (List Bool)} {x y : Int32} (hd : zD M pc = some (.iushr, 1, mq)) (hm : zMo mq lv = lv) : zE sc d M pc lv (.int y :: .int x :: st) g h = zE sc d M (pc + 1) lv (.int ((x.toUInt32 >>> (y.toUInt32 &&& Int32.toUInt32 31)).toInt32) :: st) g h := ev_pure hd hm rfl
theorem ev_idiv {sc : zSc} {d M pc : Nat} {lv : zLv} {st : List Value} {g : zSg} {h : zHp} {mq : Option (List Bool)} {x y : Int32} (hd : zD M pc = some (.idiv, 1, mq)) (hm : zMo mq lv = lv) (hy : y ≠ 0) : zE sc d M pc lv (.int y :: .int x :: st) g h = zE sc d M (pc + 1) lv (.int (x / y) :: st) g h := ev_pure hd hm (by simp [zPure, z_i2, hy])
theorem ev_idiv_c {sc : zSc} {d M pc : Nat} {lv : zLv} {st : List Value} {g : zSg} {h : zHp} {mq : Option (List Bool)} {x y : Int32} (hd : zD M pc = some (.idiv, 1, mq)) (hm : zMo mq lv = lv) : zE sc d M pc lv (.int y :: .int x :: st) g h = (if y = 0 then none else zE sc d M (pc + 1) lv (.int (x / y) :: st) g h) := by
  by_cases hy : y = 0
  · rw [if_pos hy]
    exact ev_stuck hd hm (by simp [zPure, z_i2, hy]) rfl rfl rfl rfl rfl
  · rw [if_neg hy]
    exact ev_pure hd hm (by simp [zPure, z_i2, hy])
theorem ev_irem {sc : zSc} {d M pc : Nat} {lv : zLv} {st : List Value} {g : zSg} {h : zHp} {mq : Option (List Bool)} {x y : Int32} (hd : zD M pc = some (.irem, 1, mq)) (hm : zMo mq lv = lv) (hy : y ≠ 0) : zE sc d M pc lv (.int y :: .int x :: st) g h = zE sc d M (pc + 1) lv (.int (x - x / y * y) :: st) g h := ev_pure hd hm (by simp [zPure, z_i2, hy])
theorem ev_irem_c {sc : zSc} {d M pc : Nat} {lv : zLv} {st : List Value} {g : zSg} {h : zHp} {mq : Option (List Bool)} {x y : Int32} (hd : zD M pc = some (.irem, 1, mq)) (hm : zMo mq lv = lv) : zE sc d M pc lv (.int y :: .int x :: st) g h = (if y = 0 then none else zE sc d M (pc + 1) lv (.int (x - x / y * y) :: st) g h) := by
  by_cases hy : y = 0
  · rw [if_pos hy]
    exact ev_stuck hd hm (by simp [zPure, z_i2, hy]) rfl rfl rfl rfl rfl
  · rw [if_neg hy]
    exact ev_pure hd hm (by simp [zPure, z_i2, hy])
theorem ev_lrem {sc : zSc} {d M pc : Nat} {lv : zLv} {st : List Value} {g : zSg} {h : zHp} {mq : Option (List Bool)} {x y : Int64} (hd : zD M pc = some (.lrem, 1, mq)) (hm : zMo mq lv = lv) (hy : y ≠ 0) : zE sc d M pc lv (.long y :: .long x :: st) g h = zE sc d M (pc + 1) lv (.long (x - x / y * y) :: st) g h := ev_pure hd hm (by simp [zPure, z_l2, hy])
theorem ev_ineg {sc : zSc} {d M pc : Nat} {lv : zLv} {st : List Value} {g : zSg} {h : zHp} {mq : Option (List Bool)} {x : Int32} (hd : zD M pc = some (.ineg, 1, mq)) (hm : zMo mq lv = lv) : zE sc d M pc lv (.int x :: st) g h = zE sc d M (pc + 1) lv (.int (-x) :: st) g h := ev_pure hd hm rfl
theorem ev_i2l {sc : zSc} {d M pc : Nat} {lv : zLv} {st : List Value} {g : zSg} {h : zHp} {mq : Option (List Bool)} {x : Int32} (hd : zD M pc = some (.i2l, 1, mq)) (hm : zMo mq lv = lv) : zE sc d M pc lv (.int x :: st) g h = zE sc d M (pc + 1) lv (.long x.toInt64 :: st) g h := ev_pure hd hm rfl
theorem ev_i2c {sc : zSc} {d M pc : Nat} {lv : zLv} {st : List Value} {g : zSg} {h : zHp} {mq : Option (List Bool)} {x : Int32} (hd : zD M pc = some (.i2c, 1, mq)) (hm : zMo mq lv = lv) : zE sc d M pc lv (.int x :: st) g h = zE sc d M (pc + 1) lv (.int (x.toUInt32 % 65536).toInt32 :: st) g h := ev_pure hd hm rfl
theorem ev_l2i {sc : zSc} {d M pc : Nat} {lv : zLv} {st : List Value} {g : zSg} {h : zHp} {mq : Option (List Bool)} {x : Int64} (hd : zD M pc = some (.l2i, 1, mq)) (hm : zMo mq lv = lv) : zE sc d M pc lv (.long x :: st) g h = zE sc d M (pc + 1) lv (.int x.toInt32 :: st) g h := ev_pure hd hm rfl
theorem ev_ladd {sc : zSc} {d M pc : Nat} {lv : zLv} {st : List Value} {g : zSg} {h : zHp} {mq : Option (List Bool)} {x y : Int64} (hd : zD M pc = some (.ladd, 1, mq)) (hm : zMo mq lv = lv) : zE sc d M pc lv (.long y :: .long x :: st) g h = zE sc d M (pc + 1) lv (.long (x + y) :: st) g h := ev_pure hd hm rfl
theorem ev_lsub {sc : zSc} {d M pc : Nat} {lv : zLv} {st : List Value} {g : zSg} {h : zHp} {mq : Option (List Bool)} {x y : Int64} (hd : zD M pc = some (.lsub, 1, mq)) (hm : zMo mq lv = lv) : zE sc d M pc lv (.long y :: .long x :: st) g h = zE sc d M (pc + 1) lv (.long (x - y) :: st) g h := ev_pure hd hm rfl
theorem ev_lmul {sc : zSc} {d M pc : Nat} {lv : zLv} {st : List Value} {g : zSg} {h : zHp} {mq : Option (List Bool)} {x y : Int64} (hd : zD M pc = some (.lmul, 1, mq)) (hm : zMo mq lv = lv) : zE sc d M pc lv (.long y :: .long x :: st) g h = zE sc d M (pc + 1) lv (.long (x * y) :: st) g h := ev_pure hd hm rfl
theorem ev_land {sc : zSc} {d M pc : Nat} {lv : zLv} {st : List Value} {g : zSg} {h : zHp} {mq : Option (List Bool)} {x y : Int64} (hd : zD M pc = some (.land, 1, mq)) (hm : zMo mq lv = lv) : zE sc d M pc lv (.long y :: .long x :: st) g h = zE sc d M (pc + 1) lv (.long (x &&& y) :: st) g h := ev_pure hd hm rfl
theorem ev_lor {sc : zSc} {d M pc : Nat} {lv : zLv} {st : List Value} {g : zSg} {h : zHp} {mq : Option (List Bool)} {x y : Int64} (hd : zD M pc = some (.lor, 1, mq)) (hm : zMo mq lv = lv) : zE sc d M pc lv (.long y :: .long x :: st) g h = zE sc d M (pc + 1) lv (.long (x ||| y) :: st) g h := ev_pure hd hm rfl
theorem ev_lxor {sc : zSc} {d M pc : Nat} {lv : zLv} {st : List Value} {g : zSg} {h : zHp} {mq : Option (List Bool)} {x y : Int64} (hd : zD M pc = some (.lxor, 1, mq)) (hm : zMo mq lv = lv) : zE sc d M pc lv (.long y :: .long x :: st) g h = zE sc d M (pc + 1) lv (.long (x ^^^ y) :: st) g h := ev_pure hd hm rfl
theorem ev_lcmp {sc : zSc} {d M pc : Nat} {lv : zLv} {st : List Value} {g : zSg} {h : zHp} {mq : Option (List Bool)} {x y : Int64} (hd : zD M pc = some (.lcmp, 1, mq)) (hm : zMo mq lv = lv) : zE sc d M pc lv (.long y :: .long x :: st) g h = zE sc d M (pc + 1) lv (.int (lg_cmp x y) :: st) g h := ev_pure hd hm rfl
theorem ev_lshl {sc : zSc} {d M pc : Nat} {lv : zLv} {st : List Value} {g : zSg} {h : zHp} {mq : Option (List Bool)} {x : Int64} {y : Int32} (hd : zD M pc = some (.lshl, 1, mq)) (hm : zMo mq lv = lv) : zE sc d M pc lv (.int y :: .long x :: st) g h = zE sc d M (pc + 1) lv (.long (x <<< (y.toInt64 &&& 63)) :: st) g h := ev_pure hd hm rfl
theorem ev_lshr {sc : zSc} {d M pc : Nat} {lv : zLv} {st : List Value} {g : zSg} {h : zHp} {mq : Option (List Bool)} {x : Int64} {y : Int32} (hd : zD M pc = some (.lshr, 1, mq)) (hm : zMo mq lv = lv) : zE sc d M pc lv (.int y :: .long x :: st) g h = zE sc d M (pc + 1) lv (.long (x >>> (y.toInt64 &&& 63)) :: st) g h := ev_pure hd hm rfl
theorem ev_lushr {sc : zSc} {d M pc : Nat} {lv : zLv} {st : List Value} {g : zSg} {h : zHp} {mq : Option (List Bool)} {x : Int64} {y : Int32} (hd : zD M pc = some (.lushr, 1, mq)) (hm : zMo mq lv = lv) : zE sc d M pc lv (.int y :: .long x :: st) g h = zE sc d M (pc + 1) lv (.long ((x.toUInt64 >>> (y.toInt64.toUInt64 &&& Int64.toUInt64 63)).toInt64) :: st) g h := ev_pure hd hm rfl
theorem ev_istore {sc : zSc} {d M pc : Nat} {lv : zLv} {st : List Value} {g : zSg} {h : zHp} {mq : Option (List Bool)} {i : Nat} {x : Int32} {lv' : zLv} (hd : zD M pc = some (.istore i, 2, mq)) (hm : zMo mq lv = lv) (hi : i < lv.length) (hl : zSto lv i (.int x) = lv') : zE sc d M pc lv (.int x :: st) g h = zE sc d M (pc + 2) lv' st g h := by subst hl; exact ev_loc hd hm rfl (by simp [zLoc, z_is, hi])
theorem ev_istore_n {sc : zSc} {d M pc : Nat} {lv : zLv} {st : List Value} {g : zSg} {h : zHp} {mq : Option (List Bool)} {i : Fin 4} {x : Int32} {lv' : zLv} (hd : zD M pc = some (.istore_n i, 1, mq)) (hm : zMo mq lv = lv) (hi : i.val < lv.length) (hl : zSto lv i.val (.int x) = lv') : zE sc d M pc lv (.int x :: st) g h = zE sc d M (pc + 1) lv' st g h := by subst hl; exact ev_loc hd hm rfl (by simp [zLoc, z_is, hi])
theorem ev_lstore {sc : zSc} {d M pc : Nat} {lv : zLv} {st : List Value} {g : zSg} {h : zHp} {mq : Option (List Bool)} {i : Nat} {x : Int64} {lv' : zLv} (hd : zD M pc = some (.lstore i, 2, mq)) (hm : zMo mq lv = lv) (hi : i + 1 < lv.length) (hl : zStL lv i (.long x) = lv') : zE sc d M pc lv (.long x :: st) g h = zE sc d M (pc + 2) lv' st g h := by subst hl; exact ev_loc hd hm rfl (by simp [zLoc, z_ls, hi])
theorem ev_lstore_n {sc : zSc} {d M pc : Nat} {lv : zLv} {st : List Value} {g : zSg} {h : zHp} {mq : Option (List Bool)} {i : Fin 4} {x : Int64} {lv' : zLv} (hd : zD M pc = some (.lstore_n i, 1, mq)) (hm : zMo mq lv = lv) (hi : i.val + 1 < lv.length) (hl : zStL lv i.val (.long x) = lv') : zE sc d M pc lv (.long x :: st) g h = zE sc d M (pc + 1) lv' st g h := by subst hl; exact ev_loc hd hm rfl (by simp [zLoc, z_ls, hi])
theorem ev_astore {sc : zSc} {d M pc : Nat} {lv : zLv} {st : List Value} {g : zSg} {h : zHp} {mq : Option (List Bool)} {i x : Nat} {lv' : zLv} (hd : zD M pc = some (.astore i, 2, mq)) (hm : zMo mq lv = lv) (hi : i < lv.length) (hx : x ≠ 1400) (hl : zSto lv i (.ref x) = lv') : zE sc d M pc lv (.ref x :: st) g h = zE sc d M (pc + 2) lv' st g h := by subst hl; exact ev_loc hd hm rfl (by simp [zLoc, z_as, hi, hx])
theorem ev_astore_n {sc : zSc} {d M pc : Nat} {lv : zLv} {st : List Value} {g : zSg} {h : zHp} {mq : Option (List Bool)} {i : Fin 4} {x : Nat} {lv' : zLv} (hd : zD M pc = some (.astore_n i, 1, mq)) (hm : zMo mq lv = lv) (hi : i.val < lv.length) (hx : x ≠ 1400) (hl : zSto lv i.val (.ref x) = lv') : zE sc d M pc lv (.ref x :: st) g h = zE sc d M (pc + 1) lv' st g h := by subst hl; exact ev_loc hd hm rfl (by simp [zLoc, z_as, hi, hx])
theorem ev_iinc {sc : zSc} {d M pc : Nat} {lv : zLv} {st : List Value} {g : zSg} {h : zHp} {mq : Option (List Bool)} {i : Nat} {n : Int} {x v : Int32} {lv' : zLv} (hd : zD M pc = some (.iinc i n, 3, mq)) (hm : zMo mq lv = lv) (hg : zLg lv i = some (.int x)) (hv : Int32.ofInt n = v) (hl : zSto lv i (.int (x + v)) = lv') : zE sc d M pc lv st g h = zE sc d M (pc + 3) lv' st g h := by subst hv; subst hl; exact ev_loc hd hm rfl (by simp [zLoc, z_ic, hg])
theorem ev_goto {sc : zSc} {d M pc : Nat} {lv : zLv} {st : List Value} {g : zSg} {h : zHp} {mq : Option (List Bool)} {off : Int} {t : Nat} (hd : zD M pc = some (.goto off, 3, mq)) (hm : zMo mq lv = lv) (ht : zTg pc off = some t) : zE sc d M pc lv st g h = zE sc d M t lv st g h := ev_br hd hm rfl rfl (by simp [zBr, ht])
theorem ev_ifeq {sc : zSc} {d M pc : Nat} {lv : zLv} {st : List Value} {g : zSg} {h : zHp} {mq : Option (List Bool)} {off : Int} {t : Nat} {x : Int32} (hd : zD M pc = some (.ifCond .eq off, 3, mq)) (hm : zMo mq lv = lv) (ht : zTg pc off = some t) : zE sc d M pc lv (.int x :: st) g h = (if x = 0 then zE sc d M t lv st g h else zE sc d M (pc + 3) lv st g h) := by
  rw [ev_br hd hm rfl rfl (pc' := if zC1 .eq x then t else pc + 3) (st' := st) (by simp [zBr, z_b1, ht])]
  by_cases hx : x = 0 <;> simp [zC1, hx]
theorem ev_ifne {sc : zSc} {d M pc : Nat} {lv : zLv} {st : List Value} {g : zSg} {h : zHp} {mq : Option (List Bool)} {off : Int} {t : Nat} {x : Int32} (hd : zD M pc = some (.ifCond .ne off, 3, mq)) (hm : zMo mq lv = lv) (ht : zTg pc off = some t) : zE sc d M pc lv (.int x :: st) g h = (if x = 0 then zE sc d M (pc + 3) lv st g h else zE sc d M t lv st g h) := by
  rw [ev_br hd hm rfl rfl (pc' := if zC1 .ne x then t else pc + 3) (st' := st) (by simp [zBr, z_b1, ht])]
  by_cases hx : x = 0 <;> simp [zC1, hx]
theorem ev_iflt {sc : zSc} {d M pc : Nat} {lv : zLv} {st : List Value} {g : zSg} {h : zHp} {mq : Option (List Bool)} {off : Int} {t : Nat} {x : Int32} (hd : zD M pc = some (.ifCond .lt off, 3, mq)) (hm : zMo mq lv = lv) (ht : zTg pc off = some t) : zE sc d M pc lv (.int x :: st) g h = (if x < 0 then zE sc d M t lv st g h else zE sc d M (pc + 3) lv st g h) := by
  rw [ev_br hd hm rfl rfl (pc' := if zC1 .lt x then t else pc + 3) (st' := st) (by simp [zBr, z_b1, ht])]
  by_cases hx : x < 0 <;> simp [zC1, hx]
theorem ev_ifge {sc : zSc} {d M pc : Nat} {lv : zLv} {st : List Value} {g : zSg} {h : zHp} {mq : Option (List Bool)} {off : Int} {t : Nat} {x : Int32} (hd : zD M pc = some (.ifCond .ge off, 3, mq)) (hm : zMo mq lv = lv) (ht : zTg pc off = some t) : zE sc d M pc lv (.int x :: st) g h = (if x < 0 then zE sc d M (pc + 3) lv st g h else zE sc d M t lv st g h) := by
  rw [ev_br hd hm rfl rfl (pc' := if zC1 .ge x then t else pc + 3) (st' := st) (by simp [zBr, z_b1, ht])]
  by_cases hx : x < 0 <;> simp [zC1, hx]
theorem ev_ifgt {sc : zSc} {d M pc : Nat} {lv : zLv} {st : List Value} {g : zSg} {h : zHp} {mq : Option (List Bool)} {off : Int} {t : Nat} {x : Int32} (hd : zD M pc = some (.ifCond .gt off, 3, mq)) (hm : zMo mq lv = lv) (ht : zTg pc off = some t) : zE sc d M pc lv (.int x :: st) g h = (if 0 < x then zE sc d M t lv st g h else zE sc d M (pc + 3) lv st g h) := by
  rw [ev_br hd hm rfl rfl (pc' := if zC1 .gt x then t else pc + 3) (st' := st) (by simp [zBr, z_b1, ht])]
  by_cases hx : 0 < x <;> simp [zC1, hx]
theorem ev_ifle {sc : zSc} {d M pc : Nat} {lv : zLv} {st : List Value} {g : zSg} {h : zHp} {mq : Option (List Bool)} {off : Int} {t : Nat} {x : Int32} (hd : zD M pc = some (.ifCond .le off, 3, mq)) (hm : zMo mq lv = lv) (ht : zTg pc off = some t) : zE sc d M pc lv (.int x :: st) g h = (if 0 < x then zE sc d M (pc + 3) lv st g h else zE sc d M t lv st g h) := by
  rw [ev_br hd hm rfl rfl (pc' := if zC1 .le x then t else pc + 3) (st' := st) (by simp [zBr, z_b1, ht])]
  by_cases hx : 0 < x <;> simp [zC1, hx]
theorem ev_iceq {sc : zSc} {d M pc : Nat} {lv : zLv} {st : List Value} {g : zSg} {h : zHp} {mq : Option (List Bool)} {off : Int} {t : Nat} {x y : Int32} (hd : zD M pc = some (.if_icmp .eq off, 3, mq)) (hm : zMo mq lv = lv) (ht : zTg pc off = some t) : zE sc d M pc lv (.int y :: .int x :: st) g h = (if x = y then zE sc d M t lv st g h else zE sc d M (pc + 3) lv st g h) := by
  rw [ev_br hd hm rfl rfl (pc' := if zC2 .eq x y then t else pc + 3) (st' := st) (by simp [zBr, z_b2, ht])]
  by_cases hx : x = y <;> simp [zC2, hx]
theorem ev_icne {sc : zSc} {d M pc : Nat} {lv : zLv} {st : List Value} {g : zSg} {h : zHp} {mq : Option (List Bool)} {off : Int} {t : Nat} {x y : Int32} (hd : zD M pc = some (.if_icmp .ne off, 3, mq)) (hm : zMo mq lv = lv) (ht : zTg pc off = some t) : zE sc d M pc lv (.int y :: .int x :: st) g h = (if x = y then zE sc d M (pc + 3) lv st g h else zE sc d M t lv st g h) := by
  rw [ev_br hd hm rfl rfl (pc' := if zC2 .ne x y then t else pc + 3) (st' := st) (by simp [zBr, z_b2, ht])]
  by_cases hx : x = y <;> simp [zC2, hx]
theorem ev_iclt {sc : zSc} {d M pc : Nat} {lv : zLv} {st : List Value} {g : zSg} {h : zHp} {mq : Option (List Bool)} {off : Int} {t : Nat} {x y : Int32} (hd : zD M pc = some (.if_icmp .lt off, 3, mq)) (hm : zMo mq lv = lv) (ht : zTg pc off = some t) : zE sc d M pc lv (.int y :: .int x :: st) g h = (if x < y then zE sc d M t lv st g h else zE sc d M (pc + 3) lv st g h) := by
  rw [ev_br hd hm rfl rfl (pc' := if zC2 .lt x y then t else pc + 3) (st' := st) (by simp [zBr, z_b2, ht])]
  by_cases hx : x < y <;> simp [zC2, hx]
theorem ev_icge {sc : zSc} {d M pc : Nat} {lv : zLv} {st : List Value} {g : zSg} {h : zHp} {mq : Option (List Bool)} {off : Int} {t : Nat} {x y : Int32} (hd : zD M pc = some (.if_icmp .ge off, 3, mq)) (hm : zMo mq lv = lv) (ht : zTg pc off = some t) : zE sc d M pc lv (.int y :: .int x :: st) g h = (if x < y then zE sc d M (pc + 3) lv st g h else zE sc d M t lv st g h) := by
  rw [ev_br hd hm rfl rfl (pc' := if zC2 .ge x y then t else pc + 3) (st' := st) (by simp [zBr, z_b2, ht])]
  by_cases hx : x < y <;> simp [zC2, hx]
theorem ev_icgt {sc : zSc} {d M pc : Nat} {lv : zLv} {st : List Value} {g : zSg} {h : zHp} {mq : Option (List Bool)} {off : Int} {t : Nat} {x y : Int32} (hd : zD M pc = some (.if_icmp .gt off, 3, mq)) (hm : zMo mq lv = lv) (ht : zTg pc off = some t) : zE sc d M pc lv (.int y :: .int x :: st) g h = (if y < x then zE sc d M t lv st g h else zE sc d M (pc + 3) lv st g h) := by
  rw [ev_br hd hm rfl rfl (pc' := if zC2 .gt x y then t else pc + 3) (st' := st) (by simp [zBr, z_b2, ht])]
  by_cases hx : y < x <;> simp [zC2, hx]
theorem ev_icle {sc : zSc} {d M pc : Nat} {lv : zLv} {st : List Value} {g : zSg} {h : zHp} {mq : Option (List Bool)} {off : Int} {t : Nat} {x y : Int32} (hd : zD M pc = some (.if_icmp .le off, 3, mq)) (hm : zMo mq lv = lv) (ht : zTg pc off = some t) : zE sc d M pc lv (.int y :: .int x :: st) g h = (if y < x then zE sc d M (pc + 3) lv st g h else zE sc d M t lv st g h) := by
  rw [ev_br hd hm rfl rfl (pc' := if zC2 .le x y then t else pc + 3) (st' := st) (by simp [zBr, z_b2, ht])]
  by_cases hx : y < x <;> simp [zC2, hx]
theorem z_cmp (x y : Int64) : (lg_cmp x y = 0 ↔ x = y) ∧ (lg_cmp x y < 0 ↔ x < y) ∧ (0 < lg_cmp x y ↔ y < x) := by
  unfold lg_cmp
  by_cases h1 : x < y
  · have h2 : ¬ y < x := fun h => by have a := Int64.lt_iff_toInt_lt.mp h; have b := Int64.lt_iff_toInt_lt.mp h1; omega
    have h3 : x ≠ y := fun h => by rw [h] at h1; have b := Int64.lt_iff_toInt_lt.mp h1; omega
    simp [h1, h2, h3]
  · by_cases h2 : x = y
    · subst h2
      simp
    · have h3 : y < x := by
        rcases Int64.lt_or_lt_of_ne h2 with h | h
        · exact absurd h h1
        · exact h
      simp [h1, h2, h3]
theorem ev_ileq {sc : zSc} {d M pc : Nat} {lv : zLv} {st : List Value} {g : zSg} {h : zHp} {mq : Option (List Bool)} {off : Int} {t : Nat} {x y : Int64} (hd : zD M pc = some (.ifCond .eq off, 3, mq)) (hm : zMo mq lv = lv) (ht : zTg pc off = some t) : zE sc d M pc lv (.int (lg_cmp x y) :: st) g h = (if x = y then zE sc d M t lv st g h else zE sc d M (pc + 3) lv st g h) := by
  rw [ev_ifeq hd hm ht]
  simp only [(z_cmp x y).1]
theorem ev_ilne {sc : zSc} {d M pc : Nat} {lv : zLv} {st : List Value} {g : zSg} {h : zHp} {mq : Option (List Bool)} {off : Int} {t : Nat} {x y : Int64} (hd : zD M pc = some (.ifCond .ne off, 3, mq)) (hm : zMo mq lv = lv) (ht : zTg pc off = some t) : zE sc d M pc lv (.int (lg_cmp x y) :: st) g h = (if x = y then zE sc d M (pc + 3) lv st g h else zE sc d M t lv st g h) := by
  rw [ev_ifne hd hm ht]
  simp only [(z_cmp x y).1]
theorem ev_illt {sc : zSc} {d M pc : Nat} {lv : zLv} {st : List Value} {g : zSg} {h : zHp} {mq : Option (List Bool)} {off : Int} {t : Nat} {x y : Int64} (hd : zD M pc = some (.ifCond .lt off, 3, mq)) (hm : zMo mq lv = lv) (ht : zTg pc off = some t) : zE sc d M pc lv (.int (lg_cmp x y) :: st) g h = (if x < y then zE sc d M t lv st g h else zE sc d M (pc + 3) lv st g h) := by
  rw [ev_iflt hd hm ht]
  simp only [(z_cmp x y).2.1]
theorem ev_ilge {sc : zSc} {d M pc : Nat} {lv : zLv} {st : List Value} {g : zSg} {h : zHp} {mq : Option (List Bool)} {off : Int} {t : Nat} {x y : Int64} (hd : zD M pc = some (.ifCond .ge off, 3, mq)) (hm : zMo mq lv = lv) (ht : zTg pc off = some t) : zE sc d M pc lv (.int (lg_cmp x y) :: st) g h = (if x < y then zE sc d M (pc + 3) lv st g h else zE sc d M t lv st g h) := by
  rw [ev_ifge hd hm ht]
  simp only [(z_cmp x y).2.1]
theorem ev_ilgt {sc : zSc} {d M pc : Nat} {lv : zLv} {st : List Value} {g : zSg} {h : zHp} {mq : Option (List Bool)} {off : Int} {t : Nat} {x y : Int64} (hd : zD M pc = some (.ifCond .gt off, 3, mq)) (hm : zMo mq lv = lv) (ht : zTg pc off = some t) : zE sc d M pc lv (.int (lg_cmp x y) :: st) g h = (if y < x then zE sc d M t lv st g h else zE sc d M (pc + 3) lv st g h) := by
  rw [ev_ifgt hd hm ht]
  simp only [(z_cmp x y).2.2]
theorem ev_ille {sc : zSc} {d M pc : Nat} {lv : zLv} {st : List Value} {g : zSg} {h : zHp} {mq : Option (List Bool)} {off : Int} {t : Nat} {x y : Int64} (hd : zD M pc = some (.ifCond .le off, 3, mq)) (hm : zMo mq lv = lv) (ht : zTg pc off = some t) : zE sc d M pc lv (.int (lg_cmp x y) :: st) g h = (if y < x then zE sc d M (pc + 3) lv st g h else zE sc d M t lv st g h) := by
  rw [ev_ifle hd hm ht]
  simp only [(z_cmp x y).2.2]
theorem ev_ret_int {sc : zSc} {d M pc : Nat} {lv : zLv} {st : List Value} {g : zSg} {h : zHp} {mq : Option (List Bool)} {x : Int32} (hd : zD M pc = some (.ireturn, 1, mq)) (hm : zMo mq lv = lv) (ht : zRt M = some .int) : zE sc d M pc lv [.int x] g h = some (some (.int x), g, h) := ev_ret hd hm rfl rfl rfl rfl (by rw [ht]; rfl)
theorem ev_ret_bool {sc : zSc} {d M pc : Nat} {lv : zLv} {st : List Value} {g : zSg} {h : zHp} {mq : Option (List Bool)} {x : Int32} (hd : zD M pc = some (.ireturn, 1, mq)) (hm : zMo mq lv = lv) (ht : zRt M = some .boolean) : zE sc d M pc lv [.int x] g h = (if x = 0 ∨ x = 1 then some (some (.int x), g, h) else none) := by
  by_cases hx : x = 0 ∨ x = 1
  · rw [if_pos hx]
    exact ev_ret hd hm rfl rfl rfl rfl (by rw [ht]; rcases hx with rfl | rfl <;> rfl)
  · rw [if_neg hx]
    exact ev_stuck hd hm rfl rfl rfl rfl (by rw [ht]; simp [zRet, zRk, hx]) rfl
theorem ev_ret_byte {sc : zSc} {d M pc : Nat} {lv : zLv} {st : List Value} {g : zSg} {h : zHp} {mq : Option (List Bool)} {x : Int32} (hd : zD M pc = some (.ireturn, 1, mq)) (hm : zMo mq lv = lv) (ht : zRt M = some .byte) (hx : x = 0) : zE sc d M pc lv [.int x] g h = some (some (.int x), g, h) := ev_ret hd hm rfl rfl rfl rfl (by rw [ht]; subst hx; rfl)
theorem ev_ret_char {sc : zSc} {d M pc : Nat} {lv : zLv} {st : List Value} {g : zSg} {h : zHp} {mq : Option (List Bool)} {x : Int32} (hd : zD M pc = some (.ireturn, 1, mq)) (hm : zMo mq lv = lv) (ht : zRt M = some .char) (hx : (x.toUInt32 % 65536).toInt32 = x) : zE sc d M pc lv [.int x] g h = some (some (.int x), g, h) := ev_ret hd hm rfl rfl rfl rfl (by rw [ht]; simp [zRet, zRk, hx])
theorem ev_ret_long {sc : zSc} {d M pc : Nat} {lv : zLv} {st : List Value} {g : zSg} {h : zHp} {mq : Option (List Bool)} {x : Int64} (hd : zD M pc = some (.lreturn, 1, mq)) (hm : zMo mq lv = lv) (ht : zRt M = some .long) : zE sc d M pc lv [.long x] g h = some (some (.long x), g, h) := ev_ret hd hm rfl rfl rfl rfl (by rw [ht]; rfl)
theorem ev_ret_void {sc : zSc} {d M pc : Nat} {lv : zLv} {st : List Value} {g : zSg} {h : zHp} {mq : Option (List Bool)} (hd : zD M pc = some (.return_, 1, mq)) (hm : zMo mq lv = lv) (ht : zRt M = none) : zE sc d M pc lv [] g h = some (none, g, h) := ev_ret hd hm rfl rfl rfl rfl (by rw [ht]; rfl)
end
section
/-! ===== an equation of the small machine for each instruction: heap, calls ===== -/
section
variable {sc : zSc} {d M pc i a b k n ci : Nat} {lv : zLv} {st : List Value} {g : zSg} {h : zHp} {mq : Option (List Bool)}
theorem z_ci100 {ci k c : Nat} (h : zFc ci k = some c) : ci ≠ 100 := by
  rintro rfl
  have h0 : zFc 100 k = none := rfl
  rw [h0] at h
  cases h
/-- a Town, a Talk in a field, an array: read, and of the kind that it must be -/
def zOT (o : Option Nat) (f : (t : Nat) → zTw t = true → Option zRs) : Option zRs := match o with
  | some t => if ht : zTw t = true then f t ht else none
  | none => none
def zOK (o : Option Nat) (f : (t : Nat) → zTk t = true → Option zRs) : Option zRs := match o with
  | some t => if ht : zTk t = true then f t ht else none
  | none => none
theorem zOT_some {t : Nat} (ht : zTw t = true) (f : (t : Nat) → zTw t = true → Option zRs) : zOT (some t) f = f t ht := by
  simp [zOT, ht]
theorem zOK_some {t : Nat} (ht : zTk t = true) (f : (t : Nat) → zTk t = true → Option zRs) : zOK (some t) f = f t ht := by
  simp [zOK, ht]
theorem ev_getI (hd : zD M pc = some (.getfield i, 3, mq) ∧ zFl (zOn M) i = some (ci, k) ∧ zFc ci k = some 0) (hm : zMo mq lv = lv) (ho : zOb g a ci = true) : zE sc d M pc lv (.ref a :: st) g h = zE sc d M (pc + 3) lv (.int (h.1 a k) :: st) g h :=
  ev_heap hd.1 hm rfl rfl rfl (by simp [zHeap, z_get, hd.2.1, z_ci100 hd.2.2, ho, hd.2.2, z_gf])
theorem ev_getZ (hd : zD M pc = some (.getfield i, 3, mq) ∧ zFl (zOn M) i = some (ci, k) ∧ zFc ci k = some 1) (hm : zMo mq lv = lv) (ho : zOb g a ci = true) : zE sc d M pc lv (.ref a :: st) g h = zE sc d M (pc + 3) lv (.int (h.1 a k) :: st) g h :=
  ev_heap hd.1 hm rfl rfl rfl (by simp [zHeap, z_get, hd.2.1, z_ci100 hd.2.2, ho, hd.2.2, z_gf])
theorem ev_getL (hd : zD M pc = some (.getfield i, 3, mq) ∧ zFl (zOn M) i = some (ci, k) ∧ zFc ci k = some 2) (hm : zMo mq lv = lv) (ho : zOb g a ci = true) : zE sc d M pc lv (.ref a :: st) g h = zE sc d M (pc + 3) lv (.long (h.2.1 a k) :: st) g h :=
  ev_heap hd.1 hm rfl rfl rfl (by simp [zHeap, z_get, hd.2.1, z_ci100 hd.2.2, ho, hd.2.2, z_gf])
theorem ev_getR (hd : zD M pc = some (.getfield i, 3, mq) ∧ zFl (zOn M) i = some (ci, k) ∧ zFc ci k = some 3) (hm : zMo mq lv = lv) (ho : zOb g a ci = true) (hz : zG g a k = some b ∧ b < 1000) : zE sc d M pc lv (.ref a :: st) g h = zE sc d M (pc + 3) lv (.ref b :: st) g h :=
  ev_heap hd.1 hm rfl rfl rfl (by simp [zHeap, z_get, hd.2.1, z_ci100 hd.2.2, ho, hd.2.2, z_gf, hz.1, hz.2])
theorem ev_getT (hd : zD M pc = some (.getfield i, 3, mq) ∧ zFl (zOn M) i = some (ci, k) ∧ zFc ci k = some 4) (hm : zMo mq lv = lv) (ho : zOb g a ci = true) : zE sc d M pc lv (.ref a :: st) g h = zOT (h.2.2 a k) (fun t _ => zE sc d M (pc + 3) lv (.ref t :: st) g h) := by
  have h9 := z_ci100 hd.2.2
  unfold zOT
  cases hr : h.2.2 a k with
  | none => exact ev_stuck hd.1 hm rfl rfl rfl (by simp [zHeap, z_get, hd.2.1, h9, ho, hd.2.2, z_gf, hr]) rfl rfl
  | some t =>
    simp only
    by_cases ht : zTw t = true
    · rw [dif_pos ht]
      exact ev_heap hd.1 hm rfl rfl rfl (by simp [zHeap, z_get, hd.2.1, h9, ho, hd.2.2, z_gf, hr, ht])
    · rw [dif_neg ht]
      exact ev_stuck hd.1 hm rfl rfl rfl (by simp [zHeap, z_get, hd.2.1, h9, ho, hd.2.2, z_gf, hr, ht]) rfl rfl
theorem ev_getS (hd : zD M pc = some (.getfield i, 3, mq) ∧ zFl (zOn M) i = some (100, 0)) (hm : zMo mq lv = lv) (ha : 1000 ≤ a ∧ a < 1005) : zE sc d M pc lv (.ref a :: st) g h = zE sc d M (pc + 3) lv (.ref (a + 100) :: st) g h :=
  ev_heap hd.1 hm rfl rfl rfl (by simp [zHeap, z_get, hd.2, ha.1, ha.2])
theorem ev_getC (hd : zD M pc = some (.getfield i, 3, mq) ∧ zFl (zOn M) i = some (100, 1)) (hm : zMo mq lv = lv) (ha : 1000 ≤ a ∧ a < 1005) : zE sc d M pc lv (.ref a :: st) g h = zE sc d M (pc + 3) lv (.int 0 :: st) g h :=
  ev_heap hd.1 hm rfl rfl rfl (by simp [zHeap, z_get, hd.2, ha.1, ha.2])
theorem ev_putI {x : Int32} (hd : zD M pc = some (.putfield i, 3, mq) ∧ zFl (zOn M) i = some (ci, k) ∧ zFc ci k = some 0) (hm : zMo mq lv = lv) (ho : zOb g a ci = true) : zE sc d M pc lv (.int x :: .ref a :: st) g h = zE sc d M (pc + 3) lv st g (zPI h a k x) :=
  ev_heap hd.1 hm rfl rfl rfl (by simp [zHeap, z_put, hd.2.1, ho, hd.2.2, z_pf])
theorem ev_putZ {x : Int32} (hd : zD M pc = some (.putfield i, 3, mq) ∧ zFl (zOn M) i = some (ci, k) ∧ zFc ci k = some 1) (hm : zMo mq lv = lv) (ho : zOb g a ci = true) (hx : x = 0 ∨ x = 1) : zE sc d M pc lv (.int x :: .ref a :: st) g h = zE sc d M (pc + 3) lv st g (zPI h a k x) :=
  ev_heap hd.1 hm rfl rfl rfl (by simp [zHeap, z_put, hd.2.1, ho, hd.2.2, z_pf, hx])
theorem ev_putL {x : Int64} (hd : zD M pc = some (.putfield i, 3, mq) ∧ zFl (zOn M) i = some (ci, k) ∧ zFc ci k = some 2) (hm : zMo mq lv = lv) (ho : zOb g a ci = true) : zE sc d M pc lv (.long x :: .ref a :: st) g h = zE sc d M (pc + 3) lv st g (zPL h a k x) :=
  ev_heap hd.1 hm rfl rfl rfl (by simp [zHeap, z_put, hd.2.1, ho, hd.2.2, z_pf])
theorem ev_putF (hd : zD M pc = some (.putfield i, 3, mq) ∧ zFl (zOn M) i = some (ci, k) ∧ zFc ci k = some 3 ∧ zIni M = ci) (hm : zMo mq lv = lv) (ho : zOb g a ci = true) (hb : b < g.1 ∧ zG g a k = none) : zE sc d M pc lv (.ref b :: .ref a :: st) g h = zE sc d M (pc + 3) lv st (g.1, ((a, k), b) :: g.2) h :=
  ev_heap hd.1 hm rfl rfl rfl (by simp [zHeap, z_put, hd.2.1, ho, hd.2.2.1, hd.2.2.2, z_pf, hb.1, hb.2])
theorem ev_putT (hd : zD M pc = some (.putfield i, 3, mq) ∧ zFl (zOn M) i = some (ci, k) ∧ zFc ci k = some 4) (hm : zMo mq lv = lv) (ho : zOb g a ci = true) (hb : b < g.1) : zE sc d M pc lv (.ref b :: .ref a :: st) g h = zE sc d M (pc + 3) lv st g (zPR h a k b) :=
  ev_heap hd.1 hm rfl rfl rfl (by simp [zHeap, z_put, hd.2.1, ho, hd.2.2, z_pf, hb])
/-- an array of a kind -/
def zIA (g : zSg) (a t n : Nat) : Prop := a < g.1 ∧ g.1 ≤ 1000 ∧ zLn a = some (t, n)
theorem zIA_ne {t : Nat} (h : zIA g a t n) : a < 1000 ∧ a ≠ 1300 ∧ a ≠ 1200 ∧ ¬ (1100 ≤ a ∧ a < 1105) := by
  obtain ⟨h1, h2, h3⟩ := h
  refine ⟨by omega, by omega, by omega, by omega⟩
theorem ev_iald {j : Int32} (hd : zD M pc = some (.iaload, 1, mq)) (hm : zMo mq lv = lv) (ha : zIA g a 0 n) (hj : zin j n = true) : zE sc d M pc lv (.int j :: .ref a :: st) g h = zE sc d M (pc + 1) lv (.int (h.1 a j.toNatClampNeg) :: st) g h := by
  have h1 := zIA_ne ha
  exact ev_heap hd hm rfl rfl rfl (by simp [zHeap, z_iald, h1.2.1, ha.1, ha.2.2, hj])
theorem ev_iald_c {j : Int32} (hd : zD M pc = some (.iaload, 1, mq)) (hm : zMo mq lv = lv) (ha : zIA g a 0 n) : zE sc d M pc lv (.int j :: .ref a :: st) g h = (if zin j n = true then zE sc d M (pc + 1) lv (.int (h.1 a j.toNatClampNeg) :: st) g h else none) := by
  have h1 := zIA_ne ha
  by_cases hj : zin j n = true
  · rw [if_pos hj]; exact ev_iald hd hm ha hj
  · rw [if_neg hj]; exact ev_stuck hd hm rfl rfl rfl (by simp [zHeap, z_iald, h1.2.1, ha.1, ha.2.2, hj]) rfl rfl
theorem ev_sld_c {j : Int32} (hd : zD M pc = some (.iaload, 1, mq)) (hm : zMo mq lv = lv) : zE sc d M pc lv (.int j :: .ref 1300 :: st) g h = (if zin j sc.1 = true then zE sc d M (pc + 1) lv (.int (sc.2 j.toNatClampNeg) :: st) g h else none) := by
  by_cases hj : zin j sc.1 = true
  · rw [if_pos hj]; exact ev_heap hd hm rfl rfl rfl (by simp [zHeap, z_iald, hj])
  · rw [if_neg hj]; exact ev_stuck hd hm rfl rfl rfl (by simp [zHeap, z_iald, hj]) rfl rfl
theorem ev_bald {j : Int32} (hd : zD M pc = some (.baload, 1, mq)) (hm : zMo mq lv = lv) (ha : zIA g a 1 n) (hj : zin j n = true) : zE sc d M pc lv (.int j :: .ref a :: st) g h = zE sc d M (pc + 1) lv (.int (h.1 a j.toNatClampNeg) :: st) g h := by
  have h1 := zIA_ne ha
  exact ev_heap hd hm rfl rfl rfl (by simp only [zHeap, z_bald]; rw [if_neg h1.2.2.2, if_pos ha.1, ha.2.2]; simp only; rw [if_pos hj]; rfl)
theorem ev_bald_c {j : Int32} (hd : zD M pc = some (.baload, 1, mq)) (hm : zMo mq lv = lv) (ha : zIA g a 1 n) : zE sc d M pc lv (.int j :: .ref a :: st) g h = (if zin j n = true then zE sc d M (pc + 1) lv (.int (h.1 a j.toNatClampNeg) :: st) g h else none) := by
  have h1 := zIA_ne ha
  by_cases hj : zin j n = true
  · rw [if_pos hj]; exact ev_bald hd hm ha hj
  · rw [if_neg hj]; exact ev_stuck hd hm rfl rfl rfl (by simp only [zHeap, z_bald]; rw [if_neg h1.2.2.2, if_pos ha.1, ha.2.2]; simp only; rw [if_neg hj]; rfl) rfl rfl
theorem ev_cald_c {j : Int32} (hd : zD M pc = some (.baload, 1, mq)) (hm : zMo mq lv = lv) (ha : 1100 ≤ a ∧ a < 1105) : zE sc d M pc lv (.int j :: .ref a :: st) g h = (if zin j (zBt.getD (a - 1100) []).length = true then zE sc d M (pc + 1) lv (.int ((zBt.getD (a - 1100) []).getD j.toNatClampNeg 0) :: st) g h else none) := by
  by_cases hj : zin j (zBt.getD (a - 1100) []).length = true
  · rw [if_pos hj]; exact ev_heap hd hm rfl rfl rfl (by simp only [zHeap, z_bald]; rw [if_pos ha, if_pos hj]; rfl)
  · rw [if_neg hj]; exact ev_stuck hd hm rfl rfl rfl (by simp only [zHeap, z_bald]; rw [if_pos ha, if_neg hj]; rfl) rfl rfl
theorem ev_lald {j : Int32} (hd : zD M pc = some (.laload, 1, mq)) (hm : zMo mq lv = lv) (ha : zIA g a 2 n) (hj : zin j n = true) : zE sc d M pc lv (.int j :: .ref a :: st) g h = zE sc d M (pc + 1) lv (.long (h.2.1 a j.toNatClampNeg) :: st) g h := by
  have h1 := zIA_ne ha
  exact ev_heap hd hm rfl rfl rfl (by simp [zHeap, z_lald, h1.2.2.1, ha.1, ha.2.2, hj])
theorem ev_lald_c {j : Int32} (hd : zD M pc = some (.laload, 1, mq)) (hm : zMo mq lv = lv) (ha : zIA g a 2 n) : zE sc d M pc lv (.int j :: .ref a :: st) g h = (if zin j n = true then zE sc d M (pc + 1) lv (.long (h.2.1 a j.toNatClampNeg) :: st) g h else none) := by
  have h1 := zIA_ne ha
  by_cases hj : zin j n = true
  · rw [if_pos hj]; exact ev_lald hd hm ha hj
  · rw [if_neg hj]; exact ev_stuck hd hm rfl rfl rfl (by simp [zHeap, z_lald, h1.2.2.1, ha.1, ha.2.2, hj]) rfl rfl
theorem ev_wld_c {j : Int32} (hd : zD M pc = some (.laload, 1, mq)) (hm : zMo mq lv = lv) : zE sc d M pc lv (.int j :: .ref 1200 :: st) g h = (if zin j 6 = true then zE sc d M (pc + 1) lv (.long (zWi j.toNatClampNeg) :: st) g h else none) := by
  by_cases hj : zin j 6 = true
  · rw [if_pos hj]; exact ev_heap hd hm rfl rfl rfl (by simp [zHeap, z_lald, hj])
  · rw [if_neg hj]; exact ev_stuck hd hm rfl rfl rfl (by simp [zHeap, z_lald, hj]) rfl rfl
theorem ev_aald {j : Int32} (hd : zD M pc = some (.aaload, 1, mq)) (hm : zMo mq lv = lv) (ha : zIA g a 3 n) (hj : zin j n = true) : zE sc d M pc lv (.int j :: .ref a :: st) g h = zOK (h.2.2 a j.toNatClampNeg) (fun t _ => zE sc d M (pc + 1) lv (.ref t :: st) g h) := by
  unfold zOK
  cases hr : h.2.2 a j.toNatClampNeg with
  | none => exact ev_stuck hd hm rfl rfl rfl (by simp [zHeap, z_aald, ha.1, ha.2.2, hj, hr]) rfl rfl
  | some t =>
    simp only
    by_cases ht : zTk t = true
    · rw [dif_pos ht]
      exact ev_heap hd hm rfl rfl rfl (by simp [zHeap, z_aald, ha.1, ha.2.2, hj, hr, ht])
    · rw [dif_neg ht]
      exact ev_stuck hd hm rfl rfl rfl (by simp [zHeap, z_aald, ha.1, ha.2.2, hj, hr, ht]) rfl rfl
theorem ev_aald_c {j : Int32} (hd : zD M pc = some (.aaload, 1, mq)) (hm : zMo mq lv = lv) (ha : zIA g a 3 n) : zE sc d M pc lv (.int j :: .ref a :: st) g h = (if zin j n = true then zOK (h.2.2 a j.toNatClampNeg) (fun t _ => zE sc d M (pc + 1) lv (.ref t :: st) g h) else none) := by
  by_cases hj : zin j n = true
  · rw [if_pos hj]; exact ev_aald hd hm ha hj
  · rw [if_neg hj]; exact ev_stuck hd hm rfl rfl rfl (by simp [zHeap, z_aald, ha.1, ha.2.2, hj]) rfl rfl
theorem ev_iast {j x : Int32} (hd : zD M pc = some (.iastore, 1, mq)) (hm : zMo mq lv = lv) (ha : zIA g a 0 n) (hj : zin j n = true) : zE sc d M pc lv (.int x :: .int j :: .ref a :: st) g h = zE sc d M (pc + 1) lv st g (zPI h a j.toNatClampNeg x) :=
  ev_heap hd hm rfl rfl rfl (by simp [zHeap, z_iast, ha.1, ha.2.2, hj])
theorem ev_iast_c {j x : Int32} (hd : zD M pc = some (.iastore, 1, mq)) (hm : zMo mq lv = lv) (ha : zIA g a 0 n) : zE sc d M pc lv (.int x :: .int j :: .ref a :: st) g h = (if zin j n = true then zE sc d M (pc + 1) lv st g (zPI h a j.toNatClampNeg x) else none) := by
  by_cases hj : zin j n = true
  · rw [if_pos hj]; exact ev_iast hd hm ha hj
  · rw [if_neg hj]; exact ev_stuck hd hm rfl rfl rfl (by simp [zHeap, z_iast, ha.1, ha.2.2, hj]) rfl rfl
theorem ev_bast {j x : Int32} (hd : zD M pc = some (.bastore, 1, mq)) (hm : zMo mq lv = lv) (ha : zIA g a 1 n) (hx : x = 0 ∨ x = 1) (hj : zin j n = true) : zE sc d M pc lv (.int x :: .int j :: .ref a :: st) g h = zE sc d M (pc + 1) lv st g (zPI h a j.toNatClampNeg x) :=
  ev_heap hd hm rfl rfl rfl (by simp [zHeap, z_bast, ha.1, ha.2.2, hj, hx])
theorem ev_bast_c {j x : Int32} (hd : zD M pc = some (.bastore, 1, mq)) (hm : zMo mq lv = lv) (ha : zIA g a 1 n) (hx : x = 0 ∨ x = 1) : zE sc d M pc lv (.int x :: .int j :: .ref a :: st) g h = (if zin j n = true then zE sc d M (pc + 1) lv st g (zPI h a j.toNatClampNeg x) else none) := by
  by_cases hj : zin j n = true
  · rw [if_pos hj]; exact ev_bast hd hm ha hx hj
  · rw [if_neg hj]; exact ev_stuck hd hm rfl rfl rfl (by simp [zHeap, z_bast, ha.1, ha.2.2, hj, hx]) rfl rfl
theorem ev_last {j : Int32} {x : Int64} (hd : zD M pc = some (.lastore, 1, mq)) (hm : zMo mq lv = lv) (ha : zIA g a 2 n) (hj : zin j n = true) : zE sc d M pc lv (.long x :: .int j :: .ref a :: st) g h = zE sc d M (pc + 1) lv st g (zPL h a j.toNatClampNeg x) :=
  ev_heap hd hm rfl rfl rfl (by simp [zHeap, z_last, ha.1, ha.2.2, hj])
theorem ev_last_c {j : Int32} {x : Int64} (hd : zD M pc = some (.lastore, 1, mq)) (hm : zMo mq lv = lv) (ha : zIA g a 2 n) : zE sc d M pc lv (.long x :: .int j :: .ref a :: st) g h = (if zin j n = true then zE sc d M (pc + 1) lv st g (zPL h a j.toNatClampNeg x) else none) := by
  by_cases hj : zin j n = true
  · rw [if_pos hj]; exact ev_last hd hm ha hj
  · rw [if_neg hj]; exact ev_stuck hd hm rfl rfl rfl (by simp [zHeap, z_last, ha.1, ha.2.2, hj]) rfl rfl
theorem ev_aast {j : Int32} (hd : zD M pc = some (.aastore, 1, mq)) (hm : zMo mq lv = lv) (ha : zIA g a 3 n) (hb : zOb g b 4 = true) (hj : zin j n = true) : zE sc d M pc lv (.ref b :: .int j :: .ref a :: st) g h = zE sc d M (pc + 1) lv st g (zPR h a j.toNatClampNeg b) :=
  ev_heap hd hm rfl rfl rfl (by simp [zHeap, z_aast, ha.1, ha.2.2, hj, hb])
theorem ev_alenS (hd : zD M pc = some (.arraylength, 1, mq)) (hm : zMo mq lv = lv) : zE sc d M pc lv (.ref 1300 :: st) g h = zE sc d M (pc + 1) lv (.int (Int32.ofNat sc.1) :: st) g h :=
  ev_heap hd hm rfl rfl rfl (by simp [zHeap, z_alen])
theorem ev_alenW (hd : zD M pc = some (.arraylength, 1, mq)) (hm : zMo mq lv = lv) : zE sc d M pc lv (.ref 1200 :: st) g h = zE sc d M (pc + 1) lv (.int 6 :: st) g h :=
  ev_heap hd hm rfl rfl rfl (by simp [zHeap, z_alen])
theorem ev_alenB (hd : zD M pc = some (.arraylength, 1, mq)) (hm : zMo mq lv = lv) (ha : 1100 ≤ a ∧ a < 1105) : zE sc d M pc lv (.ref a :: st) g h = zE sc d M (pc + 1) lv (.int (Int32.ofNat (zBt.getD (a - 1100) []).length) :: st) g h :=
  ev_heap hd hm rfl rfl rfl (by simp only [zHeap, z_alen]; rw [if_neg (show ¬ a = 1300 by omega), if_neg (show ¬ a = 1200 by omega), if_pos ha]; rfl)
theorem ev_new (hd : zD M pc = some (.new i, 3, mq) ∧ zLl (zOn M) i = some ci) (hm : zMo mq lv = lv) (hk : zKi g.1 = some (.inr ci) ∧ zFree g = true) : zE sc d M pc lv st g h = zE sc d M (pc + 3) lv (.ref g.1 :: st) (g.1 + 1, g.2) (zBk h g.1) :=
  ev_heap hd.1 hm rfl rfl rfl (by simp [zHeap, z_new, hd.2, hk.1, hk.2])
theorem ev_newa {t : ArrayType} {j : Int32} (hd : zD M pc = some (.newarray t, 2, mq)) (hm : zMo mq lv = lv) (hk : ¬ j < 0 ∧ zAt' t ≠ 9 ∧ j.toNatClampNeg ≤ 1000 ∧ zKi g.1 = some (.inl (zAt' t, j.toNatClampNeg)) ∧ zFree g = true) : zE sc d M pc lv (.int j :: st) g h = zE sc d M (pc + 2) lv (.ref g.1 :: st) (g.1 + 1, g.2) (zBk h g.1) :=
  ev_heap hd hm rfl rfl rfl (by simp only [zHeap, z_newa]; rw [if_pos hk])
theorem ev_newq {j : Int32} (hd : zD M pc = some (.anewarray i, 3, mq) ∧ zLl (zOn M) i = some 4) (hm : zMo mq lv = lv) (hk : ¬ j < 0 ∧ j.toNatClampNeg ≤ 1000 ∧ zKi g.1 = some (.inl (3, j.toNatClampNeg)) ∧ zFree g = true) : zE sc d M pc lv (.int j :: st) g h = zE sc d M (pc + 3) lv (.ref g.1 :: st) (g.1 + 1, g.2) (zBk h g.1) :=
  ev_heap hd.1 hm rfl rfl rfl (by simp only [zHeap, z_newq]; rw [if_pos ⟨hd.2, hk⟩])
theorem ev_oi (hd : zD M pc = some (.invokespecial i, 3, mq) ∧ (zOt.lookup (zOn M, i)).isSome = true) (hm : zMo mq lv = lv) (ha : a < 1000) (hc : (st.map fun v => v.category).sum ≤ 8) : zE sc (d + 1) M pc lv (.ref a :: st) g h = zE sc (d + 1) M (pc + 3) lv st g h :=
  ev_heap hd.1 hm rfl rfl rfl (by simp only [zHeap, z_oi]; rw [if_pos ⟨hd.2, ha, Nat.succ_pos d, hc⟩]; rfl)
theorem ev_cpyI {nn dp sp : Int32} {na nb : Nat} (hd : zD M pc = some (.invokestatic i, 3, mq) ∧ (zAt.lookup (zOn M, i)).isSome = true) (hm : zMo mq lv = lv) (ha : zIA g a 0 na) (hb : zIA g b 0 nb) (hc : (st.map fun v => v.category).sum ≤ 8) (h1 : ¬ sp < 0 ∧ ¬ dp < 0 ∧ ¬ nn < 0 ∧ sp.toNatClampNeg + nn.toNatClampNeg ≤ na ∧ dp.toNatClampNeg + nn.toNatClampNeg ≤ nb) : zE sc (d + 1) M pc lv (.int nn :: .int dp :: .ref b :: .int sp :: .ref a :: st) g h = zE sc (d + 1) M (pc + 3) lv st g (zCI h a b sp.toNatClampNeg dp.toNatClampNeg nn.toNatClampNeg) :=
  ev_heap hd.1 hm rfl rfl rfl (by simp only [zHeap, z_cpy]; rw [if_pos ⟨hd.2, Nat.succ_pos d, ha.1, hb.1, hc, h1.1, h1.2.1, h1.2.2.1⟩, ha.2.2, hb.2.2]; simp only; rw [if_pos ⟨h1.2.2.2.1, h1.2.2.2.2⟩])
theorem ev_cpyL {nn dp sp : Int32} {na nb : Nat} (hd : zD M pc = some (.invokestatic i, 3, mq) ∧ (zAt.lookup (zOn M, i)).isSome = true) (hm : zMo mq lv = lv) (ha : zIA g a 2 na) (hb : zIA g b 2 nb) (hc : (st.map fun v => v.category).sum ≤ 8) (h1 : ¬ sp < 0 ∧ ¬ dp < 0 ∧ ¬ nn < 0 ∧ sp.toNatClampNeg + nn.toNatClampNeg ≤ na ∧ dp.toNatClampNeg + nn.toNatClampNeg ≤ nb) : zE sc (d + 1) M pc lv (.int nn :: .int dp :: .ref b :: .int sp :: .ref a :: st) g h = zE sc (d + 1) M (pc + 3) lv st g (zCL h a b sp.toNatClampNeg dp.toNatClampNeg nn.toNatClampNeg) :=
  ev_heap hd.1 hm rfl rfl rfl (by simp only [zHeap, z_cpy]; rw [if_pos ⟨hd.2, Nat.succ_pos d, ha.1, hb.1, hc, h1.1, h1.2.1, h1.2.2.1⟩, ha.2.2, hb.2.2]; simp only; rw [if_pos ⟨h1.2.2.2.1, h1.2.2.2.2⟩])
end
/-! calls -/
theorem zX_rk (sc : zSc) : ∀ (n d M pc : Nat) (lv : zLv) (st : List Value) (g : zSg) (h : zHp) (r : Option Value) (g' : zSg) (h' : zHp), zX sc n d M pc lv st g h = some (r, g', h') → zRk (zRt M) r = true := by
  intro n
  induction n with
  | zero => intro d M pc lv st g h r g' h' hz; simp [zX] at hz
  | succ n ih =>
    intro d M pc lv st g h r g' h' hz
    rw [zX] at hz
    cases hd : zD M pc with
    | none => rw [hd] at hz; cases hz
    | some q =>
      obtain ⟨op, len, mq⟩ := q
      rw [hd] at hz
      simp only at hz
      cases hs : zStep sc d M op len pc (zMo mq lv) st g h with
      | none => rw [hs] at hz; cases hz
      | some x =>
        rw [hs] at hz
        rcases x with ⟨pc1, lv1, st1, g1, h1⟩ | r1 | ⟨M1, as, rest, ini⟩
        · exact ih _ _ _ _ _ _ _ _ _ _ hz
        · cases hz
          unfold zStep at hs
          repeat' split at hs
          all_goals try cases hs
          rename_i hr
          unfold zRet at hr
          repeat' split at hr
          all_goals try cases hr
          all_goals assumption
        · cases d with
          | zero => cases hz
          | succ d1 =>
            simp only at hz
            cases hc : zX sc n d1 M1 0 (zEnt M1 as) [] g h with
            | none => rw [hc] at hz; cases hz
            | some y =>
              obtain ⟨r1, g1, h1⟩ := y
              rw [hc] at hz
              simp only at hz
              split at hz
              · exact ih _ _ _ _ _ _ _ _ _ _ hz
              · cases hz
noncomputable def zRun (sc : zSc) (d M : Nat) (as : List Value) (g : zSg) (h : zHp) : Option zRs := zE sc d M 0 (zEnt M as) [] g h
theorem zRun_rk {sc : zSc} {d M : Nat} {as : List Value} {g g' : zSg} {h h' : zHp} {r : Option Value} (hz : zRun sc d M as g h = some (r, g', h')) : zRk (zRt M) r = true := by
  obtain ⟨n, hn⟩ := (zE_iff sc).mp hz
  exact zX_rk sc _ _ _ _ _ _ _ _ _ _ _ hn
def zBi (x : Option zRs) (g : zSg) (f : Int32 → zHp → Option zRs) : Option zRs := match x with
  | some (some (.int v), g1, h1) => if g1 = g then f v h1 else none
  | _ => none
def zBj (x : Option zRs) (g : zSg) (f : Int64 → zHp → Option zRs) : Option zRs := match x with
  | some (some (.long v), g1, h1) => if g1 = g then f v h1 else none
  | _ => none
def zBv (x : Option zRs) (g : zSg) (f : zHp → Option zRs) : Option zRs := match x with
  | some (none, g1, h1) => if g1 = g then f h1 else none
  | _ => none
def zBn (x : Option zRs) (f : zSg → zHp → Option zRs) : Option zRs := match x with
  | some (none, g1, h1) => f g1 h1
  | _ => none
theorem zBi_some (v : Int32) (g : zSg) (h : zHp) (f : Int32 → zHp → Option zRs) : zBi (some (some (.int v), g, h)) g f = f v h := if_pos rfl
theorem zBj_some (v : Int64) (g : zSg) (h : zHp) (f : Int64 → zHp → Option zRs) : zBj (some (some (.long v), g, h)) g f = f v h := if_pos rfl
theorem zBv_some (g : zSg) (h : zHp) (f : zHp → Option zRs) : zBv (some (none, g, h)) g f = f h := if_pos rfl
theorem zBn_some (g : zSg) (h : zHp) (f : zSg → zHp → Option zRs) : zBn (some (none, g, h)) f = f g h := rfl
theorem ev_call {sc : zSc} {d M pc M' : Nat} {lv : zLv} {st as rest : List Value} {g : zSg} {h : zHp} {op : Instr} {mq : Option (List Bool)} {ini : Bool} (hd : zD M pc = some (op, 3, mq)) (hm : zMo mq lv = lv) (hp : zPure (zOn M) op lv st = none) (hl : zLoc op lv st = none) (hb : zBr op pc st = none) (hs : zHeap sc (d + 1) (zIni M) (zOn M) op st g h = none) (hr : zRet (zRt M) op st = none) (hc : zCal (zOn M) op st g = some (M', as, rest, ini)) :
    zE sc (d + 1) M pc lv st g h = (match zRun sc d M' as g h with
      | none => none
      | some (r, g', h') => if ini = true ∨ g' = g then zE sc (d + 1) M (pc + 3) lv (r.toList ++ rest) g' h' else none) := by
  rw [zE_eq, hd]
  simp only
  rw [hm]
  unfold zStep
  rw [hp, hl, hb, hs, hr, hc]
  rfl
section
variable {sc : zSc} {d M pc M' : Nat} {lv : zLv} {st as rest : List Value} {g : zSg} {h : zHp} {op : Instr} {mq : Option (List Bool)}
theorem ev_calli (hd : zD M pc = some (op, 3, mq)) (hm : zMo mq lv = lv) (hn : zPure (zOn M) op lv st = none ∧ zLoc op lv st = none ∧ zBr op pc st = none ∧ zHeap sc (d + 1) (zIni M) (zOn M) op st g h = none ∧ zRet (zRt M) op st = none) (hc : zCal (zOn M) op st g = some (M', as, rest, false)) (ht : zRt M' = some .int ∨ zRt M' = some .boolean ∨ zRt M' = some .char ∨ zRt M' = some .byte) :
    zE sc (d + 1) M pc lv st g h = zBi (zRun sc d M' as g h) g (fun v h1 => zE sc (d + 1) M (pc + 3) lv (.int v :: rest) g h1) := by
  rw [ev_call hd hm hn.1 hn.2.1 hn.2.2.1 hn.2.2.2.1 hn.2.2.2.2 hc]
  cases hz : zRun sc d M' as g h with
  | none => rfl
  | some q =>
    obtain ⟨r, g1, h1⟩ := q
    have hk := zRun_rk hz
    have hv : ∃ v, r = some (.int v) := by
      rcases ht with e | e | e | e <;> · rw [e] at hk; unfold zRk at hk; split at hk <;> simp_all
    obtain ⟨v, rfl⟩ := hv
    by_cases hg : g1 = g
    · subst hg; simp [zBi]
    · simp [zBi, hg]
theorem ev_callj (hd : zD M pc = some (op, 3, mq)) (hm : zMo mq lv = lv) (hn : zPure (zOn M) op lv st = none ∧ zLoc op lv st = none ∧ zBr op pc st = none ∧ zHeap sc (d + 1) (zIni M) (zOn M) op st g h = none ∧ zRet (zRt M) op st = none) (hc : zCal (zOn M) op st g = some (M', as, rest, false)) (ht : zRt M' = some .long) :
    zE sc (d + 1) M pc lv st g h = zBj (zRun sc d M' as g h) g (fun v h1 => zE sc (d + 1) M (pc + 3) lv (.long v :: rest) g h1) := by
  rw [ev_call hd hm hn.1 hn.2.1 hn.2.2.1 hn.2.2.2.1 hn.2.2.2.2 hc]
  cases hz : zRun sc d M' as g h with
  | none => rfl
  | some q =>
    obtain ⟨r, g1, h1⟩ := q
    have hk := zRun_rk hz
    have hv : ∃ v, r = some (.long v) := by
      rw [ht] at hk; unfold zRk at hk; split at hk <;> simp_all
    obtain ⟨v, rfl⟩ := hv
    by_cases hg : g1 = g
    · subst hg; simp [zBj]
    · simp [zBj, hg]
theorem ev_callv (hd : zD M pc = some (op, 3, mq)) (hm : zMo mq lv = lv) (hn : zPure (zOn M) op lv st = none ∧ zLoc op lv st = none ∧ zBr op pc st = none ∧ zHeap sc (d + 1) (zIni M) (zOn M) op st g h = none ∧ zRet (zRt M) op st = none) (hc : zCal (zOn M) op st g = some (M', as, rest, false)) (ht : zRt M' = none) :
    zE sc (d + 1) M pc lv st g h = zBv (zRun sc d M' as g h) g (fun h1 => zE sc (d + 1) M (pc + 3) lv rest g h1) := by
  rw [ev_call hd hm hn.1 hn.2.1 hn.2.2.1 hn.2.2.2.1 hn.2.2.2.2 hc]
  cases hz : zRun sc d M' as g h with
  | none => rfl
  | some q =>
    obtain ⟨r, g1, h1⟩ := q
    have hk := zRun_rk hz
    have hv : r = none := by
      rw [ht] at hk; unfold zRk at hk; split at hk <;> simp_all
    subst hv
    by_cases hg : g1 = g
    · subst hg; simp [zBv]
    · simp [zBv, hg]
theorem ev_calln (hd : zD M pc = some (op, 3, mq)) (hm : zMo mq lv = lv) (hn : zPure (zOn M) op lv st = none ∧ zLoc op lv st = none ∧ zBr op pc st = none ∧ zHeap sc (d + 1) (zIni M) (zOn M) op st g h = none ∧ zRet (zRt M) op st = none) (hc : zCal (zOn M) op st g = some (M', as, rest, true)) (ht : zRt M' = none) :
    zE sc (d + 1) M pc lv st g h = zBn (zRun sc d M' as g h) (fun g1 h1 => zE sc (d + 1) M (pc + 3) lv rest g1 h1) := by
  rw [ev_call hd hm hn.1 hn.2.1 hn.2.2.1 hn.2.2.2.1 hn.2.2.2.2 hc]
  cases hz : zRun sc d M' as g h with
  | none => rfl
  | some q =>
    obtain ⟨r, g1, h1⟩ := q
    have hk := zRun_rk hz
    have hv : r = none := by
      rw [ht] at hk; unfold zRk at hk; split at hk <;> simp_all
    subst hv
    simp [zBn]
end
end
section
/-! ===== calls with their arguments on the stack; switches; the layout ===== -/
theorem zCal_0 {o i M' : Nat} {b : Value} {as rest st : List Value} {g : zSg} (hk : zCk o i = some (0, M')) (hn : as.length = zNp M') (hle : (zExp (b :: as)).length ≤ zML M') (hst : st = as.reverse ++ b :: rest) (hrc : zRc g M' b = true) (hcat : (rest.map fun v => v.category).sum ≤ 8) : zCal o (.invokevirtual i) st g = some (M', b :: as, rest, false) := by
  have h1 : st.take (zNp M' + 1) = as.reverse ++ [b] := by
    rw [hst, ← hn, show as.reverse ++ b :: rest = (as.reverse ++ [b]) ++ rest by simp, List.take_append_of_le_length (by simp)]
    exact List.take_of_length_le (by simp)
  have h2 : st.drop (zNp M' + 1) = rest := by
    rw [hst, ← hn, show as.reverse ++ b :: rest = (as.reverse ++ [b]) ++ rest by simp]
    exact List.drop_left' (by simp)
  have h3 : zCa0 o (.invokevirtual i) st g = some (M', b :: as, rest, false) := by
    simp only [zCa0, hk, h1, h2, List.reverse_append, List.reverse_reverse, List.reverse_cons, List.reverse_nil, List.nil_append, List.singleton_append]
    rw [if_pos ⟨hn, hrc, hcat⟩]
  unfold zCal
  rw [h3]
  simp only
  rw [if_pos hle]
theorem zCal_2 {o i M' a : Nat} {as rest st : List Value} {g : zSg} (hk : zCk o i = some (2, M')) (hn : as.length = zNp M') (hle : (zExp (.ref a :: as)).length ≤ zML M') (hst : st = as.reverse ++ .ref a :: rest) (ha : a < 1000) (hcat : (rest.map fun v => v.category).sum ≤ 8) : zCal o (.invokespecial i) st g = some (M', .ref a :: as, rest, true) := by
  have h1 : st.take (zNp M' + 1) = as.reverse ++ [.ref a] := by
    rw [hst, ← hn, show as.reverse ++ .ref a :: rest = (as.reverse ++ [.ref a]) ++ rest by simp, List.take_append_of_le_length (by simp)]
    exact List.take_of_length_le (by simp)
  have h2 : st.drop (zNp M' + 1) = rest := by
    rw [hst, ← hn, show as.reverse ++ .ref a :: rest = (as.reverse ++ [.ref a]) ++ rest by simp]
    exact List.drop_left' (by simp)
  have h3 : zCa0 o (.invokespecial i) st g = some (M', .ref a :: as, rest, true) := by
    simp only [zCa0, hk, h1, h2, List.reverse_append, List.reverse_reverse, List.reverse_cons, List.reverse_nil, List.nil_append, List.singleton_append]
    rw [if_pos ⟨hn, ha, hcat⟩]
  unfold zCal
  rw [h3]
  simp only
  rw [if_pos hle]
theorem zCal_1 {o i M' kd : Nat} {as rest st : List Value} {g : zSg} (hk : zCk o i = some (kd, M')) (hkd : kd = 1 ∨ kd = 3) (hn : as.length = zNp M') (hle : (zExp as).length ≤ zML M') (hst : st = as.reverse ++ rest) (hcat : (rest.map fun v => v.category).sum ≤ 8) : zCal o (.invokestatic i) st g = some (M', as, rest, false) := by
  have h1 : st.take (zNp M') = as.reverse := by
    rw [hst, ← hn, List.take_append_of_le_length (by simp)]
    exact List.take_of_length_le (by simp)
  have h2 : st.drop (zNp M') = rest := by
    rw [hst, ← hn]
    exact List.drop_left' (by simp)
  have h3 : zCa0 o (.invokestatic i) st g = some (M', as, rest, false) := by
    rcases hkd with rfl | rfl
    · simp only [zCa0, hk, h1, h2, List.reverse_reverse]
      rw [if_pos ⟨by rw [List.length_reverse]; exact hn, hcat⟩]
    · simp only [zCa0, hk, h1, h2, List.reverse_reverse]
      rw [if_pos ⟨by rw [List.length_reverse]; exact hn, hcat⟩]
  unfold zCal
  rw [h3]
  simp only
  rw [if_pos hle]
/-- an object of a class -/
def zIO (g : zSg) (a ci : Nat) : Prop := zOb g a ci = true ∧ g.1 ≤ 1000
theorem zIO_rc {g : zSg} {a ci M : Nat} (h : zIO g a ci) (hc : zCo[ci]? = some (zOn M)) : zRc g M (.ref a) = true := by
  obtain ⟨h1, h2⟩ := zOb_iff.mp h.1
  have h3 := h.2
  unfold zRc
  simp only
  rw [if_neg (show ¬ (1000 ≤ a ∧ a < 1005) by omega), h2]
  simp [h1, hc]
theorem zIO_lt {g : zSg} {a ci : Nat} (h : zIO g a ci) : a < 1000 ∧ a < g.1 ∧ a ≠ 1400 := by
  obtain ⟨h1, h2⟩ := zOb_iff.mp h.1
  have h3 := h.2
  exact ⟨by omega, h1, by omega⟩
section
variable {sc : zSc} {d M pc M' i np ml ci kd : Nat} {b : Value} {lv : zLv} {st as rest : List Value} {g : zSg} {h : zHp} {mq : Option (List Bool)}
theorem ev_vi {a : Nat} (hd : zD M pc = some (.invokevirtual i, 3, mq) ∧ zCk (zOn M) i = some (0, M') ∧ zNp M' = np ∧ zML M' = ml ∧ zCo[ci]? = some (zOn M') ∧ (zRt M' = some .int ∨ zRt M' = some .boolean ∨ zRt M' = some .char ∨ zRt M' = some .byte)) (hm : zMo mq lv = lv) (ha : zIO g a ci) (hst : st = as.reverse ++ .ref a :: rest) (hn : as.length = np) (hle : (zExp (.ref a :: as)).length ≤ ml) (hcat : (rest.map fun v => v.category).sum ≤ 8) :
    zE sc (d + 1) M pc lv st g h = zBi (zRun sc d M' (.ref a :: as) g h) g (fun v h1 => zE sc (d + 1) M (pc + 3) lv (.int v :: rest) g h1) :=
  ev_calli hd.1 hm ⟨rfl, rfl, rfl, rfl, rfl⟩ (zCal_0 hd.2.1 (by rw [hd.2.2.1]; exact hn) (by rw [hd.2.2.2.1]; exact hle) hst (zIO_rc ha hd.2.2.2.2.1) hcat) hd.2.2.2.2.2
theorem ev_vj {a : Nat} (hd : zD M pc = some (.invokevirtual i, 3, mq) ∧ zCk (zOn M) i = some (0, M') ∧ zNp M' = np ∧ zML M' = ml ∧ zCo[ci]? = some (zOn M') ∧ zRt M' = some .long) (hm : zMo mq lv = lv) (ha : zIO g a ci) (hst : st = as.reverse ++ .ref a :: rest) (hn : as.length = np) (hle : (zExp (.ref a :: as)).length ≤ ml) (hcat : (rest.map fun v => v.category).sum ≤ 8) :
    zE sc (d + 1) M pc lv st g h = zBj (zRun sc d M' (.ref a :: as) g h) g (fun v h1 => zE sc (d + 1) M (pc + 3) lv (.long v :: rest) g h1) :=
  ev_callj hd.1 hm ⟨rfl, rfl, rfl, rfl, rfl⟩ (zCal_0 hd.2.1 (by rw [hd.2.2.1]; exact hn) (by rw [hd.2.2.2.1]; exact hle) hst (zIO_rc ha hd.2.2.2.2.1) hcat) hd.2.2.2.2.2
theorem ev_vv {a : Nat} (hd : zD M pc = some (.invokevirtual i, 3, mq) ∧ zCk (zOn M) i = some (0, M') ∧ zNp M' = np ∧ zML M' = ml ∧ zCo[ci]? = some (zOn M') ∧ zRt M' = none) (hm : zMo mq lv = lv) (ha : zIO g a ci) (hst : st = as.reverse ++ .ref a :: rest) (hn : as.length = np) (hle : (zExp (.ref a :: as)).length ≤ ml) (hcat : (rest.map fun v => v.category).sum ≤ 8) :
    zE sc (d + 1) M pc lv st g h = zBv (zRun sc d M' (.ref a :: as) g h) g (fun h1 => zE sc (d + 1) M (pc + 3) lv rest g h1) :=
  ev_callv hd.1 hm ⟨rfl, rfl, rfl, rfl, rfl⟩ (zCal_0 hd.2.1 (by rw [hd.2.2.1]; exact hn) (by rw [hd.2.2.2.1]; exact hle) hst (zIO_rc ha hd.2.2.2.2.1) hcat) hd.2.2.2.2.2
theorem ev_vs {a : Nat} (hd : zD M pc = some (.invokevirtual i, 3, mq) ∧ zCk (zOn M) i = some (0, M') ∧ zNp M' = np ∧ zML M' = ml ∧ zO (zOn M') = "java/lang/String" ∧ (zRt M' = some .int ∨ zRt M' = some .boolean ∨ zRt M' = some .char ∨ zRt M' = some .byte)) (hm : zMo mq lv = lv) (ha : 1000 ≤ a ∧ a < 1005) (hst : st = as.reverse ++ .ref a :: rest) (hn : as.length = np) (hle : (zExp (.ref a :: as)).length ≤ ml) (hcat : (rest.map fun v => v.category).sum ≤ 8) :
    zE sc (d + 1) M pc lv st g h = zBi (zRun sc d M' (.ref a :: as) g h) g (fun v h1 => zE sc (d + 1) M (pc + 3) lv (.int v :: rest) g h1) :=
  ev_calli hd.1 hm ⟨rfl, rfl, rfl, rfl, rfl⟩ (zCal_0 hd.2.1 (by rw [hd.2.2.1]; exact hn) (by rw [hd.2.2.2.1]; exact hle) hst (by unfold zRc; simp only; rw [if_pos ha]; exact decide_eq_true hd.2.2.2.2.1) hcat) hd.2.2.2.2.2
theorem ev_si (hd : zD M pc = some (.invokestatic i, 3, mq) ∧ zAt.lookup (zOn M, i) = none ∧ zCk (zOn M) i = some (kd, M') ∧ (kd = 1 ∨ kd = 3) ∧ zNp M' = np ∧ zML M' = ml ∧ (zRt M' = some .int ∨ zRt M' = some .boolean ∨ zRt M' = some .char ∨ zRt M' = some .byte)) (hm : zMo mq lv = lv) (hst : st = as.reverse ++ rest) (hn : as.length = np) (hle : (zExp as).length ≤ ml) (hcat : (rest.map fun v => v.category).sum ≤ 8) :
    zE sc (d + 1) M pc lv st g h = zBi (zRun sc d M' as g h) g (fun v h1 => zE sc (d + 1) M (pc + 3) lv (.int v :: rest) g h1) :=
  ev_calli hd.1 hm ⟨rfl, rfl, rfl, by simp only [zHeap, z_cpy]; split <;> simp [hd.2.1], rfl⟩ (zCal_1 hd.2.2.1 hd.2.2.2.1 (by rw [hd.2.2.2.2.1]; exact hn) (by rw [hd.2.2.2.2.2.1]; exact hle) hst hcat) hd.2.2.2.2.2.2
theorem ev_sj (hd : zD M pc = some (.invokestatic i, 3, mq) ∧ zAt.lookup (zOn M, i) = none ∧ zCk (zOn M) i = some (kd, M') ∧ (kd = 1 ∨ kd = 3) ∧ zNp M' = np ∧ zML M' = ml ∧ zRt M' = some .long) (hm : zMo mq lv = lv) (hst : st = as.reverse ++ rest) (hn : as.length = np) (hle : (zExp as).length ≤ ml) (hcat : (rest.map fun v => v.category).sum ≤ 8) :
    zE sc (d + 1) M pc lv st g h = zBj (zRun sc d M' as g h) g (fun v h1 => zE sc (d + 1) M (pc + 3) lv (.long v :: rest) g h1) :=
  ev_callj hd.1 hm ⟨rfl, rfl, rfl, by simp only [zHeap, z_cpy]; split <;> simp [hd.2.1], rfl⟩ (zCal_1 hd.2.2.1 hd.2.2.2.1 (by rw [hd.2.2.2.2.1]; exact hn) (by rw [hd.2.2.2.2.2.1]; exact hle) hst hcat) hd.2.2.2.2.2.2
theorem ev_sv (hd : zD M pc = some (.invokestatic i, 3, mq) ∧ zAt.lookup (zOn M, i) = none ∧ zCk (zOn M) i = some (kd, M') ∧ (kd = 1 ∨ kd = 3) ∧ zNp M' = np ∧ zML M' = ml ∧ zRt M' = none) (hm : zMo mq lv = lv) (hst : st = as.reverse ++ rest) (hn : as.length = np) (hle : (zExp as).length ≤ ml) (hcat : (rest.map fun v => v.category).sum ≤ 8) :
    zE sc (d + 1) M pc lv st g h = zBv (zRun sc d M' as g h) g (fun h1 => zE sc (d + 1) M (pc + 3) lv rest g h1) :=
  ev_callv hd.1 hm ⟨rfl, rfl, rfl, by simp only [zHeap, z_cpy]; split <;> simp [hd.2.1], rfl⟩ (zCal_1 hd.2.2.1 hd.2.2.2.1 (by rw [hd.2.2.2.2.1]; exact hn) (by rw [hd.2.2.2.2.2.1]; exact hle) hst hcat) hd.2.2.2.2.2.2
theorem ev_in {a : Nat} (hd : zD M pc = some (.invokespecial i, 3, mq) ∧ zOt.lookup (zOn M, i) = none ∧ zCk (zOn M) i = some (2, M') ∧ zNp M' = np ∧ zML M' = ml ∧ zRt M' = none) (hm : zMo mq lv = lv) (ha : a < 1000) (hst : st = as.reverse ++ .ref a :: rest) (hn : as.length = np) (hle : (zExp (.ref a :: as)).length ≤ ml) (hcat : (rest.map fun v => v.category).sum ≤ 8) :
    zE sc (d + 1) M pc lv st g h = zBn (zRun sc d M' (.ref a :: as) g h) (fun g1 h1 => zE sc (d + 1) M (pc + 3) lv rest g1 h1) :=
  ev_calln hd.1 hm ⟨rfl, rfl, rfl, by simp only [zHeap, z_oi]; split <;> simp [hd.2.1], rfl⟩ (zCal_2 hd.2.2.1 (by rw [hd.2.2.2.1]; exact hn) (by rw [hd.2.2.2.2.1]; exact hle) hst ha hcat) hd.2.2.2.2.2
/-- a switch goes to a place -/
theorem ev_sw {op : Instr} {len t : Nat} {x : Int32} (hd : zD M pc = some (op, len, mq)) (hm : zMo mq lv = lv) (hp : zPure (zOn M) op lv (.int x :: st) = none ∧ zLoc op lv (.int x :: st) = none) (hs : zBr op pc (.int x :: st) = some (t, st)) : zE sc d M pc lv (.int x :: st) g h = zE sc d M t lv st g h := ev_br hd hm hp.1 hp.2 hs
theorem z_tsO {dd lo hi : Int} {offs : Array Int} {x : Int32} {t : Nat} (h : x.toInt < lo ∨ hi < x.toInt) (ht : zTg pc dd = some t) : zBr (.tableswitch dd lo hi offs) pc (.int x :: st) = some (t, st) := by
  simp only [zBr, z_ts]
  rw [if_pos h, ht]
  rfl
end
theorem z_ite {α : Type} {c : Prop} [Decidable c] {a a' b b' : α} (h1 : a = a') (h2 : b = b') : (if c then a else b) = (if c then a' else b') := by rw [h1, h2]
theorem z_it1 {α : Type} {c : Prop} [Decidable c] {a a' b : α} (h1 : a = a') : (if c then a else b) = (if c then a' else b) := by rw [h1]
theorem z_it2 {α : Type} {c : Prop} [Decidable c] {a b b' : α} (h1 : b = b') : (if c then a else b) = (if c then a else b') := by rw [h1]
theorem z_cbi {x : Option zRs} {g : zSg} {f f' : Int32 → zHp → Option zRs} (h : ∀ v h1, f v h1 = f' v h1) : zBi x g f = zBi x g f' := by rw [show f = f' from funext fun v => funext fun h1 => h v h1]
theorem z_cbj {x : Option zRs} {g : zSg} {f f' : Int64 → zHp → Option zRs} (h : ∀ v h1, f v h1 = f' v h1) : zBj x g f = zBj x g f' := by rw [show f = f' from funext fun v => funext fun h1 => h v h1]
theorem z_cbv {x : Option zRs} {g : zSg} {f f' : zHp → Option zRs} (h : ∀ h1, f h1 = f' h1) : zBv x g f = zBv x g f' := by rw [show f = f' from funext h]
theorem z_cbn {x : Option zRs} {f f' : zSg → zHp → Option zRs} (h : ∀ g1 h1, f g1 h1 = f' g1 h1) : zBn x f = zBn x f' := by rw [show f = f' from funext fun v => funext fun h1 => h v h1]
theorem z_cot {o : Option Nat} {f f' : (t : Nat) → zTw t = true → Option zRs} (h : ∀ t ht, f t ht = f' t ht) : zOT o f = zOT o f' := by rw [show f = f' from funext fun v => funext fun h1 => h v h1]
theorem z_cok {o : Option Nat} {f f' : (t : Nat) → zTk t = true → Option zRs} (h : ∀ t ht, f t ht = f' t ht) : zOK o f = zOK o f' := by rw [show f = f' from funext fun v => funext fun h1 => h v h1]
def zGL : zSg := (73, zVF)
def zS6 (g : zSg) (t : Nat) : Prop := zIO g t 6 ∧ (zG g t 3 = some (t + 1) ∧ t + 1 < 1000) ∧ (zG g t 4 = some (t + 2) ∧ t + 2 < 1000) ∧ (zG g t 5 = some (t + 3) ∧ t + 3 < 1000) ∧ (zG g t 6 = some (t + 4) ∧ t + 4 < 1000) ∧ (zG g t 7 = some (t + 5) ∧ t + 5 < 1000) ∧ zIA g (t + 1) 0 6 ∧ zIA g (t + 2) 0 6 ∧ zIA g (t + 3) 0 5 ∧ zIA g (t + 4) 2 6 ∧ zIA g (t + 5) 2 99
def zS4 (g : zSg) (t : Nat) : Prop := zIO g t 4 ∧ (zG g t 0 = some (t + 1) ∧ t + 1 < 1000) ∧ (zG g t 1 = some (t + 2) ∧ t + 2 < 1000) ∧ (zG g t 2 = some (t + 3) ∧ t + 3 < 1000) ∧ (zG g t 3 = some (t + 4) ∧ t + 4 < 1000) ∧ (zG g t 4 = some (t + 5) ∧ t + 5 < 1000) ∧ zIA g (t + 1) 0 5 ∧ zIA g (t + 2) 0 5 ∧ zIA g (t + 3) 0 5 ∧ zIA g (t + 4) 2 25 ∧ zIA g (t + 5) 0 300
theorem zIA_of {g : zSg} {a t n : Nat} (h : (decide (a < g.1) && (decide (g.1 ≤ 1000) && decide (zLn a = some (t, n)))) = true) : zIA g a t n := by
  simp only [Bool.and_eq_true, decide_eq_true_eq] at h
  exact h
theorem zIO_of {g : zSg} {a ci : Nat} (h : (zOb g a ci && decide (g.1 ≤ 1000)) = true) : zIO g a ci := by
  simp only [Bool.and_eq_true, decide_eq_true_eq] at h
  exact h
theorem zS6_3 : zS6 zGL 3 := ⟨zIO_of (by decide +kernel), by decide +kernel, by decide +kernel, by decide +kernel, by decide +kernel, by decide +kernel, zIA_of (by decide +kernel), zIA_of (by decide +kernel), zIA_of (by decide +kernel), zIA_of (by decide +kernel), zIA_of (by decide +kernel)⟩
theorem zS6_9 : zS6 zGL 9 := ⟨zIO_of (by decide +kernel), by decide +kernel, by decide +kernel, by decide +kernel, by decide +kernel, by decide +kernel, zIA_of (by decide +kernel), zIA_of (by decide +kernel), zIA_of (by decide +kernel), zIA_of (by decide +kernel), zIA_of (by decide +kernel)⟩
theorem zS4_26 : zS4 zGL 26 := ⟨zIO_of (by decide +kernel), by decide +kernel, by decide +kernel, by decide +kernel, by decide +kernel, by decide +kernel, zIA_of (by decide +kernel), zIA_of (by decide +kernel), zIA_of (by decide +kernel), zIA_of (by decide +kernel), zIA_of (by decide +kernel)⟩
theorem zS4_33 : zS4 zGL 33 := ⟨zIO_of (by decide +kernel), by decide +kernel, by decide +kernel, by decide +kernel, by decide +kernel, by decide +kernel, zIA_of (by decide +kernel), zIA_of (by decide +kernel), zIA_of (by decide +kernel), zIA_of (by decide +kernel), zIA_of (by decide +kernel)⟩
theorem zS4_39 : zS4 zGL 39 := ⟨zIO_of (by decide +kernel), by decide +kernel, by decide +kernel, by decide +kernel, by decide +kernel, by decide +kernel, zIA_of (by decide +kernel), zIA_of (by decide +kernel), zIA_of (by decide +kernel), zIA_of (by decide +kernel), zIA_of (by decide +kernel)⟩
theorem zTw_6 {t : Nat} (h : zTw t = true) : zS6 zGL t := by
  unfold zTw at h
  simp only [Bool.or_eq_true, beq_iff_eq] at h
  rcases h with rfl | rfl
  · exact zS6_3
  · exact zS6_9
theorem zTk_4 {t : Nat} (h : zTk t = true) : zS4 zGL t := by
  unfold zTk at h
  simp only [Bool.or_eq_true, beq_iff_eq] at h
  rcases h with rfl | rfl
  · exact zS4_33
  · exact zS4_39
end
