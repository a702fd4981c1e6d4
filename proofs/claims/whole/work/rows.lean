section
-- ===== PART A: goes FIRST, ahead of the names: the tables' words, and 'selects' of the private methods out of them =====
/-- a private method of a class that the tables say can be made, by its rows of tables_1 -/
def lw_okq (q : MethodName × Nat) : Prop := (q.1.cls ≠ "java/lang/invoke/MethodHandle" ∧ q.1.cls ≠ "java/lang/invoke/VarHandle") ∧ Cond.instantiable q.1.cls q.2 ∈ tables_1 ∧ Cond.privateMethod q.1 ∈ tables_1 ∧ Cond.instanceMethod q.1 ∈ tables_1
theorem lw_p0 : lw_okq (⟨"AlgebraLaws$Reader", "takes", "(I)Z"⟩, 4) := ⟨⟨by decide +kernel, by decide +kernel⟩, List.mem_of_getElem? (i := 44) (by decide +kernel), List.mem_of_getElem? (i := 215) (by decide +kernel), List.mem_of_getElem? (i := 216) (by decide +kernel)⟩
theorem lw_p1 : lw_okq (⟨"AlgebraLaws$Reader", "opens", "(I)Z"⟩, 4) := ⟨⟨by decide +kernel, by decide +kernel⟩, List.mem_of_getElem? (i := 44) (by decide +kernel), List.mem_of_getElem? (i := 219) (by decide +kernel), List.mem_of_getElem? (i := 220) (by decide +kernel)⟩
theorem lw_p2 : lw_okq (⟨"AlgebraLaws$Reader", "ends", "()Z"⟩, 4) := ⟨⟨by decide +kernel, by decide +kernel⟩, List.mem_of_getElem? (i := 44) (by decide +kernel), List.mem_of_getElem? (i := 223) (by decide +kernel), List.mem_of_getElem? (i := 224) (by decide +kernel)⟩
theorem lw_p3 : lw_okq (⟨"AlgebraLaws$Reader", "figuresDue", "()I"⟩, 4) := ⟨⟨by decide +kernel, by decide +kernel⟩, List.mem_of_getElem? (i := 44) (by decide +kernel), List.mem_of_getElem? (i := 227) (by decide +kernel), List.mem_of_getElem? (i := 228) (by decide +kernel)⟩
theorem lw_p4 : lw_okq (⟨"AlgebraLaws$Reader", "takesFigure", "(I)Z"⟩, 4) := ⟨⟨by decide +kernel, by decide +kernel⟩, List.mem_of_getElem? (i := 44) (by decide +kernel), List.mem_of_getElem? (i := 231) (by decide +kernel), List.mem_of_getElem? (i := 232) (by decide +kernel)⟩
theorem lw_p5 : lw_okq (⟨"AlgebraLaws$Reader", "takesSize", "(I)Z"⟩, 4) := ⟨⟨by decide +kernel, by decide +kernel⟩, List.mem_of_getElem? (i := 44) (by decide +kernel), List.mem_of_getElem? (i := 235) (by decide +kernel), List.mem_of_getElem? (i := 236) (by decide +kernel)⟩
theorem lw_p6 : lw_okq (⟨"AlgebraLaws$Reader", "takesValue", "(I)Z"⟩, 4) := ⟨⟨by decide +kernel, by decide +kernel⟩, List.mem_of_getElem? (i := 44) (by decide +kernel), List.mem_of_getElem? (i := 239) (by decide +kernel), List.mem_of_getElem? (i := 240) (by decide +kernel)⟩
theorem lw_p7 : lw_okq (⟨"AlgebraLaws$Reader", "placeOfFigure", "()I"⟩, 4) := ⟨⟨by decide +kernel, by decide +kernel⟩, List.mem_of_getElem? (i := 44) (by decide +kernel), List.mem_of_getElem? (i := 248) (by decide +kernel), List.mem_of_getElem? (i := 249) (by decide +kernel)⟩
theorem lw_p8 : lw_okq (⟨"AlgebraLaws$History", "loseOldest", "()V"⟩, 3) := ⟨⟨by decide +kernel, by decide +kernel⟩, List.mem_of_getElem? (i := 67) (by decide +kernel), List.mem_of_getElem? (i := 302) (by decide +kernel), List.mem_of_getElem? (i := 303) (by decide +kernel)⟩
theorem lw_p9 : lw_okq (⟨"AlgebraLaws$Congruences", "partition", "(I)I"⟩, 3) := ⟨⟨by decide +kernel, by decide +kernel⟩, List.mem_of_getElem? (i := 84) (by decide +kernel), List.mem_of_getElem? (i := 407) (by decide +kernel), List.mem_of_getElem? (i := 408) (by decide +kernel)⟩
theorem lw_p10 : lw_okq (⟨"AlgebraLaws$Congruences", "isLinked", "(IIII)Z"⟩, 3) := ⟨⟨by decide +kernel, by decide +kernel⟩, List.mem_of_getElem? (i := 84) (by decide +kernel), List.mem_of_getElem? (i := 440) (by decide +kernel), List.mem_of_getElem? (i := 441) (by decide +kernel)⟩
theorem lw_p11 : lw_okq (⟨"AlgebraLaws$Terms", "startOver", "()V"⟩, 12) := ⟨⟨by decide +kernel, by decide +kernel⟩, List.mem_of_getElem? (i := 103) (by decide +kernel), List.mem_of_getElem? (i := 456) (by decide +kernel), List.mem_of_getElem? (i := 457) (by decide +kernel)⟩
theorem lw_p12 : lw_okq (⟨"AlgebraLaws$Terms", "addWay", "(IIII)V"⟩, 12) := ⟨⟨by decide +kernel, by decide +kernel⟩, List.mem_of_getElem? (i := 103) (by decide +kernel), List.mem_of_getElem? (i := 463) (by decide +kernel), List.mem_of_getElem? (i := 464) (by decide +kernel)⟩
theorem lw_p13 : lw_okq (⟨"AlgebraLaws$Terms", "valueHere", "(I)J"⟩, 12) := ⟨⟨by decide +kernel, by decide +kernel⟩, List.mem_of_getElem? (i := 103) (by decide +kernel), List.mem_of_getElem? (i := 467) (by decide +kernel), List.mem_of_getElem? (i := 468) (by decide +kernel)⟩
theorem lw_p14 : lw_okq (⟨"AlgebraLaws$Terms", "grow", "(LAlgebraLaws$Tables;I)Z"⟩, 12) := ⟨⟨by decide +kernel, by decide +kernel⟩, List.mem_of_getElem? (i := 103) (by decide +kernel), List.mem_of_getElem? (i := 475) (by decide +kernel), List.mem_of_getElem? (i := 476) (by decide +kernel)⟩
theorem lw_p15 : lw_okq (⟨"AlgebraLaws$Terms", "add", "(J)Z"⟩, 12) := ⟨⟨by decide +kernel, by decide +kernel⟩, List.mem_of_getElem? (i := 103) (by decide +kernel), List.mem_of_getElem? (i := 479) (by decide +kernel), List.mem_of_getElem? (i := 480) (by decide +kernel)⟩
def lw_privs_1 : List (MethodName × Nat) := [(⟨"AlgebraLaws$Reader", "takes", "(I)Z"⟩, 4), (⟨"AlgebraLaws$Reader", "opens", "(I)Z"⟩, 4), (⟨"AlgebraLaws$Reader", "ends", "()Z"⟩, 4), (⟨"AlgebraLaws$Reader", "figuresDue", "()I"⟩, 4), (⟨"AlgebraLaws$Reader", "takesFigure", "(I)Z"⟩, 4), (⟨"AlgebraLaws$Reader", "takesSize", "(I)Z"⟩, 4), (⟨"AlgebraLaws$Reader", "takesValue", "(I)Z"⟩, 4), (⟨"AlgebraLaws$Reader", "placeOfFigure", "()I"⟩, 4), (⟨"AlgebraLaws$History", "loseOldest", "()V"⟩, 3), (⟨"AlgebraLaws$Congruences", "partition", "(I)I"⟩, 3), (⟨"AlgebraLaws$Congruences", "isLinked", "(IIII)Z"⟩, 3), (⟨"AlgebraLaws$Terms", "startOver", "()V"⟩, 12), (⟨"AlgebraLaws$Terms", "addWay", "(IIII)V"⟩, 12), (⟨"AlgebraLaws$Terms", "valueHere", "(I)J"⟩, 12), (⟨"AlgebraLaws$Terms", "grow", "(LAlgebraLaws$Tables;I)Z"⟩, 12), (⟨"AlgebraLaws$Terms", "add", "(J)Z"⟩, 12)]
theorem lw_r1 : ∀ q ∈ lw_privs_1, lw_okq q := List.forall_mem_cons.mpr ⟨lw_p0, List.forall_mem_cons.mpr ⟨lw_p1, List.forall_mem_cons.mpr ⟨lw_p2, List.forall_mem_cons.mpr ⟨lw_p3, List.forall_mem_cons.mpr ⟨lw_p4, List.forall_mem_cons.mpr ⟨lw_p5, List.forall_mem_cons.mpr ⟨lw_p6, List.forall_mem_cons.mpr ⟨lw_p7, List.forall_mem_cons.mpr ⟨lw_p8, List.forall_mem_cons.mpr ⟨lw_p9, List.forall_mem_cons.mpr ⟨lw_p10, List.forall_mem_cons.mpr ⟨lw_p11, List.forall_mem_cons.mpr ⟨lw_p12, List.forall_mem_cons.mpr ⟨lw_p13, List.forall_mem_cons.mpr ⟨lw_p14, List.forall_mem_cons.mpr ⟨lw_p15, fun _ h => absurd h List.not_mem_nil⟩⟩⟩⟩⟩⟩⟩⟩⟩⟩⟩⟩⟩⟩⟩⟩
theorem lw_p16 : lw_okq (⟨"AlgebraLaws$Terms", "slotOf", "(J)I"⟩, 12) := ⟨⟨by decide +kernel, by decide +kernel⟩, List.mem_of_getElem? (i := 103) (by decide +kernel), List.mem_of_getElem? (i := 483) (by decide +kernel), List.mem_of_getElem? (i := 484) (by decide +kernel)⟩
theorem lw_p17 : lw_okq (⟨"AlgebraLaws$Terms", "makeRound", "(LAlgebraLaws$Tables;I)Z"⟩, 12) := ⟨⟨by decide +kernel, by decide +kernel⟩, List.mem_of_getElem? (i := 103) (by decide +kernel), List.mem_of_getElem? (i := 488) (by decide +kernel), List.mem_of_getElem? (i := 489) (by decide +kernel)⟩
theorem lw_p18 : lw_okq (⟨"AlgebraLaws$Terms", "layBehind", "(LAlgebraLaws$Tables;J)V"⟩, 12) := ⟨⟨by decide +kernel, by decide +kernel⟩, List.mem_of_getElem? (i := 103) (by decide +kernel), List.mem_of_getElem? (i := 492) (by decide +kernel), List.mem_of_getElem? (i := 493) (by decide +kernel)⟩
theorem lw_p19 : lw_okq (⟨"AlgebraLaws$Terms", "whereIs", "(JI)I"⟩, 12) := ⟨⟨by decide +kernel, by decide +kernel⟩, List.mem_of_getElem? (i := 103) (by decide +kernel), List.mem_of_getElem? (i := 496) (by decide +kernel), List.mem_of_getElem? (i := 497) (by decide +kernel)⟩
theorem lw_p20 : lw_okq (⟨"AlgebraLaws$Terms", "ofOne", "(LAlgebraLaws$Tables;J)J"⟩, 12) := ⟨⟨by decide +kernel, by decide +kernel⟩, List.mem_of_getElem? (i := 103) (by decide +kernel), List.mem_of_getElem? (i := 501) (by decide +kernel), List.mem_of_getElem? (i := 502) (by decide +kernel)⟩
theorem lw_p21 : lw_okq (⟨"AlgebraLaws$Terms", "ofTwo", "(J)J"⟩, 12) := ⟨⟨by decide +kernel, by decide +kernel⟩, List.mem_of_getElem? (i := 103) (by decide +kernel), List.mem_of_getElem? (i := 506) (by decide +kernel), List.mem_of_getElem? (i := 507) (by decide +kernel)⟩
theorem lw_p22 : lw_okq (⟨"AlgebraLaws", "someOtherValueFits", "(I)Z"⟩, 12) := ⟨⟨by decide +kernel, by decide +kernel⟩, List.mem_of_getElem? (i := 15) (by decide +kernel), List.mem_of_getElem? (i := 534) (by decide +kernel), List.mem_of_getElem? (i := 535) (by decide +kernel)⟩
theorem lw_p23 : lw_okq (⟨"AlgebraLaws", "allSeenIs", "(I)Z"⟩, 12) := ⟨⟨by decide +kernel, by decide +kernel⟩, List.mem_of_getElem? (i := 15) (by decide +kernel), List.mem_of_getElem? (i := 541) (by decide +kernel), List.mem_of_getElem? (i := 542) (by decide +kernel)⟩
theorem lw_p24 : lw_okq (⟨"AlgebraLawsModel", "blanks", "()V"⟩, 21) := ⟨⟨by decide +kernel, by decide +kernel⟩, List.mem_of_getElem? (i := 579) (by decide +kernel), List.mem_of_getElem? (i := 668) (by decide +kernel), List.mem_of_getElem? (i := 669) (by decide +kernel)⟩
theorem lw_p25 : lw_okq (⟨"AlgebraLawsModel", "readsItem", "()Z"⟩, 21) := ⟨⟨by decide +kernel, by decide +kernel⟩, List.mem_of_getElem? (i := 579) (by decide +kernel), List.mem_of_getElem? (i := 672) (by decide +kernel), List.mem_of_getElem? (i := 673) (by decide +kernel)⟩
theorem lw_p26 : lw_okq (⟨"AlgebraLawsModel", "next", "()V"⟩, 21) := ⟨⟨by decide +kernel, by decide +kernel⟩, List.mem_of_getElem? (i := 579) (by decide +kernel), List.mem_of_getElem? (i := 676) (by decide +kernel), List.mem_of_getElem? (i := 677) (by decide +kernel)⟩
theorem lw_p27 : lw_okq (⟨"AlgebraLawsModel", "readsSize", "()Z"⟩, 21) := ⟨⟨by decide +kernel, by decide +kernel⟩, List.mem_of_getElem? (i := 579) (by decide +kernel), List.mem_of_getElem? (i := 680) (by decide +kernel), List.mem_of_getElem? (i := 681) (by decide +kernel)⟩
theorem lw_p28 : lw_okq (⟨"AlgebraLawsModel", "figure", "(II)Z"⟩, 21) := ⟨⟨by decide +kernel, by decide +kernel⟩, List.mem_of_getElem? (i := 579) (by decide +kernel), List.mem_of_getElem? (i := 684) (by decide +kernel), List.mem_of_getElem? (i := 685) (by decide +kernel)⟩
theorem lw_p29 : lw_okq (⟨"AlgebraLawsModel", "ends", "()Z"⟩, 21) := ⟨⟨by decide +kernel, by decide +kernel⟩, List.mem_of_getElem? (i := 579) (by decide +kernel), List.mem_of_getElem? (i := 688) (by decide +kernel), List.mem_of_getElem? (i := 689) (by decide +kernel)⟩
theorem lw_p30 : lw_okq (⟨"AlgebraLawsModel", "readsF", "()Z"⟩, 21) := ⟨⟨by decide +kernel, by decide +kernel⟩, List.mem_of_getElem? (i := 579) (by decide +kernel), List.mem_of_getElem? (i := 692) (by decide +kernel), List.mem_of_getElem? (i := 693) (by decide +kernel)⟩
theorem lw_p31 : lw_okq (⟨"AlgebraLawsModel", "readsG", "()Z"⟩, 21) := ⟨⟨by decide +kernel, by decide +kernel⟩, List.mem_of_getElem? (i := 579) (by decide +kernel), List.mem_of_getElem? (i := 696) (by decide +kernel), List.mem_of_getElem? (i := 697) (by decide +kernel)⟩
def lw_privs_2 : List (MethodName × Nat) := [(⟨"AlgebraLaws$Terms", "slotOf", "(J)I"⟩, 12), (⟨"AlgebraLaws$Terms", "makeRound", "(LAlgebraLaws$Tables;I)Z"⟩, 12), (⟨"AlgebraLaws$Terms", "layBehind", "(LAlgebraLaws$Tables;J)V"⟩, 12), (⟨"AlgebraLaws$Terms", "whereIs", "(JI)I"⟩, 12), (⟨"AlgebraLaws$Terms", "ofOne", "(LAlgebraLaws$Tables;J)J"⟩, 12), (⟨"AlgebraLaws$Terms", "ofTwo", "(J)J"⟩, 12), (⟨"AlgebraLaws", "someOtherValueFits", "(I)Z"⟩, 12), (⟨"AlgebraLaws", "allSeenIs", "(I)Z"⟩, 12), (⟨"AlgebraLawsModel", "blanks", "()V"⟩, 21), (⟨"AlgebraLawsModel", "readsItem", "()Z"⟩, 21), (⟨"AlgebraLawsModel", "next", "()V"⟩, 21), (⟨"AlgebraLawsModel", "readsSize", "()Z"⟩, 21), (⟨"AlgebraLawsModel", "figure", "(II)Z"⟩, 21), (⟨"AlgebraLawsModel", "ends", "()Z"⟩, 21), (⟨"AlgebraLawsModel", "readsF", "()Z"⟩, 21), (⟨"AlgebraLawsModel", "readsG", "()Z"⟩, 21)]
theorem lw_r2 : ∀ q ∈ lw_privs_2, lw_okq q := List.forall_mem_cons.mpr ⟨lw_p16, List.forall_mem_cons.mpr ⟨lw_p17, List.forall_mem_cons.mpr ⟨lw_p18, List.forall_mem_cons.mpr ⟨lw_p19, List.forall_mem_cons.mpr ⟨lw_p20, List.forall_mem_cons.mpr ⟨lw_p21, List.forall_mem_cons.mpr ⟨lw_p22, List.forall_mem_cons.mpr ⟨lw_p23, List.forall_mem_cons.mpr ⟨lw_p24, List.forall_mem_cons.mpr ⟨lw_p25, List.forall_mem_cons.mpr ⟨lw_p26, List.forall_mem_cons.mpr ⟨lw_p27, List.forall_mem_cons.mpr ⟨lw_p28, List.forall_mem_cons.mpr ⟨lw_p29, List.forall_mem_cons.mpr ⟨lw_p30, List.forall_mem_cons.mpr ⟨lw_p31, fun _ h => absurd h List.not_mem_nil⟩⟩⟩⟩⟩⟩⟩⟩⟩⟩⟩⟩⟩⟩⟩⟩
theorem lw_p32 : lw_okq (⟨"AlgebraLawsModel", "is", "(I)Z"⟩, 21) := ⟨⟨by decide +kernel, by decide +kernel⟩, List.mem_of_getElem? (i := 579) (by decide +kernel), List.mem_of_getElem? (i := 704) (by decide +kernel), List.mem_of_getElem? (i := 705) (by decide +kernel)⟩
theorem lw_p33 : lw_okq (⟨"AlgebraLawsModel", "size", "()I"⟩, 21) := ⟨⟨by decide +kernel, by decide +kernel⟩, List.mem_of_getElem? (i := 579) (by decide +kernel), List.mem_of_getElem? (i := 708) (by decide +kernel), List.mem_of_getElem? (i := 709) (by decide +kernel)⟩
theorem lw_p34 : lw_okq (⟨"AlgebraLawsModel", "ff", "(II)I"⟩, 21) := ⟨⟨by decide +kernel, by decide +kernel⟩, List.mem_of_getElem? (i := 579) (by decide +kernel), List.mem_of_getElem? (i := 712) (by decide +kernel), List.mem_of_getElem? (i := 713) (by decide +kernel)⟩
theorem lw_p35 : lw_okq (⟨"AlgebraLawsModel", "gg", "(I)I"⟩, 21) := ⟨⟨by decide +kernel, by decide +kernel⟩, List.mem_of_getElem? (i := 579) (by decide +kernel), List.mem_of_getElem? (i := 720) (by decide +kernel), List.mem_of_getElem? (i := 721) (by decide +kernel)⟩
theorem lw_p36 : lw_okq (⟨"AlgebraLawsModel", "setMany", "()I"⟩, 21) := ⟨⟨by decide +kernel, by decide +kernel⟩, List.mem_of_getElem? (i := 579) (by decide +kernel), List.mem_of_getElem? (i := 736) (by decide +kernel), List.mem_of_getElem? (i := 737) (by decide +kernel)⟩
theorem lw_p37 : lw_okq (⟨"AlgebraLawsModel", "wider", "(I)I"⟩, 21) := ⟨⟨by decide +kernel, by decide +kernel⟩, List.mem_of_getElem? (i := 579) (by decide +kernel), List.mem_of_getElem? (i := 740) (by decide +kernel), List.mem_of_getElem? (i := 741) (by decide +kernel)⟩
theorem lw_p38 : lw_okq (⟨"AlgebraLawsModel", "closedOf", "(I)I"⟩, 21) := ⟨⟨by decide +kernel, by decide +kernel⟩, List.mem_of_getElem? (i := 579) (by decide +kernel), List.mem_of_getElem? (i := 751) (by decide +kernel), List.mem_of_getElem? (i := 752) (by decide +kernel)⟩
theorem lw_p39 : lw_okq (⟨"AlgebraLawsModel", "firstOf", "(I)I"⟩, 21) := ⟨⟨by decide +kernel, by decide +kernel⟩, List.mem_of_getElem? (i := 579) (by decide +kernel), List.mem_of_getElem? (i := 759) (by decide +kernel), List.mem_of_getElem? (i := 760) (by decide +kernel)⟩
theorem lw_p40 : lw_okq (⟨"AlgebraLawsModel", "isSo", "(IIII)Z"⟩, 21) := ⟨⟨by decide +kernel, by decide +kernel⟩, List.mem_of_getElem? (i := 579) (by decide +kernel), List.mem_of_getElem? (i := 766) (by decide +kernel), List.mem_of_getElem? (i := 767) (by decide +kernel)⟩
theorem lw_p41 : lw_okq (⟨"AlgebraLawsModel", "layCongruences", "()V"⟩, 21) := ⟨⟨by decide +kernel, by decide +kernel⟩, List.mem_of_getElem? (i := 579) (by decide +kernel), List.mem_of_getElem? (i := 778) (by decide +kernel), List.mem_of_getElem? (i := 779) (by decide +kernel)⟩
theorem lw_p42 : lw_okq (⟨"AlgebraLawsModel", "isPartition", "(I)Z"⟩, 21) := ⟨⟨by decide +kernel, by decide +kernel⟩, List.mem_of_getElem? (i := 579) (by decide +kernel), List.mem_of_getElem? (i := 782) (by decide +kernel), List.mem_of_getElem? (i := 783) (by decide +kernel)⟩
theorem lw_p43 : lw_okq (⟨"AlgebraLawsModel", "goesAlong", "(I)Z"⟩, 21) := ⟨⟨by decide +kernel, by decide +kernel⟩, List.mem_of_getElem? (i := 579) (by decide +kernel), List.mem_of_getElem? (i := 789) (by decide +kernel), List.mem_of_getElem? (i := 790) (by decide +kernel)⟩
theorem lw_p44 : lw_okq (⟨"AlgebraLawsModel", "isWith", "(III)Z"⟩, 21) := ⟨⟨by decide +kernel, by decide +kernel⟩, List.mem_of_getElem? (i := 579) (by decide +kernel), List.mem_of_getElem? (i := 793) (by decide +kernel), List.mem_of_getElem? (i := 794) (by decide +kernel)⟩
theorem lw_p45 : lw_okq (⟨"AlgebraLawsModel", "nameOf", "(I)I"⟩, 21) := ⟨⟨by decide +kernel, by decide +kernel⟩, List.mem_of_getElem? (i := 579) (by decide +kernel), List.mem_of_getElem? (i := 797) (by decide +kernel), List.mem_of_getElem? (i := 798) (by decide +kernel)⟩
theorem lw_p46 : lw_okq (⟨"AlgebraLawsModel", "blocks", "(I)I"⟩, 21) := ⟨⟨by decide +kernel, by decide +kernel⟩, List.mem_of_getElem? (i := 579) (by decide +kernel), List.mem_of_getElem? (i := 805) (by decide +kernel), List.mem_of_getElem? (i := 806) (by decide +kernel)⟩
theorem lw_p47 : lw_okq (⟨"AlgebraLawsModel", "between", "(IIZ)I"⟩, 21) := ⟨⟨by decide +kernel, by decide +kernel⟩, List.mem_of_getElem? (i := 579) (by decide +kernel), List.mem_of_getElem? (i := 813) (by decide +kernel), List.mem_of_getElem? (i := 814) (by decide +kernel)⟩
def lw_privs_3 : List (MethodName × Nat) := [(⟨"AlgebraLawsModel", "is", "(I)Z"⟩, 21), (⟨"AlgebraLawsModel", "size", "()I"⟩, 21), (⟨"AlgebraLawsModel", "ff", "(II)I"⟩, 21), (⟨"AlgebraLawsModel", "gg", "(I)I"⟩, 21), (⟨"AlgebraLawsModel", "setMany", "()I"⟩, 21), (⟨"AlgebraLawsModel", "wider", "(I)I"⟩, 21), (⟨"AlgebraLawsModel", "closedOf", "(I)I"⟩, 21), (⟨"AlgebraLawsModel", "firstOf", "(I)I"⟩, 21), (⟨"AlgebraLawsModel", "isSo", "(IIII)Z"⟩, 21), (⟨"AlgebraLawsModel", "layCongruences", "()V"⟩, 21), (⟨"AlgebraLawsModel", "isPartition", "(I)Z"⟩, 21), (⟨"AlgebraLawsModel", "goesAlong", "(I)Z"⟩, 21), (⟨"AlgebraLawsModel", "isWith", "(III)Z"⟩, 21), (⟨"AlgebraLawsModel", "nameOf", "(I)I"⟩, 21), (⟨"AlgebraLawsModel", "blocks", "(I)I"⟩, 21), (⟨"AlgebraLawsModel", "between", "(IIZ)I"⟩, 21)]
theorem lw_r3 : ∀ q ∈ lw_privs_3, lw_okq q := List.forall_mem_cons.mpr ⟨lw_p32, List.forall_mem_cons.mpr ⟨lw_p33, List.forall_mem_cons.mpr ⟨lw_p34, List.forall_mem_cons.mpr ⟨lw_p35, List.forall_mem_cons.mpr ⟨lw_p36, List.forall_mem_cons.mpr ⟨lw_p37, List.forall_mem_cons.mpr ⟨lw_p38, List.forall_mem_cons.mpr ⟨lw_p39, List.forall_mem_cons.mpr ⟨lw_p40, List.forall_mem_cons.mpr ⟨lw_p41, List.forall_mem_cons.mpr ⟨lw_p42, List.forall_mem_cons.mpr ⟨lw_p43, List.forall_mem_cons.mpr ⟨lw_p44, List.forall_mem_cons.mpr ⟨lw_p45, List.forall_mem_cons.mpr ⟨lw_p46, List.forall_mem_cons.mpr ⟨lw_p47, fun _ h => absurd h List.not_mem_nil⟩⟩⟩⟩⟩⟩⟩⟩⟩⟩⟩⟩⟩⟩⟩⟩
theorem lw_p48 : lw_okq (⟨"AlgebraLawsModel", "isFiner", "(II)Z"⟩, 21) := ⟨⟨by decide +kernel, by decide +kernel⟩, List.mem_of_getElem? (i := 579) (by decide +kernel), List.mem_of_getElem? (i := 817) (by decide +kernel), List.mem_of_getElem? (i := 818) (by decide +kernel)⟩
theorem lw_p49 : lw_okq (⟨"AlgebraLawsModel", "permute", "(II)Z"⟩, 21) := ⟨⟨by decide +kernel, by decide +kernel⟩, List.mem_of_getElem? (i := 579) (by decide +kernel), List.mem_of_getElem? (i := 821) (by decide +kernel), List.mem_of_getElem? (i := 822) (by decide +kernel)⟩
theorem lw_p50 : lw_okq (⟨"AlgebraLawsModel", "isThrough", "(IIII)Z"⟩, 21) := ⟨⟨by decide +kernel, by decide +kernel⟩, List.mem_of_getElem? (i := 579) (by decide +kernel), List.mem_of_getElem? (i := 825) (by decide +kernel), List.mem_of_getElem? (i := 826) (by decide +kernel)⟩
theorem lw_p51 : lw_okq (⟨"AlgebraLawsModel", "letterRow", "(II)J"⟩, 21) := ⟨⟨by decide +kernel, by decide +kernel⟩, List.mem_of_getElem? (i := 579) (by decide +kernel), List.mem_of_getElem? (i := 833) (by decide +kernel), List.mem_of_getElem? (i := 834) (by decide +kernel)⟩
theorem lw_p52 : lw_okq (⟨"AlgebraLawsModel", "comes", "(J)V"⟩, 21) := ⟨⟨by decide +kernel, by decide +kernel⟩, List.mem_of_getElem? (i := 579) (by decide +kernel), List.mem_of_getElem? (i := 837) (by decide +kernel), List.mem_of_getElem? (i := 838) (by decide +kernel)⟩
theorem lw_p53 : lw_okq (⟨"AlgebraLawsModel", "isTerm", "(J)Z"⟩, 21) := ⟨⟨by decide +kernel, by decide +kernel⟩, List.mem_of_getElem? (i := 579) (by decide +kernel), List.mem_of_getElem? (i := 841) (by decide +kernel), List.mem_of_getElem? (i := 842) (by decide +kernel)⟩
theorem lw_p54 : lw_okq (⟨"AlgebraLawsModel", "goesRound", "(I)Z"⟩, 21) := ⟨⟨by decide +kernel, by decide +kernel⟩, List.mem_of_getElem? (i := 579) (by decide +kernel), List.mem_of_getElem? (i := 845) (by decide +kernel), List.mem_of_getElem? (i := 846) (by decide +kernel)⟩
theorem lw_p55 : lw_okq (⟨"AlgebraLawsModel", "gOf", "(JI)J"⟩, 21) := ⟨⟨by decide +kernel, by decide +kernel⟩, List.mem_of_getElem? (i := 579) (by decide +kernel), List.mem_of_getElem? (i := 849) (by decide +kernel), List.mem_of_getElem? (i := 850) (by decide +kernel)⟩
theorem lw_p56 : lw_okq (⟨"AlgebraLawsModel", "fOf", "(JJI)J"⟩, 21) := ⟨⟨by decide +kernel, by decide +kernel⟩, List.mem_of_getElem? (i := 579) (by decide +kernel), List.mem_of_getElem? (i := 854) (by decide +kernel), List.mem_of_getElem? (i := 855) (by decide +kernel)⟩
theorem lw_p57 : lw_okq (⟨"AlgebraLawsModel", "isSeen", "(I)Z"⟩, 21) := ⟨⟨by decide +kernel, by decide +kernel⟩, List.mem_of_getElem? (i := 579) (by decide +kernel), List.mem_of_getElem? (i := 874) (by decide +kernel), List.mem_of_getElem? (i := 875) (by decide +kernel)⟩
theorem lw_p58 : lw_okq (⟨"AlgebraLawsModel", "holding", "()I"⟩, 21) := ⟨⟨by decide +kernel, by decide +kernel⟩, List.mem_of_getElem? (i := 579) (by decide +kernel), List.mem_of_getElem? (i := 890) (by decide +kernel), List.mem_of_getElem? (i := 891) (by decide +kernel)⟩
theorem lw_p59 : lw_okq (⟨"AlgebraLawsModel", "maps", "(Z)I"⟩, 21) := ⟨⟨by decide +kernel, by decide +kernel⟩, List.mem_of_getElem? (i := 579) (by decide +kernel), List.mem_of_getElem? (i := 894) (by decide +kernel), List.mem_of_getElem? (i := 895) (by decide +kernel)⟩
theorem lw_p60 : lw_okq (⟨"AlgebraLawsModel", "isMap", "(I)Z"⟩, 21) := ⟨⟨by decide +kernel, by decide +kernel⟩, List.mem_of_getElem? (i := 579) (by decide +kernel), List.mem_of_getElem? (i := 901) (by decide +kernel), List.mem_of_getElem? (i := 902) (by decide +kernel)⟩
def lw_privs_4 : List (MethodName × Nat) := [(⟨"AlgebraLawsModel", "isFiner", "(II)Z"⟩, 21), (⟨"AlgebraLawsModel", "permute", "(II)Z"⟩, 21), (⟨"AlgebraLawsModel", "isThrough", "(IIII)Z"⟩, 21), (⟨"AlgebraLawsModel", "letterRow", "(II)J"⟩, 21), (⟨"AlgebraLawsModel", "comes", "(J)V"⟩, 21), (⟨"AlgebraLawsModel", "isTerm", "(J)Z"⟩, 21), (⟨"AlgebraLawsModel", "goesRound", "(I)Z"⟩, 21), (⟨"AlgebraLawsModel", "gOf", "(JI)J"⟩, 21), (⟨"AlgebraLawsModel", "fOf", "(JJI)J"⟩, 21), (⟨"AlgebraLawsModel", "isSeen", "(I)Z"⟩, 21), (⟨"AlgebraLawsModel", "holding", "()I"⟩, 21), (⟨"AlgebraLawsModel", "maps", "(Z)I"⟩, 21), (⟨"AlgebraLawsModel", "isMap", "(I)Z"⟩, 21)]
theorem lw_r4 : ∀ q ∈ lw_privs_4, lw_okq q := List.forall_mem_cons.mpr ⟨lw_p48, List.forall_mem_cons.mpr ⟨lw_p49, List.forall_mem_cons.mpr ⟨lw_p50, List.forall_mem_cons.mpr ⟨lw_p51, List.forall_mem_cons.mpr ⟨lw_p52, List.forall_mem_cons.mpr ⟨lw_p53, List.forall_mem_cons.mpr ⟨lw_p54, List.forall_mem_cons.mpr ⟨lw_p55, List.forall_mem_cons.mpr ⟨lw_p56, List.forall_mem_cons.mpr ⟨lw_p57, List.forall_mem_cons.mpr ⟨lw_p58, List.forall_mem_cons.mpr ⟨lw_p59, List.forall_mem_cons.mpr ⟨lw_p60, fun _ h => absurd h List.not_mem_nil⟩⟩⟩⟩⟩⟩⟩⟩⟩⟩⟩⟩⟩
def lw_privs : List (MethodName × Nat) := lw_privs_1 ++ (lw_privs_2 ++ (lw_privs_3 ++ (lw_privs_4)))
def lw_tbl : List Cond := k2_sels lw_privs ++ tables_1
theorem lw_privs_ok : ∀ q ∈ lw_privs, lw_okq q := by
  show ∀ q ∈ lw_privs_1 ++ (lw_privs_2 ++ (lw_privs_3 ++ (lw_privs_4))), lw_okq q
  exact List.forall_mem_append.mpr ⟨lw_r1, List.forall_mem_append.mpr ⟨lw_r2, List.forall_mem_append.mpr ⟨lw_r3, lw_r4⟩⟩⟩
-- ===== end of PART A; then your names; then what follows =====
end
section
/-! ===== BEGIN words of one list among another's, by their places ===== -/
theorem goodIn_r {big : List Cond} (ws : List Cond) (ps : List Nat) (hp : ws = ps.filterMap (fun i => big[i]?)) (h : ws.all goodWord = true) : GoodIn big ws := by
  intro w hw
  have h1 := List.all_eq_true.mp h w hw
  rw [hp] at hw
  obtain ⟨i, -, hi⟩ := List.mem_filterMap.mp hw
  have hm : w ∈ big := by first | exact List.mem_of_getElem? hi | exact List.getElem?_mem hi
  exact ⟨hm, good_of_word h1⟩
theorem goodIn_app {big a b : List Cond} (ha : GoodIn big a) (hb : GoodIn big b) : GoodIn big (a ++ b) := fun w h => (List.mem_append.mp h).elim (ha w) (hb w)
theorem goodIn_ca {big a b : List Cond} {c : Cond} (ha : GoodIn big (c :: a)) (hb : GoodIn big b) : GoodIn big (c :: (a ++ b)) := fun w h => (List.mem_cons.mp h).elim (fun e => ha w (List.mem_cons.mpr (Or.inl e))) (fun h => (List.mem_append.mp h).elim (fun h => ha w (List.mem_cons.mpr (Or.inr h))) (hb w))
theorem goodIn_sub {big ws : List Cond} (hm : ∀ w ∈ ws, w ∈ big) (h : ws.all goodWord = true) : GoodIn big ws := fun w hw => ⟨hm w hw, good_of_word (List.all_eq_true.mp h w hw)⟩
/-! ===== END ===== -/

/-! ===== BEGIN printed: names, fields, word lists, decode rows ===== -/
noncomputable def RX0 : String := "AlgebraLaws$ClosedSets"
noncomputable def TX0 : u_T := fun k => match k with
  | _ => ("", "", "", false)
noncomputable def tyX0 : Nat → FieldType := fun k => match k with
  | _ => .int
noncomputable abbrev wsX00 : List Cond := u_ws RX0 TX0 0
theorem nmX0 : ∀ a, a < 0 → ∀ b, b < 0 → a ≠ b → (TX0 a).2.1 ≠ (TX0 b).2.1 := by decide +kernel
theorem tyX0_ok : ∀ k, k < 0 → parseFieldDescriptor (TX0 k).2.2.1 = some (tyX0 k) := by decide +kernel
noncomputable abbrev cX0_leastAround : ByteArray := prog_2_method_2_code
noncomputable def yX0_leastAround : MethodName := ⟨RX0, "leastAround", "(LAlgebraLaws$Tables;I)I"⟩
noncomputable abbrev cX0_byNumber : ByteArray := prog_2_method_3_code
noncomputable def yX0_byNumber : MethodName := ⟨RX0, "byNumber", "(LAlgebraLaws$Tables;I)I"⟩
noncomputable abbrev cX0_howMany : ByteArray := prog_2_method_4_code
noncomputable def yX0_howMany : MethodName := ⟨RX0, "howMany", "(LAlgebraLaws$Tables;)I"⟩
noncomputable abbrev cX0_isClosed : ByteArray := prog_2_method_5_code
noncomputable def yX0_isClosed : MethodName := ⟨RX0, "isClosed", "(LAlgebraLaws$Tables;I)Z"⟩
noncomputable abbrev cX0_valuesIn : ByteArray := prog_2_method_6_code
noncomputable def yX0_valuesIn : MethodName := ⟨RX0, "valuesIn", "(LAlgebraLaws$Tables;I)I"⟩
noncomputable def RX1 : String := "AlgebraLaws$Congruences"
noncomputable def TX1 : u_T := fun k => match k with
  | 0 => ("AlgebraLaws$Congruences", "found", "I", false)
  | 1 => ("AlgebraLaws$Congruences", "size", "I", false)
  | _ => ("AlgebraLaws$Congruences", "partitions", "[I", true)
noncomputable def tyX1 : Nat → FieldType := fun k => match k with
  | 0 => .int
  | 1 => .int
  | _ => .array .int
noncomputable abbrev wsX10 : List Cond := u_ws RX1 TX1 3
theorem nmX1 : ∀ a, a < 3 → ∀ b, b < 3 → a ≠ b → (TX1 a).2.1 ≠ (TX1 b).2.1 := by decide +kernel
theorem tyX1_ok : ∀ k, k < 3 → parseFieldDescriptor (TX1 k).2.2.1 = some (tyX1 k) := by decide +kernel
noncomputable abbrev cX1_init : ByteArray := prog_3_method_1_code
noncomputable def yX1_init : MethodName := ⟨RX1, "<init>", "()V"⟩
noncomputable abbrev cX1_seekIn : ByteArray := prog_3_method_2_code
noncomputable def yX1_seekIn : MethodName := ⟨RX1, "seekIn", "(LAlgebraLaws$Tables;)V"⟩
noncomputable abbrev cX1_isThere : ByteArray := prog_3_method_3_code
noncomputable def yX1_isThere : MethodName := ⟨RX1, "isThere", "(I)Z"⟩
noncomputable abbrev cX1_partition : ByteArray := prog_3_method_4_code
noncomputable def yX1_partition : MethodName := ⟨RX1, "partition", "(I)I"⟩
noncomputable abbrev cX1_nameOf : ByteArray := prog_3_method_5_code
noncomputable def yX1_nameOf : MethodName := ⟨RX1, "nameOf", "(I)I"⟩
noncomputable abbrev cX1_finestWith : ByteArray := prog_3_method_6_code
noncomputable def yX1_finestWith : MethodName := ⟨RX1, "finestWith", "(II)I"⟩
noncomputable abbrev cX1_join : ByteArray := prog_3_method_7_code
noncomputable def yX1_join : MethodName := ⟨RX1, "join", "(II)I"⟩
noncomputable abbrev cX1_meet : ByteArray := prog_3_method_8_code
noncomputable def yX1_meet : MethodName := ⟨RX1, "meet", "(II)I"⟩
noncomputable abbrev cX1_isFiner : ByteArray := prog_3_method_9_code
noncomputable def yX1_isFiner : MethodName := ⟨RX1, "isFiner", "(II)Z"⟩
noncomputable abbrev cX1_permute : ByteArray := prog_3_method_10_code
noncomputable def yX1_permute : MethodName := ⟨RX1, "permute", "(II)Z"⟩
noncomputable abbrev cX1_isLinked : ByteArray := prog_3_method_11_code
noncomputable def yX1_isLinked : MethodName := ⟨RX1, "isLinked", "(IIII)Z"⟩
noncomputable abbrev cX1_least : ByteArray := prog_3_method_12_code
noncomputable def yX1_least : MethodName := ⟨RX1, "least", "(II)I"⟩
noncomputable abbrev cX1_together : ByteArray := prog_3_method_13_code
noncomputable def yX1_together : MethodName := ⟨RX1, "together", "(III)Z"⟩
noncomputable abbrev cX1_isOfFirst : ByteArray := prog_3_method_14_code
noncomputable def yX1_isOfFirst : MethodName := ⟨RX1, "isOfFirst", "(II)Z"⟩
noncomputable abbrev cX1_goesAlong : ByteArray := prog_3_method_15_code
noncomputable def yX1_goesAlong : MethodName := ⟨RX1, "goesAlong", "(LAlgebraLaws$Tables;I)Z"⟩
noncomputable def RX2 : String := "AlgebraLaws$History"
noncomputable def TX2 : u_T := fun k => match k with
  | 0 => ("AlgebraLaws$History", "known", "I", false)
  | 1 => ("AlgebraLaws$History", "places", "[I", true)
  | _ => ("AlgebraLaws$History", "values", "[I", true)
noncomputable def tyX2 : Nat → FieldType := fun k => match k with
  | 0 => .int
  | 1 => .array .int
  | _ => .array .int
noncomputable abbrev wsX20 : List Cond := u_ws RX2 TX2 3
theorem nmX2 : ∀ a, a < 3 → ∀ b, b < 3 → a ≠ b → (TX2 a).2.1 ≠ (TX2 b).2.1 := by decide +kernel
theorem tyX2_ok : ∀ k, k < 3 → parseFieldDescriptor (TX2 k).2.2.1 = some (tyX2 k) := by decide +kernel
noncomputable abbrev cX2_init : ByteArray := prog_4_method_1_code
noncomputable def yX2_init : MethodName := ⟨RX2, "<init>", "()V"⟩
noncomputable abbrev cX2_loseAll : ByteArray := prog_4_method_2_code
noncomputable def yX2_loseAll : MethodName := ⟨RX2, "loseAll", "()V"⟩
noncomputable abbrev cX2_note : ByteArray := prog_4_method_3_code
noncomputable def yX2_note : MethodName := ⟨RX2, "note", "(II)V"⟩
noncomputable abbrev cX2_loseOldest : ByteArray := prog_4_method_4_code
noncomputable def yX2_loseOldest : MethodName := ⟨RX2, "loseOldest", "()V"⟩
noncomputable abbrev cX2_takeBackIn : ByteArray := prog_4_method_5_code
noncomputable def yX2_takeBackIn : MethodName := ⟨RX2, "takeBackIn", "(LAlgebraLaws$Tables;)V"⟩
noncomputable def RX3 : String := "AlgebraLaws$Laws"
noncomputable def TX3 : u_T := fun k => match k with
  | _ => ("", "", "", false)
noncomputable def tyX3 : Nat → FieldType := fun k => match k with
  | _ => .int
noncomputable abbrev wsX30 : List Cond := u_ws RX3 TX3 0
theorem nmX3 : ∀ a, a < 0 → ∀ b, b < 0 → a ≠ b → (TX3 a).2.1 ≠ (TX3 b).2.1 := by decide +kernel
theorem tyX3_ok : ∀ k, k < 0 → parseFieldDescriptor (TX3 k).2.2.1 = some (tyX3 k) := by decide +kernel
noncomputable abbrev cX3_isThere : ByteArray := prog_5_method_2_code
noncomputable def yX3_isThere : MethodName := ⟨RX3, "isThere", "(I)Z"⟩
noncomputable abbrev cX3_holds : ByteArray := prog_5_method_3_code
noncomputable def yX3_holds : MethodName := ⟨RX3, "holds", "(LAlgebraLaws$Tables;I)Z"⟩
noncomputable abbrev cX3_firstAgainst : ByteArray := prog_5_method_4_code
noncomputable def yX3_firstAgainst : MethodName := ⟨RX3, "firstAgainst", "(LAlgebraLaws$Tables;I)I"⟩
noncomputable abbrev cX3_isSo : ByteArray := prog_5_method_5_code
noncomputable def yX3_isSo : MethodName := ⟨RX3, "isSo", "(LAlgebraLaws$Tables;IIII)Z"⟩
noncomputable abbrev cX3_thatHold : ByteArray := prog_5_method_6_code
noncomputable def yX3_thatHold : MethodName := ⟨RX3, "thatHold", "(LAlgebraLaws$Tables;)I"⟩
noncomputable abbrev cX3_leastChange : ByteArray := prog_5_method_7_code
noncomputable def yX3_leastChange : MethodName := ⟨RX3, "leastChange", "(LAlgebraLaws$Tables;I)I"⟩
noncomputable abbrev cX3_leastValue : ByteArray := prog_5_method_8_code
noncomputable def yX3_leastValue : MethodName := ⟨RX3, "leastValue", "(LAlgebraLaws$Tables;II)I"⟩
noncomputable def RX4 : String := "AlgebraLaws$Maps"
noncomputable def TX4 : u_T := fun k => match k with
  | _ => ("", "", "", false)
noncomputable def tyX4 : Nat → FieldType := fun k => match k with
  | _ => .int
noncomputable abbrev wsX40 : List Cond := u_ws RX4 TX4 0
theorem nmX4 : ∀ a, a < 0 → ∀ b, b < 0 → a ≠ b → (TX4 a).2.1 ≠ (TX4 b).2.1 := by decide +kernel
theorem tyX4_ok : ∀ k, k < 0 → parseFieldDescriptor (TX4 k).2.2.1 = some (tyX4 k) := by decide +kernel
noncomputable abbrev cX4_howMany : ByteArray := prog_6_method_2_code
noncomputable def yX4_howMany : MethodName := ⟨RX4, "howMany", "(LAlgebraLaws$Tables;Z)I"⟩
noncomputable abbrev cX4_of : ByteArray := prog_6_method_3_code
noncomputable def yX4_of : MethodName := ⟨RX4, "of", "(II)I"⟩
noncomputable abbrev cX4_isInside : ByteArray := prog_6_method_4_code
noncomputable def yX4_isInside : MethodName := ⟨RX4, "isInside", "(LAlgebraLaws$Tables;I)Z"⟩
noncomputable abbrev cX4_isOnto : ByteArray := prog_6_method_5_code
noncomputable def yX4_isOnto : MethodName := ⟨RX4, "isOnto", "(LAlgebraLaws$Tables;I)Z"⟩
noncomputable abbrev cX4_goesAlong : ByteArray := prog_6_method_6_code
noncomputable def yX4_goesAlong : MethodName := ⟨RX4, "goesAlong", "(LAlgebraLaws$Tables;I)Z"⟩
noncomputable def RX5 : String := "AlgebraLaws$Reader"
noncomputable def TX5 : u_T := fun k => match k with
  | 0 => ("AlgebraLaws$Reader", "told", "LAlgebraLaws$Tables;", true)
  | 1 => ("AlgebraLaws$Reader", "items", "I", false)
  | 2 => ("AlgebraLaws$Reader", "item", "I", false)
  | _ => ("AlgebraLaws$Reader", "figures", "I", false)
noncomputable def tyX5 : Nat → FieldType := fun k => match k with
  | 0 => .object "AlgebraLaws$Tables"
  | 1 => .int
  | 2 => .int
  | _ => .int
noncomputable abbrev wsX50 : List Cond := u_ws RX5 TX5 4
theorem nmX5 : ∀ a, a < 4 → ∀ b, b < 4 → a ≠ b → (TX5 a).2.1 ≠ (TX5 b).2.1 := by decide +kernel
theorem tyX5_ok : ∀ k, k < 4 → parseFieldDescriptor (TX5 k).2.2.1 = some (tyX5 k) := by decide +kernel
noncomputable abbrev cX5_init : ByteArray := prog_7_method_1_code
noncomputable def yX5_init : MethodName := ⟨RX5, "<init>", "()V"⟩
noncomputable abbrev cX5_faultOf : ByteArray := prog_7_method_2_code
noncomputable def yX5_faultOf : MethodName := ⟨RX5, "faultOf", "([II)I"⟩
noncomputable abbrev cX5_takes : ByteArray := prog_7_method_3_code
noncomputable def yX5_takes : MethodName := ⟨RX5, "takes", "(I)Z"⟩
noncomputable abbrev cX5_opens : ByteArray := prog_7_method_4_code
noncomputable def yX5_opens : MethodName := ⟨RX5, "opens", "(I)Z"⟩
noncomputable abbrev cX5_ends : ByteArray := prog_7_method_5_code
noncomputable def yX5_ends : MethodName := ⟨RX5, "ends", "()Z"⟩
noncomputable abbrev cX5_figuresDue : ByteArray := prog_7_method_6_code
noncomputable def yX5_figuresDue : MethodName := ⟨RX5, "figuresDue", "()I"⟩
noncomputable abbrev cX5_takesFigure : ByteArray := prog_7_method_7_code
noncomputable def yX5_takesFigure : MethodName := ⟨RX5, "takesFigure", "(I)Z"⟩
noncomputable abbrev cX5_takesSize : ByteArray := prog_7_method_8_code
noncomputable def yX5_takesSize : MethodName := ⟨RX5, "takesSize", "(I)Z"⟩
noncomputable abbrev cX5_takesValue : ByteArray := prog_7_method_9_code
noncomputable def yX5_takesValue : MethodName := ⟨RX5, "takesValue", "(I)Z"⟩
noncomputable abbrev cX5_placeOfFigure : ByteArray := prog_7_method_10_code
noncomputable def yX5_placeOfFigure : MethodName := ⟨RX5, "placeOfFigure", "()I"⟩
noncomputable def RX6 : String := "AlgebraLaws$Tables"
noncomputable def TX6 : u_T := fun k => match k with
  | 0 => ("AlgebraLaws$Tables", "size", "I", false)
  | _ => ("AlgebraLaws$Tables", "values", "[I", true)
noncomputable def tyX6 : Nat → FieldType := fun k => match k with
  | 0 => .int
  | _ => .array .int
noncomputable abbrev wsX60 : List Cond := u_ws RX6 TX6 2
theorem nmX6 : ∀ a, a < 2 → ∀ b, b < 2 → a ≠ b → (TX6 a).2.1 ≠ (TX6 b).2.1 := by decide +kernel
theorem tyX6_ok : ∀ k, k < 2 → parseFieldDescriptor (TX6 k).2.2.1 = some (tyX6 k) := by decide +kernel
noncomputable abbrev cX6_init : ByteArray := prog_8_method_1_code
noncomputable def yX6_init : MethodName := ⟨RX6, "<init>", "()V"⟩
noncomputable abbrev cX6_placeOfTwo : ByteArray := prog_8_method_2_code
noncomputable def yX6_placeOfTwo : MethodName := ⟨RX6, "placeOfTwo", "(II)I"⟩
noncomputable abbrev cX6_placeOfOne : ByteArray := prog_8_method_3_code
noncomputable def yX6_placeOfOne : MethodName := ⟨RX6, "placeOfOne", "(I)I"⟩
noncomputable abbrev cX6_startOver : ByteArray := prog_8_method_4_code
noncomputable def yX6_startOver : MethodName := ⟨RX6, "startOver", "(I)V"⟩
noncomputable abbrev cX6_has : ByteArray := prog_8_method_5_code
noncomputable def yX6_has : MethodName := ⟨RX6, "has", "(I)Z"⟩
noncomputable abbrev cX6_allElements : ByteArray := prog_8_method_6_code
noncomputable def yX6_allElements : MethodName := ⟨RX6, "allElements", "()I"⟩
noncomputable abbrev cX6_two : ByteArray := prog_8_method_7_code
noncomputable def yX6_two : MethodName := ⟨RX6, "two", "(II)I"⟩
noncomputable abbrev cX6_one : ByteArray := prog_8_method_8_code
noncomputable def yX6_one : MethodName := ⟨RX6, "one", "(I)I"⟩
noncomputable abbrev cX6_at : ByteArray := prog_8_method_9_code
noncomputable def yX6_at : MethodName := ⟨RX6, "at", "(I)I"⟩
noncomputable abbrev cX6_put : ByteArray := prog_8_method_10_code
noncomputable def yX6_put : MethodName := ⟨RX6, "put", "(II)V"⟩
noncomputable abbrev cX6_copyFrom : ByteArray := prog_8_method_11_code
noncomputable def yX6_copyFrom : MethodName := ⟨RX6, "copyFrom", "(LAlgebraLaws$Tables;)V"⟩
noncomputable def RX7 : String := "AlgebraLaws$Terms"
noncomputable def TX7 : u_T := fun k => match k with
  | 0 => ("AlgebraLaws$Terms", "howMany", "I", false)
  | 1 => ("AlgebraLaws$Terms", "rounds", "I", false)
  | 2 => ("AlgebraLaws$Terms", "isFound", "Z", false)
  | 3 => ("AlgebraLaws$Terms", "rows", "[J", true)
  | 4 => ("AlgebraLaws$Terms", "slots", "[I", true)
  | 5 => ("AlgebraLaws$Terms", "firstLetter", "J", false)
  | 6 => ("AlgebraLaws$Terms", "secondLetter", "J", false)
  | 7 => ("AlgebraLaws$Terms", "thirdLetter", "J", false)
  | 8 => ("AlgebraLaws$Terms", "goal", "J", false)
  | 9 => ("AlgebraLaws$Terms", "width", "I", false)
  | 10 => ("AlgebraLaws$Terms", "lowBehind", "[I", true)
  | _ => ("AlgebraLaws$Terms", "highBehind", "[I", true)
noncomputable def tyX7 : Nat → FieldType := fun k => match k with
  | 0 => .int
  | 1 => .int
  | 2 => .boolean
  | 3 => .array .long
  | 4 => .array .int
  | 5 => .long
  | 6 => .long
  | 7 => .long
  | 8 => .long
  | 9 => .int
  | 10 => .array .int
  | _ => .array .int
noncomputable abbrev wsX70 : List Cond := u_ws RX7 TX7 12
theorem nmX7 : ∀ a, a < 12 → ∀ b, b < 12 → a ≠ b → (TX7 a).2.1 ≠ (TX7 b).2.1 := by decide +kernel
theorem tyX7_ok : ∀ k, k < 12 → parseFieldDescriptor (TX7 k).2.2.1 = some (tyX7 k) := by decide +kernel
noncomputable abbrev cX7_init : ByteArray := prog_9_method_1_code
noncomputable def yX7_init : MethodName := ⟨RX7, "<init>", "()V"⟩
noncomputable abbrev cX7_makeFree : ByteArray := prog_9_method_2_code
noncomputable def yX7_makeFree : MethodName := ⟨RX7, "makeFree", "(LAlgebraLaws$Tables;I)Z"⟩
noncomputable abbrev cX7_seekMaltsev : ByteArray := prog_9_method_3_code
noncomputable def yX7_seekMaltsev : MethodName := ⟨RX7, "seekMaltsev", "(LAlgebraLaws$Tables;)Z"⟩
noncomputable abbrev cX7_seekMajority : ByteArray := prog_9_method_4_code
noncomputable def yX7_seekMajority : MethodName := ⟨RX7, "seekMajority", "(LAlgebraLaws$Tables;)Z"⟩
noncomputable abbrev cX7_startOver : ByteArray := prog_9_method_5_code
noncomputable def yX7_startOver : MethodName := ⟨RX7, "startOver", "()V"⟩
noncomputable abbrev cX7_addWay : ByteArray := prog_9_method_6_code
noncomputable def yX7_addWay : MethodName := ⟨RX7, "addWay", "(IIII)V"⟩
noncomputable abbrev cX7_valueHere : ByteArray := prog_9_method_7_code
noncomputable def yX7_valueHere : MethodName := ⟨RX7, "valueHere", "(I)J"⟩
noncomputable abbrev cX7_grow : ByteArray := prog_9_method_8_code
noncomputable def yX7_grow : MethodName := ⟨RX7, "grow", "(LAlgebraLaws$Tables;I)Z"⟩
noncomputable abbrev cX7_makeRound : ByteArray := prog_9_method_9_code
noncomputable def yX7_makeRound : MethodName := ⟨RX7, "makeRound", "(LAlgebraLaws$Tables;I)Z"⟩
noncomputable abbrev cX7_layBehind : ByteArray := prog_9_method_10_code
noncomputable def yX7_layBehind : MethodName := ⟨RX7, "layBehind", "(LAlgebraLaws$Tables;J)V"⟩
noncomputable abbrev cX7_ofTwo : ByteArray := prog_9_method_11_code
noncomputable def yX7_ofTwo : MethodName := ⟨RX7, "ofTwo", "(J)J"⟩
noncomputable abbrev cX7_ofOne : ByteArray := prog_9_method_12_code
noncomputable def yX7_ofOne : MethodName := ⟨RX7, "ofOne", "(LAlgebraLaws$Tables;J)J"⟩
noncomputable abbrev cX7_whereIs : ByteArray := prog_9_method_13_code
noncomputable def yX7_whereIs : MethodName := ⟨RX7, "whereIs", "(JI)I"⟩
noncomputable abbrev cX7_joined : ByteArray := prog_9_method_14_code
noncomputable def yX7_joined : MethodName := ⟨RX7, "joined", "(II)J"⟩
noncomputable abbrev cX7_add : ByteArray := prog_9_method_15_code
noncomputable def yX7_add : MethodName := ⟨RX7, "add", "(J)Z"⟩
noncomputable abbrev cX7_slotOf : ByteArray := prog_9_method_16_code
noncomputable def yX7_slotOf : MethodName := ⟨RX7, "slotOf", "(J)I"⟩
noncomputable def RX8 : String := "AlgebraLaws"
noncomputable def TX8 : u_T := fun k => match k with
  | 0 => ("AlgebraLaws", "now", "LAlgebraLaws$Tables;", true)
  | 1 => ("AlgebraLaws", "trial", "LAlgebraLaws$Tables;", true)
  | 2 => ("AlgebraLaws", "reader", "LAlgebraLaws$Reader;", true)
  | 3 => ("AlgebraLaws", "history", "LAlgebraLaws$History;", true)
  | 4 => ("AlgebraLaws", "congruences", "LAlgebraLaws$Congruences;", true)
  | 5 => ("AlgebraLaws", "terms", "LAlgebraLaws$Terms;", true)
  | 6 => ("AlgebraLaws", "text", "[I", true)
  | 7 => ("AlgebraLaws", "letters", "I", false)
  | 8 => ("AlgebraLaws", "seen", "[I", true)
  | 9 => ("AlgebraLaws", "seenSoFar", "I", false)
  | 10 => ("AlgebraLaws", "images", "[LAlgebraLaws$Tables;", true)
  | _ => ("AlgebraLaws", "keptImages", "I", false)
noncomputable def tyX8 : Nat → FieldType := fun k => match k with
  | 0 => .object "AlgebraLaws$Tables"
  | 1 => .object "AlgebraLaws$Tables"
  | 2 => .object "AlgebraLaws$Reader"
  | 3 => .object "AlgebraLaws$History"
  | 4 => .object "AlgebraLaws$Congruences"
  | 5 => .object "AlgebraLaws$Terms"
  | 6 => .array .int
  | 7 => .int
  | 8 => .array .int
  | 9 => .int
  | 10 => .array (.object "AlgebraLaws$Tables")
  | _ => .int
noncomputable abbrev wsX80 : List Cond := u_ws RX8 TX8 12
theorem nmX8 : ∀ a, a < 12 → ∀ b, b < 12 → a ≠ b → (TX8 a).2.1 ≠ (TX8 b).2.1 := by decide +kernel
theorem tyX8_ok : ∀ k, k < 12 → parseFieldDescriptor (TX8 k).2.2.1 = some (tyX8 k) := by decide +kernel
noncomputable abbrev cX8_init : ByteArray := prog_1_method_1_code
noncomputable def yX8_init : MethodName := ⟨RX8, "<init>", "()V"⟩
noncomputable abbrev cX8_type : ByteArray := prog_1_method_2_code
noncomputable def yX8_type : MethodName := ⟨RX8, "type", "(I)I"⟩
noncomputable abbrev cX8_clear : ByteArray := prog_1_method_3_code
noncomputable def yX8_clear : MethodName := ⟨RX8, "clear", "()I"⟩
noncomputable abbrev cX8_tables : ByteArray := prog_1_method_4_code
noncomputable def yX8_tables : MethodName := ⟨RX8, "tables", "()I"⟩
noncomputable abbrev cX8_f : ByteArray := prog_1_method_5_code
noncomputable def yX8_f : MethodName := ⟨RX8, "f", "(II)I"⟩
noncomputable abbrev cX8_g : ByteArray := prog_1_method_6_code
noncomputable def yX8_g : MethodName := ⟨RX8, "g", "(I)I"⟩
noncomputable abbrev cX8_sets : ByteArray := prog_1_method_7_code
noncomputable def yX8_sets : MethodName := ⟨RX8, "sets", "(III)I"⟩
noncomputable abbrev cX8_undo : ByteArray := prog_1_method_8_code
noncomputable def yX8_undo : MethodName := ⟨RX8, "undo", "()I"⟩
noncomputable abbrev cX8_made : ByteArray := prog_1_method_9_code
noncomputable def yX8_made : MethodName := ⟨RX8, "made", "(I)I"⟩
noncomputable abbrev cX8_closed : ByteArray := prog_1_method_10_code
noncomputable def yX8_closed : MethodName := ⟨RX8, "closed", "(I)I"⟩
noncomputable abbrev cX8_law : ByteArray := prog_1_method_11_code
noncomputable def yX8_law : MethodName := ⟨RX8, "law", "(I)I"⟩
noncomputable abbrev cX8_change : ByteArray := prog_1_method_12_code
noncomputable def yX8_change : MethodName := ⟨RX8, "change", "(I)I"⟩
noncomputable abbrev cX8_congruence : ByteArray := prog_1_method_13_code
noncomputable def yX8_congruence : MethodName := ⟨RX8, "congruence", "(I)I"⟩
noncomputable abbrev cX8_principal : ByteArray := prog_1_method_14_code
noncomputable def yX8_principal : MethodName := ⟨RX8, "principal", "(II)I"⟩
noncomputable abbrev cX8_pair : ByteArray := prog_1_method_15_code
noncomputable def yX8_pair : MethodName := ⟨RX8, "pair", "(III)I"⟩
noncomputable abbrev cX8_free : ByteArray := prog_1_method_16_code
noncomputable def yX8_free : MethodName := ⟨RX8, "free", "(II)I"⟩
noncomputable abbrev cX8_term : ByteArray := prog_1_method_17_code
noncomputable def yX8_term : MethodName := ⟨RX8, "term", "(I)I"⟩
noncomputable abbrev cX8_sees : ByteArray := prog_1_method_18_code
noncomputable def yX8_sees : MethodName := ⟨RX8, "sees", "(I)I"⟩
noncomputable abbrev cX8_forget : ByteArray := prog_1_method_19_code
noncomputable def yX8_forget : MethodName := ⟨RX8, "forget", "()I"⟩
noncomputable abbrev cX8_unseen : ByteArray := prog_1_method_20_code
noncomputable def yX8_unseen : MethodName := ⟨RX8, "unseen", "()I"⟩
noncomputable abbrev cX8_someOtherValueFits : ByteArray := prog_1_method_21_code
noncomputable def yX8_someOtherValueFits : MethodName := ⟨RX8, "someOtherValueFits", "(I)Z"⟩
noncomputable abbrev cX8_allSeenIs : ByteArray := prog_1_method_22_code
noncomputable def yX8_allSeenIs : MethodName := ⟨RX8, "allSeenIs", "(I)Z"⟩
noncomputable abbrev cX8_keep : ByteArray := prog_1_method_23_code
noncomputable def yX8_keep : MethodName := ⟨RX8, "keep", "(I)I"⟩
noncomputable abbrev cX8_back : ByteArray := prog_1_method_24_code
noncomputable def yX8_back : MethodName := ⟨RX8, "back", "(I)I"⟩
noncomputable abbrev cX8_count : ByteArray := prog_1_method_25_code
noncomputable def yX8_count : MethodName := ⟨RX8, "count", "(I)I"⟩
noncomputable abbrev cX8_oneIf : ByteArray := prog_1_method_26_code
noncomputable def yX8_oneIf : MethodName := ⟨RX8, "oneIf", "(Z)I"⟩
noncomputable def RX9 : String := "AlgebraLawsModel"
noncomputable def TX9 : u_T := fun k => match k with
  | 0 => ("AlgebraLawsModel", "now", "[I", true)
  | 1 => ("AlgebraLawsModel", "undoMany", "I", false)
  | 2 => ("AlgebraLawsModel", "undoAt", "I", false)
  | 3 => ("AlgebraLawsModel", "undos", "[I", true)
  | 4 => ("AlgebraLawsModel", "seenMany", "I", false)
  | 5 => ("AlgebraLawsModel", "seen", "[I", true)
  | 6 => ("AlgebraLawsModel", "isKept", "[Z", true)
  | 7 => ("AlgebraLawsModel", "kept", "[I", true)
  | 8 => ("AlgebraLawsModel", "letterMany", "I", false)
  | 9 => ("AlgebraLawsModel", "text", "[I", true)
  | 10 => ("AlgebraLawsModel", "readAt", "I", false)
  | 11 => ("AlgebraLawsModel", "tokenAt", "I", false)
  | 12 => ("AlgebraLawsModel", "token", "I", false)
  | 13 => ("AlgebraLawsModel", "faultAt", "I", false)
  | 14 => ("AlgebraLawsModel", "readItems", "I", false)
  | 15 => ("AlgebraLawsModel", "read", "[I", true)
  | 16 => ("AlgebraLawsModel", "congruenceMany", "I", false)
  | 17 => ("AlgebraLawsModel", "congruences", "[I", true)
  | 18 => ("AlgebraLawsModel", "termMany", "I", false)
  | 19 => ("AlgebraLawsModel", "rounds", "I", false)
  | _ => ("AlgebraLawsModel", "terms", "[J", true)
noncomputable def tyX9 : Nat → FieldType := fun k => match k with
  | 0 => .array .int
  | 1 => .int
  | 2 => .int
  | 3 => .array .int
  | 4 => .int
  | 5 => .array .int
  | 6 => .array .boolean
  | 7 => .array .int
  | 8 => .int
  | 9 => .array .int
  | 10 => .int
  | 11 => .int
  | 12 => .int
  | 13 => .int
  | 14 => .int
  | 15 => .array .int
  | 16 => .int
  | 17 => .array .int
  | 18 => .int
  | 19 => .int
  | _ => .array .long
noncomputable abbrev wsX90 : List Cond := u_ws RX9 TX9 21
theorem nmX9 : ∀ a, a < 21 → ∀ b, b < 21 → a ≠ b → (TX9 a).2.1 ≠ (TX9 b).2.1 := by decide +kernel
theorem tyX9_ok : ∀ k, k < 21 → parseFieldDescriptor (TX9 k).2.2.1 = some (tyX9 k) := by decide +kernel
noncomputable abbrev cX9_init : ByteArray := prog_11_method_1_code
noncomputable def yX9_init : MethodName := ⟨RX9, "<init>", "()V"⟩
noncomputable abbrev cX9_in : ByteArray := prog_11_method_2_code
noncomputable def yX9_in : MethodName := ⟨RX9, "in", "(III)Z"⟩
noncomputable abbrev cX9_has : ByteArray := prog_11_method_3_code
noncomputable def yX9_has : MethodName := ⟨RX9, "has", "(II)Z"⟩
noncomputable abbrev cX9_begins : ByteArray := prog_11_method_4_code
noncomputable def yX9_begins : MethodName := ⟨RX9, "begins", "([II)V"⟩
noncomputable abbrev cX9_size : ByteArray := prog_11_method_5_code
noncomputable def yX9_size : MethodName := ⟨RX9, "size", "()I"⟩
noncomputable abbrev cX9_ff : ByteArray := prog_11_method_6_code
noncomputable def yX9_ff : MethodName := ⟨RX9, "ff", "(II)I"⟩
noncomputable abbrev cX9_gg : ByteArray := prog_11_method_7_code
noncomputable def yX9_gg : MethodName := ⟨RX9, "gg", "(I)I"⟩
noncomputable abbrev cX9_is : ByteArray := prog_11_method_8_code
noncomputable def yX9_is : MethodName := ⟨RX9, "is", "(I)Z"⟩
noncomputable abbrev cX9_type : ByteArray := prog_11_method_9_code
noncomputable def yX9_type : MethodName := ⟨RX9, "type", "(I)I"⟩
noncomputable abbrev cX9_clear : ByteArray := prog_11_method_10_code
noncomputable def yX9_clear : MethodName := ⟨RX9, "clear", "()I"⟩
noncomputable abbrev cX9_blanks : ByteArray := prog_11_method_11_code
noncomputable def yX9_blanks : MethodName := ⟨RX9, "blanks", "()V"⟩
noncomputable abbrev cX9_next : ByteArray := prog_11_method_12_code
noncomputable def yX9_next : MethodName := ⟨RX9, "next", "()V"⟩
noncomputable abbrev cX9_figure : ByteArray := prog_11_method_13_code
noncomputable def yX9_figure : MethodName := ⟨RX9, "figure", "(II)Z"⟩
noncomputable abbrev cX9_ends : ByteArray := prog_11_method_14_code
noncomputable def yX9_ends : MethodName := ⟨RX9, "ends", "()Z"⟩
noncomputable abbrev cX9_readsSize : ByteArray := prog_11_method_15_code
noncomputable def yX9_readsSize : MethodName := ⟨RX9, "readsSize", "()Z"⟩
noncomputable abbrev cX9_readsF : ByteArray := prog_11_method_16_code
noncomputable def yX9_readsF : MethodName := ⟨RX9, "readsF", "()Z"⟩
noncomputable abbrev cX9_readsG : ByteArray := prog_11_method_17_code
noncomputable def yX9_readsG : MethodName := ⟨RX9, "readsG", "()Z"⟩
noncomputable abbrev cX9_readsItem : ByteArray := prog_11_method_18_code
noncomputable def yX9_readsItem : MethodName := ⟨RX9, "readsItem", "()Z"⟩
noncomputable abbrev cX9_tables : ByteArray := prog_11_method_19_code
noncomputable def yX9_tables : MethodName := ⟨RX9, "tables", "()I"⟩
noncomputable abbrev cX9_f : ByteArray := prog_11_method_20_code
noncomputable def yX9_f : MethodName := ⟨RX9, "f", "(II)I"⟩
noncomputable abbrev cX9_g : ByteArray := prog_11_method_21_code
noncomputable def yX9_g : MethodName := ⟨RX9, "g", "(I)I"⟩
noncomputable abbrev cX9_sets : ByteArray := prog_11_method_22_code
noncomputable def yX9_sets : MethodName := ⟨RX9, "sets", "(III)I"⟩
noncomputable abbrev cX9_undo : ByteArray := prog_11_method_23_code
noncomputable def yX9_undo : MethodName := ⟨RX9, "undo", "()I"⟩
noncomputable abbrev cX9_wider : ByteArray := prog_11_method_24_code
noncomputable def yX9_wider : MethodName := ⟨RX9, "wider", "(I)I"⟩
noncomputable abbrev cX9_setMany : ByteArray := prog_11_method_25_code
noncomputable def yX9_setMany : MethodName := ⟨RX9, "setMany", "()I"⟩
noncomputable abbrev cX9_made : ByteArray := prog_11_method_26_code
noncomputable def yX9_made : MethodName := ⟨RX9, "made", "(I)I"⟩
noncomputable abbrev cX9_closedOf : ByteArray := prog_11_method_27_code
noncomputable def yX9_closedOf : MethodName := ⟨RX9, "closedOf", "(I)I"⟩
noncomputable abbrev cX9_closed : ByteArray := prog_11_method_28_code
noncomputable def yX9_closed : MethodName := ⟨RX9, "closed", "(I)I"⟩
noncomputable abbrev cX9_isSo : ByteArray := prog_11_method_29_code
noncomputable def yX9_isSo : MethodName := ⟨RX9, "isSo", "(IIII)Z"⟩
noncomputable abbrev cX9_named : ByteArray := prog_11_method_30_code
noncomputable def yX9_named : MethodName := ⟨RX9, "named", "(I)I"⟩
noncomputable abbrev cX9_firstOf : ByteArray := prog_11_method_31_code
noncomputable def yX9_firstOf : MethodName := ⟨RX9, "firstOf", "(I)I"⟩
noncomputable abbrev cX9_law : ByteArray := prog_11_method_32_code
noncomputable def yX9_law : MethodName := ⟨RX9, "law", "(I)I"⟩
noncomputable abbrev cX9_change : ByteArray := prog_11_method_33_code
noncomputable def yX9_change : MethodName := ⟨RX9, "change", "(I)I"⟩
noncomputable abbrev cX9_figureOf : ByteArray := prog_11_method_34_code
noncomputable def yX9_figureOf : MethodName := ⟨RX9, "figureOf", "(II)I"⟩
noncomputable abbrev cX9_isWith : ByteArray := prog_11_method_35_code
noncomputable def yX9_isWith : MethodName := ⟨RX9, "isWith", "(III)Z"⟩
noncomputable abbrev cX9_isPartition : ByteArray := prog_11_method_36_code
noncomputable def yX9_isPartition : MethodName := ⟨RX9, "isPartition", "(I)Z"⟩
noncomputable abbrev cX9_goesAlong : ByteArray := prog_11_method_37_code
noncomputable def yX9_goesAlong : MethodName := ⟨RX9, "goesAlong", "(I)Z"⟩
noncomputable abbrev cX9_layCongruences : ByteArray := prog_11_method_38_code
noncomputable def yX9_layCongruences : MethodName := ⟨RX9, "layCongruences", "()V"⟩
noncomputable abbrev cX9_nameOf : ByteArray := prog_11_method_39_code
noncomputable def yX9_nameOf : MethodName := ⟨RX9, "nameOf", "(I)I"⟩
noncomputable abbrev cX9_congruence : ByteArray := prog_11_method_40_code
noncomputable def yX9_congruence : MethodName := ⟨RX9, "congruence", "(I)I"⟩
noncomputable abbrev cX9_isFiner : ByteArray := prog_11_method_41_code
noncomputable def yX9_isFiner : MethodName := ⟨RX9, "isFiner", "(II)Z"⟩
noncomputable abbrev cX9_blocks : ByteArray := prog_11_method_42_code
noncomputable def yX9_blocks : MethodName := ⟨RX9, "blocks", "(I)I"⟩
noncomputable abbrev cX9_principal : ByteArray := prog_11_method_43_code
noncomputable def yX9_principal : MethodName := ⟨RX9, "principal", "(II)I"⟩
noncomputable abbrev cX9_between : ByteArray := prog_11_method_44_code
noncomputable def yX9_between : MethodName := ⟨RX9, "between", "(IIZ)I"⟩
noncomputable abbrev cX9_isThrough : ByteArray := prog_11_method_45_code
noncomputable def yX9_isThrough : MethodName := ⟨RX9, "isThrough", "(IIII)Z"⟩
noncomputable abbrev cX9_permute : ByteArray := prog_11_method_46_code
noncomputable def yX9_permute : MethodName := ⟨RX9, "permute", "(II)Z"⟩
noncomputable abbrev cX9_pair : ByteArray := prog_11_method_47_code
noncomputable def yX9_pair : MethodName := ⟨RX9, "pair", "(III)I"⟩
noncomputable abbrev cX9_to : ByteArray := prog_11_method_48_code
noncomputable def yX9_to : MethodName := ⟨RX9, "to", "(II)I"⟩
noncomputable abbrev cX9_isMap : ByteArray := prog_11_method_49_code
noncomputable def yX9_isMap : MethodName := ⟨RX9, "isMap", "(I)Z"⟩
noncomputable abbrev cX9_maps : ByteArray := prog_11_method_50_code
noncomputable def yX9_maps : MethodName := ⟨RX9, "maps", "(Z)I"⟩
noncomputable abbrev cX9_isTerm : ByteArray := prog_11_method_51_code
noncomputable def yX9_isTerm : MethodName := ⟨RX9, "isTerm", "(J)Z"⟩
noncomputable abbrev cX9_comes : ByteArray := prog_11_method_52_code
noncomputable def yX9_comes : MethodName := ⟨RX9, "comes", "(J)V"⟩
noncomputable abbrev cX9_fOf : ByteArray := prog_11_method_53_code
noncomputable def yX9_fOf : MethodName := ⟨RX9, "fOf", "(JJI)J"⟩
noncomputable abbrev cX9_gOf : ByteArray := prog_11_method_54_code
noncomputable def yX9_gOf : MethodName := ⟨RX9, "gOf", "(JI)J"⟩
noncomputable abbrev cX9_goesRound : ByteArray := prog_11_method_55_code
noncomputable def yX9_goesRound : MethodName := ⟨RX9, "goesRound", "(I)Z"⟩
noncomputable abbrev cX9_letterRow : ByteArray := prog_11_method_56_code
noncomputable def yX9_letterRow : MethodName := ⟨RX9, "letterRow", "(II)J"⟩
noncomputable abbrev cX9_free : ByteArray := prog_11_method_57_code
noncomputable def yX9_free : MethodName := ⟨RX9, "free", "(II)I"⟩
noncomputable abbrev cX9_term : ByteArray := prog_11_method_58_code
noncomputable def yX9_term : MethodName := ⟨RX9, "term", "(I)I"⟩
noncomputable abbrev cX9_sees : ByteArray := prog_11_method_59_code
noncomputable def yX9_sees : MethodName := ⟨RX9, "sees", "(I)I"⟩
noncomputable abbrev cX9_forget : ByteArray := prog_11_method_60_code
noncomputable def yX9_forget : MethodName := ⟨RX9, "forget", "()I"⟩
noncomputable abbrev cX9_isSeen : ByteArray := prog_11_method_61_code
noncomputable def yX9_isSeen : MethodName := ⟨RX9, "isSeen", "(I)Z"⟩
noncomputable abbrev cX9_unseen : ByteArray := prog_11_method_62_code
noncomputable def yX9_unseen : MethodName := ⟨RX9, "unseen", "()I"⟩
noncomputable abbrev cX9_keep : ByteArray := prog_11_method_63_code
noncomputable def yX9_keep : MethodName := ⟨RX9, "keep", "(I)I"⟩
noncomputable abbrev cX9_back : ByteArray := prog_11_method_64_code
noncomputable def yX9_back : MethodName := ⟨RX9, "back", "(I)I"⟩
noncomputable abbrev cX9_holding : ByteArray := prog_11_method_65_code
noncomputable def yX9_holding : MethodName := ⟨RX9, "holding", "()I"⟩
noncomputable abbrev cX9_count : ByteArray := prog_11_method_66_code
noncomputable def yX9_count : MethodName := ⟨RX9, "count", "(I)I"⟩
noncomputable def RJ9 : String := "java/lang/Math"
noncomputable def TJ9 : u_T := fun k => match k with
  | _ => ("", "", "", false)
noncomputable def tyJ9 : Nat → FieldType := fun k => match k with
  | _ => .int
noncomputable abbrev wsJ90 : List Cond := u_ws RJ9 TJ9 0
theorem nmJ9 : ∀ a, a < 0 → ∀ b, b < 0 → a ≠ b → (TJ9 a).2.1 ≠ (TJ9 b).2.1 := by decide +kernel
theorem tyJ9_ok : ∀ k, k < 0 → parseFieldDescriptor (TJ9 k).2.2.1 = some (tyJ9 k) := by decide +kernel
noncomputable abbrev cJ9_max_7cf53 : ByteArray := prog_12_method_65_code
noncomputable def yJ9_max_7cf53 : MethodName := ⟨RJ9, "max", "(II)I"⟩
noncomputable def RJ10 : String := "java/lang/System"
noncomputable def TJ10 : u_T := fun k => match k with
  | _ => ("", "", "", false)
noncomputable def tyJ10 : Nat → FieldType := fun k => match k with
  | _ => .int
noncomputable abbrev wsJ100 : List Cond := u_ws RJ10 TJ10 0
theorem nmJ10 : ∀ a, a < 0 → ∀ b, b < 0 → a ≠ b → (TJ10 a).2.1 ≠ (TJ10 b).2.1 := by decide +kernel
theorem tyJ10_ok : ∀ k, k < 0 → parseFieldDescriptor (TJ10 k).2.2.1 = some (tyJ10 k) := by decide +kernel
noncomputable def RJ7 : String := "java/util/Arrays"
noncomputable def TJ7 : u_T := fun k => match k with
  | _ => ("", "", "", false)
noncomputable def tyJ7 : Nat → FieldType := fun k => match k with
  | _ => .int
noncomputable abbrev wsJ70 : List Cond := u_ws RJ7 TJ7 0
theorem nmJ7 : ∀ a, a < 0 → ∀ b, b < 0 → a ≠ b → (TJ7 a).2.1 ≠ (TJ7 b).2.1 := by decide +kernel
theorem tyJ7_ok : ∀ k, k < 0 → parseFieldDescriptor (TJ7 k).2.2.1 = some (tyJ7 k) := by decide +kernel
noncomputable abbrev cJ7_fill_53178 : ByteArray := prog_14_method_103_code
noncomputable def yJ7_fill_53178 : MethodName := ⟨RJ7, "fill", "([II)V"⟩
noncomputable def RL : String := "AlgebraLawsLaw"
noncomputable abbrev cL_law : ByteArray := code
noncomputable def yL_law : MethodName := ⟨RL, "law", "([I)Z"⟩
noncomputable def wsX6_placeOfOne : List Cond := .code yX6_placeOfOne cX6_placeOfOne 1 (some .int) :: ([])
noncomputable def wsX6_one : List Cond := .code yX6_one cX6_one 2 (some .int) :: ([.fieldLink RX6 9 "AlgebraLaws$Tables" "values" "[I", .methodLink RX6 21 yX6_placeOfOne, .static yX6_placeOfOne, .initialized RX6, .code yX6_placeOfOne cX6_placeOfOne 1 (some .int)] ++ wsX60)
noncomputable def wsX6_placeOfTwo : List Cond := .code yX6_placeOfTwo cX6_placeOfTwo 2 (some .int) :: ([])
noncomputable def wsX6_two : List Cond := .code yX6_two cX6_two 3 (some .int) :: ([.fieldLink RX6 9 "AlgebraLaws$Tables" "values" "[I", .methodLink RX6 17 yX6_placeOfTwo, .static yX6_placeOfTwo, .initialized RX6, .code yX6_placeOfTwo cX6_placeOfTwo 2 (some .int)] ++ wsX60)
noncomputable def wsX0_valuesIn : List Cond := .code yX0_valuesIn cX0_valuesIn 5 (some .int) :: ([.fieldLink RX0 25 "AlgebraLaws$Tables" "size" "I", .methodLink RX0 29 yX6_one, .instanceMethod yX6_one, .selects RX6 yX6_one yX6_one, .initialized RX6, .code yX6_one cX6_one 2 (some .int), .fieldLink RX6 9 "AlgebraLaws$Tables" "values" "[I", .methodLink RX6 21 yX6_placeOfOne, .static yX6_placeOfOne, .code yX6_placeOfOne cX6_placeOfOne 1 (some .int), .methodLink RX0 33 yX6_two, .instanceMethod yX6_two, .selects RX6 yX6_two yX6_two, .code yX6_two cX6_two 3 (some .int), .methodLink RX6 17 yX6_placeOfTwo, .static yX6_placeOfTwo, .code yX6_placeOfTwo cX6_placeOfTwo 2 (some .int)] ++ wsX60)
noncomputable def wsX0_leastAround : List Cond := .code yX0_leastAround cX0_leastAround 4 (some .int) :: ([.methodLink RX0 11 yX0_valuesIn, .static yX0_valuesIn, .initialized RX0, .code yX0_valuesIn cX0_valuesIn 5 (some .int), .fieldLink RX0 25 "AlgebraLaws$Tables" "size" "I", .methodLink RX0 29 yX6_one, .instanceMethod yX6_one, .selects RX6 yX6_one yX6_one, .initialized RX6, .code yX6_one cX6_one 2 (some .int), .fieldLink RX6 9 "AlgebraLaws$Tables" "values" "[I", .methodLink RX6 21 yX6_placeOfOne, .static yX6_placeOfOne, .code yX6_placeOfOne cX6_placeOfOne 1 (some .int), .methodLink RX0 33 yX6_two, .instanceMethod yX6_two, .selects RX6 yX6_two yX6_two, .code yX6_two cX6_two 3 (some .int), .methodLink RX6 17 yX6_placeOfTwo, .static yX6_placeOfTwo, .code yX6_placeOfTwo cX6_placeOfTwo 2 (some .int)] ++ wsX60)
noncomputable def wsX6_allElements : List Cond := .code yX6_allElements cX6_allElements 1 (some .int) :: ([.fieldLink RX6 13 "AlgebraLaws$Tables" "size" "I"] ++ wsX60)
noncomputable def wsX0_isClosed : List Cond := .code yX0_isClosed cX0_isClosed 2 (some .boolean) :: ([.methodLink RX0 11 yX0_valuesIn, .static yX0_valuesIn, .initialized RX0, .code yX0_valuesIn cX0_valuesIn 5 (some .int), .fieldLink RX0 25 "AlgebraLaws$Tables" "size" "I", .methodLink RX0 29 yX6_one, .instanceMethod yX6_one, .selects RX6 yX6_one yX6_one, .initialized RX6, .code yX6_one cX6_one 2 (some .int), .fieldLink RX6 9 "AlgebraLaws$Tables" "values" "[I", .methodLink RX6 21 yX6_placeOfOne, .static yX6_placeOfOne, .code yX6_placeOfOne cX6_placeOfOne 1 (some .int), .methodLink RX0 33 yX6_two, .instanceMethod yX6_two, .selects RX6 yX6_two yX6_two, .code yX6_two cX6_two 3 (some .int), .methodLink RX6 17 yX6_placeOfTwo, .static yX6_placeOfTwo, .code yX6_placeOfTwo cX6_placeOfTwo 2 (some .int)] ++ wsX60)
noncomputable def wsX0_byNumber_r1 : List Cond := [Cond.methodLink RX0 17 yX6_allElements, Cond.instanceMethod yX6_allElements, Cond.selects RX6 yX6_allElements yX6_allElements, Cond.initialized RX6, Cond.code yX6_allElements cX6_allElements 1 (some .int), Cond.fieldLink RX6 13 "AlgebraLaws$Tables" "size" "I", Cond.methodLink RX0 21 yX0_isClosed, Cond.static yX0_isClosed, Cond.initialized RX0, Cond.code yX0_isClosed cX0_isClosed 2 (some .boolean), Cond.methodLink RX0 11 yX0_valuesIn, Cond.static yX0_valuesIn, Cond.code yX0_valuesIn cX0_valuesIn 5 (some .int), Cond.fieldLink RX0 25 "AlgebraLaws$Tables" "size" "I", Cond.methodLink RX0 29 yX6_one, Cond.instanceMethod yX6_one, Cond.selects RX6 yX6_one yX6_one, Cond.code yX6_one cX6_one 2 (some .int), Cond.fieldLink RX6 9 "AlgebraLaws$Tables" "values" "[I", Cond.methodLink RX6 21 yX6_placeOfOne, Cond.static yX6_placeOfOne, Cond.code yX6_placeOfOne cX6_placeOfOne 1 (some .int), Cond.methodLink RX0 33 yX6_two, Cond.instanceMethod yX6_two]
noncomputable def wsX0_byNumber_r2 : List Cond := [Cond.selects RX6 yX6_two yX6_two, Cond.code yX6_two cX6_two 3 (some .int), Cond.methodLink RX6 17 yX6_placeOfTwo, Cond.static yX6_placeOfTwo, Cond.code yX6_placeOfTwo cX6_placeOfTwo 2 (some .int)]
noncomputable def wsX0_byNumber : List Cond := .code yX0_byNumber cX0_byNumber 4 (some .int) :: ((wsX0_byNumber_r1 ++ wsX0_byNumber_r2) ++ wsX60)
noncomputable def wsX0_howMany_r1 : List Cond := [Cond.methodLink RX0 17 yX6_allElements, Cond.instanceMethod yX6_allElements, Cond.selects RX6 yX6_allElements yX6_allElements, Cond.initialized RX6, Cond.code yX6_allElements cX6_allElements 1 (some .int), Cond.fieldLink RX6 13 "AlgebraLaws$Tables" "size" "I", Cond.methodLink RX0 21 yX0_isClosed, Cond.static yX0_isClosed, Cond.initialized RX0, Cond.code yX0_isClosed cX0_isClosed 2 (some .boolean), Cond.methodLink RX0 11 yX0_valuesIn, Cond.static yX0_valuesIn, Cond.code yX0_valuesIn cX0_valuesIn 5 (some .int), Cond.fieldLink RX0 25 "AlgebraLaws$Tables" "size" "I", Cond.methodLink RX0 29 yX6_one, Cond.instanceMethod yX6_one, Cond.selects RX6 yX6_one yX6_one, Cond.code yX6_one cX6_one 2 (some .int), Cond.fieldLink RX6 9 "AlgebraLaws$Tables" "values" "[I", Cond.methodLink RX6 21 yX6_placeOfOne, Cond.static yX6_placeOfOne, Cond.code yX6_placeOfOne cX6_placeOfOne 1 (some .int), Cond.methodLink RX0 33 yX6_two, Cond.instanceMethod yX6_two]
noncomputable def wsX0_howMany_r2 : List Cond := [Cond.selects RX6 yX6_two yX6_two, Cond.code yX6_two cX6_two 3 (some .int), Cond.methodLink RX6 17 yX6_placeOfTwo, Cond.static yX6_placeOfTwo, Cond.code yX6_placeOfTwo cX6_placeOfTwo 2 (some .int)]
noncomputable def wsX0_howMany : List Cond := .code yX0_howMany cX0_howMany 3 (some .int) :: ((wsX0_howMany_r1 ++ wsX0_howMany_r2) ++ wsX60)
noncomputable def wsX1_init : List Cond := .code yX1_init cX1_init 1 none :: ([.methodLink RX1 1 objectInit, .instanceMethod objectInit, .code objectInit ⟨#[0xb1]⟩ 1 none, .fieldLink RX1 7 "AlgebraLaws$Congruences" "PARTITIONS" "[I", .arrayClass .int, .fieldLink RX1 13 "AlgebraLaws$Congruences" "partitions" "[I"] ++ wsX10)
noncomputable def wsX1_least : List Cond := .code yX1_least cX1_least 2 (some .int) :: ([])
noncomputable def wsX1_isOfFirst : List Cond := .code yX1_isOfFirst cX1_isOfFirst 3 (some .boolean) :: ([.methodLink RX1 42 yX1_least, .static yX1_least, .initialized RX1, .code yX1_least cX1_least 2 (some .int)])
noncomputable def wsX1_together : List Cond := .code yX1_together cX1_together 3 (some .boolean) :: ([.methodLink RX1 42 yX1_least, .static yX1_least, .initialized RX1, .code yX1_least cX1_least 2 (some .int)])
noncomputable def wsX1_goesAlong : List Cond := .code yX1_goesAlong cX1_goesAlong 5 (some .boolean) :: ([.fieldLink RX1 16 "AlgebraLaws$Tables" "size" "I", .methodLink RX1 42 yX1_least, .static yX1_least, .initialized RX1, .code yX1_least cX1_least 2 (some .int), .methodLink RX1 57 yX6_one, .instanceMethod yX6_one, .selects RX6 yX6_one yX6_one, .initialized RX6, .code yX6_one cX6_one 2 (some .int), .fieldLink RX6 9 "AlgebraLaws$Tables" "values" "[I", .methodLink RX6 21 yX6_placeOfOne, .static yX6_placeOfOne, .code yX6_placeOfOne cX6_placeOfOne 1 (some .int), .methodLink RX1 46 yX1_together, .static yX1_together, .code yX1_together cX1_together 3 (some .boolean), .methodLink RX1 60 yX6_two, .instanceMethod yX6_two, .selects RX6 yX6_two yX6_two, .code yX6_two cX6_two 3 (some .int), .methodLink RX6 17 yX6_placeOfTwo, .static yX6_placeOfTwo, .code yX6_placeOfTwo cX6_placeOfTwo 2 (some .int)] ++ wsX60)
noncomputable def wsX1_seekIn_r1 : List Cond := [Cond.fieldLink RX1 16 "AlgebraLaws$Tables" "size" "I", Cond.fieldLink RX1 22 "AlgebraLaws$Congruences" "size" "I", Cond.fieldLink RX1 23 "AlgebraLaws$Congruences" "found" "I", Cond.fieldLink RX1 7 "AlgebraLaws$Congruences" "PARTITIONS" "[I", Cond.fieldLink RX1 13 "AlgebraLaws$Congruences" "partitions" "[I", Cond.methodLink RX1 26 yX1_isOfFirst, Cond.static yX1_isOfFirst, Cond.initialized RX1, Cond.code yX1_isOfFirst cX1_isOfFirst 3 (some .boolean), Cond.methodLink RX1 42 yX1_least, Cond.static yX1_least, Cond.code yX1_least cX1_least 2 (some .int), Cond.methodLink RX1 30 yX1_goesAlong, Cond.static yX1_goesAlong, Cond.code yX1_goesAlong cX1_goesAlong 5 (some .boolean), Cond.methodLink RX1 57 yX6_one, Cond.instanceMethod yX6_one, Cond.selects RX6 yX6_one yX6_one, Cond.initialized RX6, Cond.code yX6_one cX6_one 2 (some .int), Cond.fieldLink RX6 9 "AlgebraLaws$Tables" "values" "[I", Cond.methodLink RX6 21 yX6_placeOfOne, Cond.static yX6_placeOfOne, Cond.code yX6_placeOfOne cX6_placeOfOne 1 (some .int)]
noncomputable def wsX1_seekIn_r2 : List Cond := [Cond.methodLink RX1 46 yX1_together, Cond.static yX1_together, Cond.code yX1_together cX1_together 3 (some .boolean), Cond.methodLink RX1 60 yX6_two, Cond.instanceMethod yX6_two, Cond.selects RX6 yX6_two yX6_two, Cond.code yX6_two cX6_two 3 (some .int), Cond.methodLink RX6 17 yX6_placeOfTwo, Cond.static yX6_placeOfTwo, Cond.code yX6_placeOfTwo cX6_placeOfTwo 2 (some .int)]
noncomputable def wsX1_seekIn : List Cond := .code yX1_seekIn cX1_seekIn 3 none :: ((wsX1_seekIn_r1 ++ wsX1_seekIn_r2) ++ wsX60 ++ wsX10)
noncomputable def wsX1_isThere : List Cond := .code yX1_isThere cX1_isThere 2 (some .boolean) :: ([.fieldLink RX1 23 "AlgebraLaws$Congruences" "found" "I", .fieldLink RX1 13 "AlgebraLaws$Congruences" "partitions" "[I"] ++ wsX10)
noncomputable def wsX1_partition : List Cond := .code yX1_partition cX1_partition 2 (some .int) :: ([.fieldLink RX1 13 "AlgebraLaws$Congruences" "partitions" "[I", .methodLink RX1 34 yX1_isThere, .instanceMethod yX1_isThere, .selects RX1 yX1_isThere yX1_isThere, .initialized RX1, .code yX1_isThere cX1_isThere 2 (some .boolean), .fieldLink RX1 23 "AlgebraLaws$Congruences" "found" "I"] ++ wsX10)
noncomputable def wsX1_nameOf : List Cond := .code yX1_nameOf cX1_nameOf 4 (some .int) :: ([.fieldLink RX1 22 "AlgebraLaws$Congruences" "size" "I", .methodLink RX1 38 yX1_partition, .instanceMethod yX1_partition, .selects RX1 yX1_partition yX1_partition, .initialized RX1, .code yX1_partition cX1_partition 2 (some .int), .fieldLink RX1 13 "AlgebraLaws$Congruences" "partitions" "[I", .methodLink RX1 34 yX1_isThere, .instanceMethod yX1_isThere, .selects RX1 yX1_isThere yX1_isThere, .code yX1_isThere cX1_isThere 2 (some .boolean), .fieldLink RX1 23 "AlgebraLaws$Congruences" "found" "I", .methodLink RX1 42 yX1_least, .static yX1_least, .code yX1_least cX1_least 2 (some .int)] ++ wsX10)
noncomputable def wsX1_finestWith : List Cond := .code yX1_finestWith cX1_finestWith 4 (some .int) :: ([.fieldLink RX1 23 "AlgebraLaws$Congruences" "found" "I", .methodLink RX1 38 yX1_partition, .instanceMethod yX1_partition, .selects RX1 yX1_partition yX1_partition, .initialized RX1, .code yX1_partition cX1_partition 2 (some .int), .fieldLink RX1 13 "AlgebraLaws$Congruences" "partitions" "[I", .methodLink RX1 34 yX1_isThere, .instanceMethod yX1_isThere, .selects RX1 yX1_isThere yX1_isThere, .code yX1_isThere cX1_isThere 2 (some .boolean), .methodLink RX1 46 yX1_together, .static yX1_together, .code yX1_together cX1_together 3 (some .boolean), .methodLink RX1 42 yX1_least, .static yX1_least, .code yX1_least cX1_least 2 (some .int)] ++ wsX10)
noncomputable def wsX1_isFiner : List Cond := .code yX1_isFiner cX1_isFiner 4 (some .boolean) :: ([.fieldLink RX1 22 "AlgebraLaws$Congruences" "size" "I", .methodLink RX1 38 yX1_partition, .instanceMethod yX1_partition, .selects RX1 yX1_partition yX1_partition, .initialized RX1, .code yX1_partition cX1_partition 2 (some .int), .fieldLink RX1 13 "AlgebraLaws$Congruences" "partitions" "[I", .methodLink RX1 34 yX1_isThere, .instanceMethod yX1_isThere, .selects RX1 yX1_isThere yX1_isThere, .code yX1_isThere cX1_isThere 2 (some .boolean), .fieldLink RX1 23 "AlgebraLaws$Congruences" "found" "I", .methodLink RX1 42 yX1_least, .static yX1_least, .code yX1_least cX1_least 2 (some .int), .methodLink RX1 46 yX1_together, .static yX1_together, .code yX1_together cX1_together 3 (some .boolean)] ++ wsX10)
noncomputable def wsX1_join : List Cond := .code yX1_join cX1_join 4 (some .int) :: ([.fieldLink RX1 23 "AlgebraLaws$Congruences" "found" "I", .methodLink RX1 50 yX1_isFiner, .instanceMethod yX1_isFiner, .selects RX1 yX1_isFiner yX1_isFiner, .initialized RX1, .code yX1_isFiner cX1_isFiner 4 (some .boolean), .fieldLink RX1 22 "AlgebraLaws$Congruences" "size" "I", .methodLink RX1 38 yX1_partition, .instanceMethod yX1_partition, .selects RX1 yX1_partition yX1_partition, .code yX1_partition cX1_partition 2 (some .int), .fieldLink RX1 13 "AlgebraLaws$Congruences" "partitions" "[I", .methodLink RX1 34 yX1_isThere, .instanceMethod yX1_isThere, .selects RX1 yX1_isThere yX1_isThere, .code yX1_isThere cX1_isThere 2 (some .boolean), .methodLink RX1 42 yX1_least, .static yX1_least, .code yX1_least cX1_least 2 (some .int), .methodLink RX1 46 yX1_together, .static yX1_together, .code yX1_together cX1_together 3 (some .boolean)] ++ wsX10)
noncomputable def wsX1_meet : List Cond := .code yX1_meet cX1_meet 4 (some .int) :: ([.fieldLink RX1 23 "AlgebraLaws$Congruences" "found" "I", .methodLink RX1 50 yX1_isFiner, .instanceMethod yX1_isFiner, .selects RX1 yX1_isFiner yX1_isFiner, .initialized RX1, .code yX1_isFiner cX1_isFiner 4 (some .boolean), .fieldLink RX1 22 "AlgebraLaws$Congruences" "size" "I", .methodLink RX1 38 yX1_partition, .instanceMethod yX1_partition, .selects RX1 yX1_partition yX1_partition, .code yX1_partition cX1_partition 2 (some .int), .fieldLink RX1 13 "AlgebraLaws$Congruences" "partitions" "[I", .methodLink RX1 34 yX1_isThere, .instanceMethod yX1_isThere, .selects RX1 yX1_isThere yX1_isThere, .code yX1_isThere cX1_isThere 2 (some .boolean), .methodLink RX1 42 yX1_least, .static yX1_least, .code yX1_least cX1_least 2 (some .int), .methodLink RX1 46 yX1_together, .static yX1_together, .code yX1_together cX1_together 3 (some .boolean)] ++ wsX10)
noncomputable def wsX1_isLinked : List Cond := .code yX1_isLinked cX1_isLinked 6 (some .boolean) :: ([.fieldLink RX1 22 "AlgebraLaws$Congruences" "size" "I", .methodLink RX1 38 yX1_partition, .instanceMethod yX1_partition, .selects RX1 yX1_partition yX1_partition, .initialized RX1, .code yX1_partition cX1_partition 2 (some .int), .fieldLink RX1 13 "AlgebraLaws$Congruences" "partitions" "[I", .methodLink RX1 34 yX1_isThere, .instanceMethod yX1_isThere, .selects RX1 yX1_isThere yX1_isThere, .code yX1_isThere cX1_isThere 2 (some .boolean), .fieldLink RX1 23 "AlgebraLaws$Congruences" "found" "I", .methodLink RX1 46 yX1_together, .static yX1_together, .code yX1_together cX1_together 3 (some .boolean), .methodLink RX1 42 yX1_least, .static yX1_least, .code yX1_least cX1_least 2 (some .int)] ++ wsX10)
noncomputable def wsX1_permute : List Cond := .code yX1_permute cX1_permute 5 (some .boolean) :: ([.fieldLink RX1 22 "AlgebraLaws$Congruences" "size" "I", .methodLink RX1 53 yX1_isLinked, .instanceMethod yX1_isLinked, .selects RX1 yX1_isLinked yX1_isLinked, .initialized RX1, .code yX1_isLinked cX1_isLinked 6 (some .boolean), .methodLink RX1 38 yX1_partition, .instanceMethod yX1_partition, .selects RX1 yX1_partition yX1_partition, .code yX1_partition cX1_partition 2 (some .int), .fieldLink RX1 13 "AlgebraLaws$Congruences" "partitions" "[I", .methodLink RX1 34 yX1_isThere, .instanceMethod yX1_isThere, .selects RX1 yX1_isThere yX1_isThere, .code yX1_isThere cX1_isThere 2 (some .boolean), .fieldLink RX1 23 "AlgebraLaws$Congruences" "found" "I", .methodLink RX1 46 yX1_together, .static yX1_together, .code yX1_together cX1_together 3 (some .boolean), .methodLink RX1 42 yX1_least, .static yX1_least, .code yX1_least cX1_least 2 (some .int)] ++ wsX10)
noncomputable def wsX2_init : List Cond := .code yX2_init cX2_init 1 none :: ([.methodLink RX2 1 objectInit, .instanceMethod objectInit, .code objectInit ⟨#[0xb1]⟩ 1 none, .arrayClass .int, .fieldLink RX2 9 "AlgebraLaws$History" "places" "[I", .fieldLink RX2 13 "AlgebraLaws$History" "values" "[I"] ++ wsX20)
noncomputable def wsX2_loseAll : List Cond := .code yX2_loseAll cX2_loseAll 1 none :: ([.fieldLink RX2 16 "AlgebraLaws$History" "known" "I"] ++ wsX20)
noncomputable def wsX2_loseOldest : List Cond := .code yX2_loseOldest cX2_loseOldest 1 none :: ([.fieldLink RX2 9 "AlgebraLaws$History" "places" "[I", .methodLink RX2 23 arraycopyName, .native arraycopyName, .static arraycopyName, .initialized "java/lang/System", .fieldLink RX2 13 "AlgebraLaws$History" "values" "[I", .fieldLink RX2 16 "AlgebraLaws$History" "known" "I"] ++ wsX20)
noncomputable def wsX2_note : List Cond := .code yX2_note cX2_note 3 none :: ([.fieldLink RX2 16 "AlgebraLaws$History" "known" "I", .fieldLink RX2 9 "AlgebraLaws$History" "places" "[I", .fieldLink RX2 13 "AlgebraLaws$History" "values" "[I", .methodLink RX2 20 yX2_loseOldest, .instanceMethod yX2_loseOldest, .selects RX2 yX2_loseOldest yX2_loseOldest, .initialized RX2, .code yX2_loseOldest cX2_loseOldest 1 none, .methodLink RX2 23 arraycopyName, .native arraycopyName, .static arraycopyName, .initialized "java/lang/System"] ++ wsX20)
noncomputable def wsX6_put : List Cond := .code yX6_put cX6_put 3 none :: ([.fieldLink RX6 9 "AlgebraLaws$Tables" "values" "[I"] ++ wsX60)
noncomputable def wsX2_takeBackIn : List Cond := .code yX2_takeBackIn cX2_takeBackIn 2 none :: ([.fieldLink RX2 16 "AlgebraLaws$History" "known" "I", .fieldLink RX2 9 "AlgebraLaws$History" "places" "[I", .fieldLink RX2 13 "AlgebraLaws$History" "values" "[I", .methodLink RX2 29 yX6_put, .instanceMethod yX6_put, .selects RX6 yX6_put yX6_put, .initialized RX6, .code yX6_put cX6_put 3 none, .fieldLink RX6 9 "AlgebraLaws$Tables" "values" "[I"] ++ wsX20 ++ wsX60)
noncomputable def wsX3_isThere : List Cond := .code yX3_isThere cX3_isThere 1 (some .boolean) :: ([])
noncomputable def wsX3_isSo : List Cond := .code yX3_isSo cX3_isSo 5 (some .boolean) :: ([.methodLink RX3 25 yX6_two, .instanceMethod yX6_two, .selects RX6 yX6_two yX6_two, .initialized RX6, .code yX6_two cX6_two 3 (some .int), .fieldLink RX6 9 "AlgebraLaws$Tables" "values" "[I", .methodLink RX6 17 yX6_placeOfTwo, .static yX6_placeOfTwo, .code yX6_placeOfTwo cX6_placeOfTwo 2 (some .int), .methodLink RX3 29 yX6_one, .instanceMethod yX6_one, .selects RX6 yX6_one yX6_one, .code yX6_one cX6_one 2 (some .int), .methodLink RX6 21 yX6_placeOfOne, .static yX6_placeOfOne, .code yX6_placeOfOne cX6_placeOfOne 1 (some .int)] ++ wsX60)
noncomputable def wsX3_firstAgainst : List Cond := .code yX3_firstAgainst cX3_firstAgainst 7 (some .int) :: ([.fieldLink RX3 15 "AlgebraLaws$Tables" "size" "I", .methodLink RX3 21 yX3_isSo, .static yX3_isSo, .initialized RX3, .code yX3_isSo cX3_isSo 5 (some .boolean), .methodLink RX3 25 yX6_two, .instanceMethod yX6_two, .selects RX6 yX6_two yX6_two, .initialized RX6, .code yX6_two cX6_two 3 (some .int), .fieldLink RX6 9 "AlgebraLaws$Tables" "values" "[I", .methodLink RX6 17 yX6_placeOfTwo, .static yX6_placeOfTwo, .code yX6_placeOfTwo cX6_placeOfTwo 2 (some .int), .methodLink RX3 29 yX6_one, .instanceMethod yX6_one, .selects RX6 yX6_one yX6_one, .code yX6_one cX6_one 2 (some .int), .methodLink RX6 21 yX6_placeOfOne, .static yX6_placeOfOne, .code yX6_placeOfOne cX6_placeOfOne 1 (some .int)] ++ wsX60)
noncomputable def wsX3_holds : List Cond := .code yX3_holds cX3_holds 2 (some .boolean) :: ([.methodLink RX3 11 yX3_firstAgainst, .static yX3_firstAgainst, .initialized RX3, .code yX3_firstAgainst cX3_firstAgainst 7 (some .int), .fieldLink RX3 15 "AlgebraLaws$Tables" "size" "I", .methodLink RX3 21 yX3_isSo, .static yX3_isSo, .code yX3_isSo cX3_isSo 5 (some .boolean), .methodLink RX3 25 yX6_two, .instanceMethod yX6_two, .selects RX6 yX6_two yX6_two, .initialized RX6, .code yX6_two cX6_two 3 (some .int), .fieldLink RX6 9 "AlgebraLaws$Tables" "values" "[I", .methodLink RX6 17 yX6_placeOfTwo, .static yX6_placeOfTwo, .code yX6_placeOfTwo cX6_placeOfTwo 2 (some .int), .methodLink RX3 29 yX6_one, .instanceMethod yX6_one, .selects RX6 yX6_one yX6_one, .code yX6_one cX6_one 2 (some .int), .methodLink RX6 21 yX6_placeOfOne, .static yX6_placeOfOne, .code yX6_placeOfOne cX6_placeOfOne 1 (some .int)] ++ wsX60)
noncomputable def wsX3_thatHold_r1 : List Cond := [Cond.methodLink RX3 33 yX3_holds, Cond.static yX3_holds, Cond.initialized RX3, Cond.code yX3_holds cX3_holds 2 (some .boolean), Cond.methodLink RX3 11 yX3_firstAgainst, Cond.static yX3_firstAgainst, Cond.code yX3_firstAgainst cX3_firstAgainst 7 (some .int), Cond.fieldLink RX3 15 "AlgebraLaws$Tables" "size" "I", Cond.methodLink RX3 21 yX3_isSo, Cond.static yX3_isSo, Cond.code yX3_isSo cX3_isSo 5 (some .boolean), Cond.methodLink RX3 25 yX6_two, Cond.instanceMethod yX6_two, Cond.selects RX6 yX6_two yX6_two, Cond.initialized RX6, Cond.code yX6_two cX6_two 3 (some .int), Cond.fieldLink RX6 9 "AlgebraLaws$Tables" "values" "[I", Cond.methodLink RX6 17 yX6_placeOfTwo, Cond.static yX6_placeOfTwo, Cond.code yX6_placeOfTwo cX6_placeOfTwo 2 (some .int), Cond.methodLink RX3 29 yX6_one, Cond.instanceMethod yX6_one, Cond.selects RX6 yX6_one yX6_one, Cond.code yX6_one cX6_one 2 (some .int)]
noncomputable def wsX3_thatHold_r2 : List Cond := [Cond.methodLink RX6 21 yX6_placeOfOne, Cond.static yX6_placeOfOne, Cond.code yX6_placeOfOne cX6_placeOfOne 1 (some .int)]
noncomputable def wsX3_thatHold : List Cond := .code yX3_thatHold cX3_thatHold 3 (some .int) :: ((wsX3_thatHold_r1 ++ wsX3_thatHold_r2) ++ wsX60)
noncomputable def wsX6_at : List Cond := .code yX6_at cX6_at 2 (some .int) :: ([.fieldLink RX6 9 "AlgebraLaws$Tables" "values" "[I"] ++ wsX60)
noncomputable def wsX3_leastValue_r1 : List Cond := [Cond.fieldLink RX3 15 "AlgebraLaws$Tables" "size" "I", Cond.methodLink RX3 44 yX6_at, Cond.instanceMethod yX6_at, Cond.selects RX6 yX6_at yX6_at, Cond.initialized RX6, Cond.code yX6_at cX6_at 2 (some .int), Cond.fieldLink RX6 9 "AlgebraLaws$Tables" "values" "[I", Cond.methodLink RX3 47 yX6_put, Cond.instanceMethod yX6_put, Cond.selects RX6 yX6_put yX6_put, Cond.code yX6_put cX6_put 3 none, Cond.methodLink RX3 33 yX3_holds, Cond.static yX3_holds, Cond.initialized RX3, Cond.code yX3_holds cX3_holds 2 (some .boolean), Cond.methodLink RX3 11 yX3_firstAgainst, Cond.static yX3_firstAgainst, Cond.code yX3_firstAgainst cX3_firstAgainst 7 (some .int), Cond.methodLink RX3 21 yX3_isSo, Cond.static yX3_isSo, Cond.code yX3_isSo cX3_isSo 5 (some .boolean), Cond.methodLink RX3 25 yX6_two, Cond.instanceMethod yX6_two, Cond.selects RX6 yX6_two yX6_two]
noncomputable def wsX3_leastValue_r2 : List Cond := [Cond.code yX6_two cX6_two 3 (some .int), Cond.methodLink RX6 17 yX6_placeOfTwo, Cond.static yX6_placeOfTwo, Cond.code yX6_placeOfTwo cX6_placeOfTwo 2 (some .int), Cond.methodLink RX3 29 yX6_one, Cond.instanceMethod yX6_one, Cond.selects RX6 yX6_one yX6_one, Cond.code yX6_one cX6_one 2 (some .int), Cond.methodLink RX6 21 yX6_placeOfOne, Cond.static yX6_placeOfOne, Cond.code yX6_placeOfOne cX6_placeOfOne 1 (some .int)]
noncomputable def wsX3_leastValue : List Cond := .code yX3_leastValue cX3_leastValue 6 (some .int) :: ((wsX3_leastValue_r1 ++ wsX3_leastValue_r2) ++ wsX60)
noncomputable def wsX3_leastChange_r1 : List Cond := [Cond.fieldLink RX3 15 "AlgebraLaws$Tables" "size" "I", Cond.methodLink RX3 37 yX6_placeOfTwo, Cond.static yX6_placeOfTwo, Cond.initialized RX6, Cond.code yX6_placeOfTwo cX6_placeOfTwo 2 (some .int), Cond.methodLink RX3 40 yX3_leastValue, Cond.static yX3_leastValue, Cond.initialized RX3, Cond.code yX3_leastValue cX3_leastValue 6 (some .int), Cond.methodLink RX3 44 yX6_at, Cond.instanceMethod yX6_at, Cond.selects RX6 yX6_at yX6_at, Cond.code yX6_at cX6_at 2 (some .int), Cond.fieldLink RX6 9 "AlgebraLaws$Tables" "values" "[I", Cond.methodLink RX3 47 yX6_put, Cond.instanceMethod yX6_put, Cond.selects RX6 yX6_put yX6_put, Cond.code yX6_put cX6_put 3 none, Cond.methodLink RX3 33 yX3_holds, Cond.static yX3_holds, Cond.code yX3_holds cX3_holds 2 (some .boolean), Cond.methodLink RX3 11 yX3_firstAgainst, Cond.static yX3_firstAgainst, Cond.code yX3_firstAgainst cX3_firstAgainst 7 (some .int)]
noncomputable def wsX3_leastChange_r2 : List Cond := [Cond.methodLink RX3 21 yX3_isSo, Cond.static yX3_isSo, Cond.code yX3_isSo cX3_isSo 5 (some .boolean), Cond.methodLink RX3 25 yX6_two, Cond.instanceMethod yX6_two, Cond.selects RX6 yX6_two yX6_two, Cond.code yX6_two cX6_two 3 (some .int), Cond.methodLink RX6 17 yX6_placeOfTwo, Cond.methodLink RX3 29 yX6_one, Cond.instanceMethod yX6_one, Cond.selects RX6 yX6_one yX6_one, Cond.code yX6_one cX6_one 2 (some .int), Cond.methodLink RX6 21 yX6_placeOfOne, Cond.static yX6_placeOfOne, Cond.code yX6_placeOfOne cX6_placeOfOne 1 (some .int)]
noncomputable def wsX3_leastChange : List Cond := .code yX3_leastChange cX3_leastChange 5 (some .int) :: ((wsX3_leastChange_r1 ++ wsX3_leastChange_r2) ++ wsX60)
noncomputable def wsX4_of : List Cond := .code yX4_of cX4_of 2 (some .int) :: ([])
noncomputable def wsX6_has : List Cond := .code yX6_has cX6_has 2 (some .boolean) :: ([.fieldLink RX6 13 "AlgebraLaws$Tables" "size" "I"] ++ wsX60)
noncomputable def wsX4_isInside : List Cond := .code yX4_isInside cX4_isInside 3 (some .boolean) :: ([.fieldLink RX4 7 "AlgebraLaws$Tables" "size" "I", .methodLink RX4 25 yX4_of, .static yX4_of, .initialized RX4, .code yX4_of cX4_of 2 (some .int), .methodLink RX4 29 yX6_has, .instanceMethod yX6_has, .selects RX6 yX6_has yX6_has, .initialized RX6, .code yX6_has cX6_has 2 (some .boolean), .fieldLink RX6 13 "AlgebraLaws$Tables" "size" "I"] ++ wsX60)
noncomputable def wsX4_isOnto : List Cond := .code yX4_isOnto cX4_isOnto 4 (some .boolean) :: ([.fieldLink RX4 7 "AlgebraLaws$Tables" "size" "I", .methodLink RX4 25 yX4_of, .static yX4_of, .initialized RX4, .code yX4_of cX4_of 2 (some .int), .methodLink RX4 33 yX6_allElements, .instanceMethod yX6_allElements, .selects RX6 yX6_allElements yX6_allElements, .initialized RX6, .code yX6_allElements cX6_allElements 1 (some .int), .fieldLink RX6 13 "AlgebraLaws$Tables" "size" "I"] ++ wsX60)
noncomputable def wsX4_goesAlong : List Cond := .code yX4_goesAlong cX4_goesAlong 4 (some .boolean) :: ([.fieldLink RX4 7 "AlgebraLaws$Tables" "size" "I", .methodLink RX4 37 yX6_one, .instanceMethod yX6_one, .selects RX6 yX6_one yX6_one, .initialized RX6, .code yX6_one cX6_one 2 (some .int), .fieldLink RX6 9 "AlgebraLaws$Tables" "values" "[I", .methodLink RX6 21 yX6_placeOfOne, .static yX6_placeOfOne, .code yX6_placeOfOne cX6_placeOfOne 1 (some .int), .methodLink RX4 25 yX4_of, .static yX4_of, .initialized RX4, .code yX4_of cX4_of 2 (some .int), .methodLink RX4 41 yX6_two, .instanceMethod yX6_two, .selects RX6 yX6_two yX6_two, .code yX6_two cX6_two 3 (some .int), .methodLink RX6 17 yX6_placeOfTwo, .static yX6_placeOfTwo, .code yX6_placeOfTwo cX6_placeOfTwo 2 (some .int)] ++ wsX60)
noncomputable def wsX4_howMany_r1 : List Cond := [Cond.fieldLink RX4 7 "AlgebraLaws$Tables" "size" "I", Cond.methodLink RX4 13 yX4_isInside, Cond.static yX4_isInside, Cond.initialized RX4, Cond.code yX4_isInside cX4_isInside 3 (some .boolean), Cond.methodLink RX4 25 yX4_of, Cond.static yX4_of, Cond.code yX4_of cX4_of 2 (some .int), Cond.methodLink RX4 29 yX6_has, Cond.instanceMethod yX6_has, Cond.selects RX6 yX6_has yX6_has, Cond.initialized RX6, Cond.code yX6_has cX6_has 2 (some .boolean), Cond.fieldLink RX6 13 "AlgebraLaws$Tables" "size" "I", Cond.methodLink RX4 19 yX4_isOnto, Cond.static yX4_isOnto, Cond.code yX4_isOnto cX4_isOnto 4 (some .boolean), Cond.methodLink RX4 33 yX6_allElements, Cond.instanceMethod yX6_allElements, Cond.selects RX6 yX6_allElements yX6_allElements, Cond.code yX6_allElements cX6_allElements 1 (some .int), Cond.methodLink RX4 22 yX4_goesAlong, Cond.static yX4_goesAlong, Cond.code yX4_goesAlong cX4_goesAlong 4 (some .boolean)]
noncomputable def wsX4_howMany_r2 : List Cond := [Cond.methodLink RX4 37 yX6_one, Cond.instanceMethod yX6_one, Cond.selects RX6 yX6_one yX6_one, Cond.code yX6_one cX6_one 2 (some .int), Cond.fieldLink RX6 9 "AlgebraLaws$Tables" "values" "[I", Cond.methodLink RX6 21 yX6_placeOfOne, Cond.static yX6_placeOfOne, Cond.code yX6_placeOfOne cX6_placeOfOne 1 (some .int), Cond.methodLink RX4 41 yX6_two, Cond.instanceMethod yX6_two, Cond.selects RX6 yX6_two yX6_two, Cond.code yX6_two cX6_two 3 (some .int), Cond.methodLink RX6 17 yX6_placeOfTwo, Cond.static yX6_placeOfTwo, Cond.code yX6_placeOfTwo cX6_placeOfTwo 2 (some .int)]
noncomputable def wsX4_howMany : List Cond := .code yX4_howMany cX4_howMany 4 (some .int) :: ((wsX4_howMany_r1 ++ wsX4_howMany_r2) ++ wsX60)
noncomputable def wsX6_init : List Cond := .code yX6_init cX6_init 1 none :: ([.methodLink RX6 3 objectInit, .instanceMethod objectInit, .code objectInit ⟨#[0xb1]⟩ 1 none, .arrayClass .int, .fieldLink RX6 9 "AlgebraLaws$Tables" "values" "[I"] ++ wsX60)
noncomputable def wsX5_init : List Cond := .code yX5_init cX5_init 1 none :: ([.methodLink RX5 1 objectInit, .instanceMethod objectInit, .code objectInit ⟨#[0xb1]⟩ 1 none, .classLink RX5 7 RX6, .instantiable RX6 2, .initialized RX6, .fieldLink RX5 10 "AlgebraLaws$Reader" "told" "LAlgebraLaws$Tables;", .instanceMethod yX6_init, .code yX6_init cX6_init 1 none, .methodLink RX6 3 objectInit, .arrayClass .int, .fieldLink RX6 9 "AlgebraLaws$Tables" "values" "[I"] ++ wsX60 ++ wsX50)
noncomputable def wsX6_startOver : List Cond := .code yX6_startOver cX6_startOver 4 none :: ([.fieldLink RX6 13 "AlgebraLaws$Tables" "size" "I", .fieldLink RX6 9 "AlgebraLaws$Tables" "values" "[I", .methodLink RX6 17 yX6_placeOfTwo, .static yX6_placeOfTwo, .initialized RX6, .code yX6_placeOfTwo cX6_placeOfTwo 2 (some .int), .methodLink RX6 21 yX6_placeOfOne, .static yX6_placeOfOne, .code yX6_placeOfOne cX6_placeOfOne 1 (some .int)] ++ wsX60)
noncomputable def wsX5_opens : List Cond := .code yX5_opens cX5_opens 3 (some .boolean) :: ([.fieldLink RX5 20 "AlgebraLaws$Reader" "items" "I", .fieldLink RX5 24 "AlgebraLaws$Reader" "item" "I", .fieldLink RX5 41 "AlgebraLaws$Reader" "figures" "I"] ++ wsX50)
noncomputable def wsX5_figuresDue : List Cond := .code yX5_figuresDue cX5_figuresDue 1 (some .int) :: ([.fieldLink RX5 24 "AlgebraLaws$Reader" "item" "I", .fieldLink RX5 10 "AlgebraLaws$Reader" "told" "LAlgebraLaws$Tables;", .fieldLink RX5 48 "AlgebraLaws$Tables" "size" "I"] ++ wsX50 ++ wsX60)
noncomputable def wsX5_ends : List Cond := .code yX5_ends cX5_ends 1 (some .boolean) :: ([.fieldLink RX5 41 "AlgebraLaws$Reader" "figures" "I", .fieldLink RX5 20 "AlgebraLaws$Reader" "items" "I", .fieldLink RX5 24 "AlgebraLaws$Reader" "item" "I", .methodLink RX5 44 yX5_figuresDue, .instanceMethod yX5_figuresDue, .selects RX5 yX5_figuresDue yX5_figuresDue, .initialized RX5, .code yX5_figuresDue cX5_figuresDue 1 (some .int), .fieldLink RX5 10 "AlgebraLaws$Reader" "told" "LAlgebraLaws$Tables;", .fieldLink RX5 48 "AlgebraLaws$Tables" "size" "I"] ++ wsX50 ++ wsX60)
noncomputable def wsX5_takesSize : List Cond := .code yX5_takesSize cX5_takesSize 2 (some .boolean) :: ([.fieldLink RX5 10 "AlgebraLaws$Reader" "told" "LAlgebraLaws$Tables;", .methodLink RX5 16 yX6_startOver, .instanceMethod yX6_startOver, .selects RX6 yX6_startOver yX6_startOver, .initialized RX6, .code yX6_startOver cX6_startOver 4 none, .fieldLink RX6 13 "AlgebraLaws$Tables" "size" "I", .fieldLink RX6 9 "AlgebraLaws$Tables" "values" "[I", .methodLink RX6 17 yX6_placeOfTwo, .static yX6_placeOfTwo, .code yX6_placeOfTwo cX6_placeOfTwo 2 (some .int), .methodLink RX6 21 yX6_placeOfOne, .static yX6_placeOfOne, .code yX6_placeOfOne cX6_placeOfOne 1 (some .int)] ++ wsX50 ++ wsX60)
noncomputable def wsX5_placeOfFigure : List Cond := .code yX5_placeOfFigure cX5_placeOfFigure 2 (some .int) :: ([.fieldLink RX5 10 "AlgebraLaws$Reader" "told" "LAlgebraLaws$Tables;", .fieldLink RX5 48 "AlgebraLaws$Tables" "size" "I", .methodLink RX5 71 Lib.Math.max.name, .static Lib.Math.max.name, .initialized "java/lang/Math", .code Lib.Math.max.name Lib.Math.max.code 2 (some .int), .fieldLink RX5 41 "AlgebraLaws$Reader" "figures" "I", .methodLink RX5 77 yX6_placeOfTwo, .static yX6_placeOfTwo, .initialized RX6, .code yX6_placeOfTwo cX6_placeOfTwo 2 (some .int)] ++ wsX50 ++ wsX60)
noncomputable def wsX5_takesValue_r1 : List Cond := [Cond.fieldLink RX5 10 "AlgebraLaws$Reader" "told" "LAlgebraLaws$Tables;", Cond.fieldLink RX5 24 "AlgebraLaws$Reader" "item" "I", Cond.fieldLink RX5 41 "AlgebraLaws$Reader" "figures" "I", Cond.methodLink RX5 57 yX6_has, Cond.instanceMethod yX6_has, Cond.selects RX6 yX6_has yX6_has, Cond.initialized RX6, Cond.code yX6_has cX6_has 2 (some .boolean), Cond.fieldLink RX6 13 "AlgebraLaws$Tables" "size" "I", Cond.methodLink RX5 60 yX6_placeOfOne, Cond.static yX6_placeOfOne, Cond.code yX6_placeOfOne cX6_placeOfOne 1 (some .int), Cond.methodLink RX5 64 yX5_placeOfFigure, Cond.instanceMethod yX5_placeOfFigure, Cond.selects RX5 yX5_placeOfFigure yX5_placeOfFigure, Cond.initialized RX5, Cond.code yX5_placeOfFigure cX5_placeOfFigure 2 (some .int), Cond.fieldLink RX5 48 "AlgebraLaws$Tables" "size" "I", Cond.methodLink RX5 71 Lib.Math.max.name, Cond.static Lib.Math.max.name, Cond.initialized "java/lang/Math", Cond.code Lib.Math.max.name Lib.Math.max.code 2 (some .int), Cond.methodLink RX5 77 yX6_placeOfTwo, Cond.static yX6_placeOfTwo]
noncomputable def wsX5_takesValue_r2 : List Cond := [Cond.code yX6_placeOfTwo cX6_placeOfTwo 2 (some .int), Cond.methodLink RX5 67 yX6_put, Cond.instanceMethod yX6_put, Cond.selects RX6 yX6_put yX6_put, Cond.code yX6_put cX6_put 3 none, Cond.fieldLink RX6 9 "AlgebraLaws$Tables" "values" "[I"]
noncomputable def wsX5_takesValue : List Cond := .code yX5_takesValue cX5_takesValue 2 (some .boolean) :: ((wsX5_takesValue_r1 ++ wsX5_takesValue_r2) ++ wsX50 ++ wsX60)
noncomputable def wsX5_takesFigure_r1 : List Cond := [Cond.fieldLink RX5 41 "AlgebraLaws$Reader" "figures" "I", Cond.fieldLink RX5 24 "AlgebraLaws$Reader" "item" "I", Cond.methodLink RX5 44 yX5_figuresDue, Cond.instanceMethod yX5_figuresDue, Cond.selects RX5 yX5_figuresDue yX5_figuresDue, Cond.initialized RX5, Cond.code yX5_figuresDue cX5_figuresDue 1 (some .int), Cond.fieldLink RX5 10 "AlgebraLaws$Reader" "told" "LAlgebraLaws$Tables;", Cond.fieldLink RX5 48 "AlgebraLaws$Tables" "size" "I", Cond.methodLink RX5 51 yX5_takesSize, Cond.instanceMethod yX5_takesSize, Cond.selects RX5 yX5_takesSize yX5_takesSize, Cond.code yX5_takesSize cX5_takesSize 2 (some .boolean), Cond.methodLink RX5 16 yX6_startOver, Cond.instanceMethod yX6_startOver, Cond.selects RX6 yX6_startOver yX6_startOver, Cond.initialized RX6, Cond.code yX6_startOver cX6_startOver 4 none, Cond.fieldLink RX6 13 "AlgebraLaws$Tables" "size" "I", Cond.fieldLink RX6 9 "AlgebraLaws$Tables" "values" "[I", Cond.methodLink RX6 17 yX6_placeOfTwo, Cond.static yX6_placeOfTwo, Cond.code yX6_placeOfTwo cX6_placeOfTwo 2 (some .int), Cond.methodLink RX6 21 yX6_placeOfOne]
noncomputable def wsX5_takesFigure_r2 : List Cond := [Cond.static yX6_placeOfOne, Cond.code yX6_placeOfOne cX6_placeOfOne 1 (some .int), Cond.methodLink RX5 54 yX5_takesValue, Cond.instanceMethod yX5_takesValue, Cond.selects RX5 yX5_takesValue yX5_takesValue, Cond.code yX5_takesValue cX5_takesValue 2 (some .boolean), Cond.methodLink RX5 57 yX6_has, Cond.instanceMethod yX6_has, Cond.selects RX6 yX6_has yX6_has, Cond.code yX6_has cX6_has 2 (some .boolean), Cond.methodLink RX5 60 yX6_placeOfOne, Cond.methodLink RX5 64 yX5_placeOfFigure, Cond.instanceMethod yX5_placeOfFigure, Cond.selects RX5 yX5_placeOfFigure yX5_placeOfFigure, Cond.code yX5_placeOfFigure cX5_placeOfFigure 2 (some .int), Cond.methodLink RX5 71 Lib.Math.max.name, Cond.static Lib.Math.max.name, Cond.initialized "java/lang/Math", Cond.code Lib.Math.max.name Lib.Math.max.code 2 (some .int), Cond.methodLink RX5 77 yX6_placeOfTwo, Cond.methodLink RX5 67 yX6_put, Cond.instanceMethod yX6_put, Cond.selects RX6 yX6_put yX6_put, Cond.code yX6_put cX6_put 3 none]
noncomputable def wsX5_takesFigure : List Cond := .code yX5_takesFigure cX5_takesFigure 3 (some .boolean) :: ((wsX5_takesFigure_r1 ++ wsX5_takesFigure_r2) ++ wsX50 ++ wsX60)
noncomputable def wsX5_takes_r1 : List Cond := [Cond.fieldLink RX5 24 "AlgebraLaws$Reader" "item" "I", Cond.methodLink RX5 31 yX5_opens, Cond.instanceMethod yX5_opens, Cond.selects RX5 yX5_opens yX5_opens, Cond.initialized RX5, Cond.code yX5_opens cX5_opens 3 (some .boolean), Cond.fieldLink RX5 20 "AlgebraLaws$Reader" "items" "I", Cond.fieldLink RX5 41 "AlgebraLaws$Reader" "figures" "I", Cond.methodLink RX5 34 yX5_ends, Cond.instanceMethod yX5_ends, Cond.selects RX5 yX5_ends yX5_ends, Cond.code yX5_ends cX5_ends 1 (some .boolean), Cond.methodLink RX5 44 yX5_figuresDue, Cond.instanceMethod yX5_figuresDue, Cond.selects RX5 yX5_figuresDue yX5_figuresDue, Cond.code yX5_figuresDue cX5_figuresDue 1 (some .int), Cond.fieldLink RX5 10 "AlgebraLaws$Reader" "told" "LAlgebraLaws$Tables;", Cond.fieldLink RX5 48 "AlgebraLaws$Tables" "size" "I", Cond.methodLink RX5 38 yX5_takesFigure, Cond.instanceMethod yX5_takesFigure, Cond.selects RX5 yX5_takesFigure yX5_takesFigure, Cond.code yX5_takesFigure cX5_takesFigure 3 (some .boolean), Cond.methodLink RX5 51 yX5_takesSize, Cond.instanceMethod yX5_takesSize]
noncomputable def wsX5_takes_r2 : List Cond := [Cond.selects RX5 yX5_takesSize yX5_takesSize, Cond.code yX5_takesSize cX5_takesSize 2 (some .boolean), Cond.methodLink RX5 16 yX6_startOver, Cond.instanceMethod yX6_startOver, Cond.selects RX6 yX6_startOver yX6_startOver, Cond.initialized RX6, Cond.code yX6_startOver cX6_startOver 4 none, Cond.fieldLink RX6 13 "AlgebraLaws$Tables" "size" "I", Cond.fieldLink RX6 9 "AlgebraLaws$Tables" "values" "[I", Cond.methodLink RX6 17 yX6_placeOfTwo, Cond.static yX6_placeOfTwo, Cond.code yX6_placeOfTwo cX6_placeOfTwo 2 (some .int), Cond.methodLink RX6 21 yX6_placeOfOne, Cond.static yX6_placeOfOne, Cond.code yX6_placeOfOne cX6_placeOfOne 1 (some .int), Cond.methodLink RX5 54 yX5_takesValue, Cond.instanceMethod yX5_takesValue, Cond.selects RX5 yX5_takesValue yX5_takesValue, Cond.code yX5_takesValue cX5_takesValue 2 (some .boolean), Cond.methodLink RX5 57 yX6_has, Cond.instanceMethod yX6_has, Cond.selects RX6 yX6_has yX6_has, Cond.code yX6_has cX6_has 2 (some .boolean), Cond.methodLink RX5 60 yX6_placeOfOne]
noncomputable def wsX5_takes_r3 : List Cond := [Cond.methodLink RX5 64 yX5_placeOfFigure, Cond.instanceMethod yX5_placeOfFigure, Cond.selects RX5 yX5_placeOfFigure yX5_placeOfFigure, Cond.code yX5_placeOfFigure cX5_placeOfFigure 2 (some .int), Cond.methodLink RX5 71 Lib.Math.max.name, Cond.static Lib.Math.max.name, Cond.initialized "java/lang/Math", Cond.code Lib.Math.max.name Lib.Math.max.code 2 (some .int), Cond.methodLink RX5 77 yX6_placeOfTwo, Cond.methodLink RX5 67 yX6_put, Cond.instanceMethod yX6_put, Cond.selects RX6 yX6_put yX6_put, Cond.code yX6_put cX6_put 3 none]
noncomputable def wsX5_takes : List Cond := .code yX5_takes cX5_takes 2 (some .boolean) :: ((wsX5_takes_r1 ++ (wsX5_takes_r2 ++ wsX5_takes_r3)) ++ wsX50 ++ wsX60)
noncomputable def wsX5_faultOf_r1 : List Cond := [Cond.fieldLink RX5 10 "AlgebraLaws$Reader" "told" "LAlgebraLaws$Tables;", Cond.fieldLink RX5 20 "AlgebraLaws$Reader" "items" "I", Cond.fieldLink RX5 24 "AlgebraLaws$Reader" "item" "I", Cond.methodLink RX5 16 yX6_startOver, Cond.instanceMethod yX6_startOver, Cond.selects RX6 yX6_startOver yX6_startOver, Cond.initialized RX6, Cond.code yX6_startOver cX6_startOver 4 none, Cond.fieldLink RX6 13 "AlgebraLaws$Tables" "size" "I", Cond.fieldLink RX6 9 "AlgebraLaws$Tables" "values" "[I", Cond.methodLink RX6 17 yX6_placeOfTwo, Cond.static yX6_placeOfTwo, Cond.code yX6_placeOfTwo cX6_placeOfTwo 2 (some .int), Cond.methodLink RX6 21 yX6_placeOfOne, Cond.static yX6_placeOfOne, Cond.code yX6_placeOfOne cX6_placeOfOne 1 (some .int), Cond.methodLink RX5 27 yX5_takes, Cond.instanceMethod yX5_takes, Cond.selects RX5 yX5_takes yX5_takes, Cond.initialized RX5, Cond.code yX5_takes cX5_takes 2 (some .boolean), Cond.methodLink RX5 31 yX5_opens, Cond.instanceMethod yX5_opens, Cond.selects RX5 yX5_opens yX5_opens]
noncomputable def wsX5_faultOf_r2 : List Cond := [Cond.code yX5_opens cX5_opens 3 (some .boolean), Cond.fieldLink RX5 41 "AlgebraLaws$Reader" "figures" "I", Cond.methodLink RX5 34 yX5_ends, Cond.instanceMethod yX5_ends, Cond.selects RX5 yX5_ends yX5_ends, Cond.code yX5_ends cX5_ends 1 (some .boolean), Cond.methodLink RX5 44 yX5_figuresDue, Cond.instanceMethod yX5_figuresDue, Cond.selects RX5 yX5_figuresDue yX5_figuresDue, Cond.code yX5_figuresDue cX5_figuresDue 1 (some .int), Cond.fieldLink RX5 48 "AlgebraLaws$Tables" "size" "I", Cond.methodLink RX5 38 yX5_takesFigure, Cond.instanceMethod yX5_takesFigure, Cond.selects RX5 yX5_takesFigure yX5_takesFigure, Cond.code yX5_takesFigure cX5_takesFigure 3 (some .boolean), Cond.methodLink RX5 51 yX5_takesSize, Cond.instanceMethod yX5_takesSize, Cond.selects RX5 yX5_takesSize yX5_takesSize, Cond.code yX5_takesSize cX5_takesSize 2 (some .boolean), Cond.methodLink RX5 54 yX5_takesValue, Cond.instanceMethod yX5_takesValue, Cond.selects RX5 yX5_takesValue yX5_takesValue, Cond.code yX5_takesValue cX5_takesValue 2 (some .boolean), Cond.methodLink RX5 57 yX6_has]
noncomputable def wsX5_faultOf_r3 : List Cond := [Cond.instanceMethod yX6_has, Cond.selects RX6 yX6_has yX6_has, Cond.code yX6_has cX6_has 2 (some .boolean), Cond.methodLink RX5 60 yX6_placeOfOne, Cond.methodLink RX5 64 yX5_placeOfFigure, Cond.instanceMethod yX5_placeOfFigure, Cond.selects RX5 yX5_placeOfFigure yX5_placeOfFigure, Cond.code yX5_placeOfFigure cX5_placeOfFigure 2 (some .int), Cond.methodLink RX5 71 Lib.Math.max.name, Cond.static Lib.Math.max.name, Cond.initialized "java/lang/Math", Cond.code Lib.Math.max.name Lib.Math.max.code 2 (some .int), Cond.methodLink RX5 77 yX6_placeOfTwo, Cond.methodLink RX5 67 yX6_put, Cond.instanceMethod yX6_put, Cond.selects RX6 yX6_put yX6_put, Cond.code yX6_put cX6_put 3 none]
noncomputable def wsX5_faultOf : List Cond := .code yX5_faultOf cX5_faultOf 4 (some .int) :: ((wsX5_faultOf_r1 ++ (wsX5_faultOf_r2 ++ wsX5_faultOf_r3)) ++ wsX50 ++ wsX60)
noncomputable def wsX6_copyFrom : List Cond := .code yX6_copyFrom cX6_copyFrom 2 none :: ([.fieldLink RX6 13 "AlgebraLaws$Tables" "size" "I", .fieldLink RX6 9 "AlgebraLaws$Tables" "values" "[I", .methodLink RX6 25 arraycopyName, .native arraycopyName, .static arraycopyName, .initialized "java/lang/System"] ++ wsX60)
noncomputable def wsX7_init : List Cond := .code yX7_init cX7_init 1 none :: ([.methodLink RX7 3 objectInit, .instanceMethod objectInit, .code objectInit ⟨#[0xb1]⟩ 1 none, .arrayClass .long, .fieldLink RX7 9 "AlgebraLaws$Terms" "rows" "[J", .arrayClass .int, .fieldLink RX7 13 "AlgebraLaws$Terms" "slots" "[I", .fieldLink RX7 19 "AlgebraLaws$Terms" "lowBehind" "[I", .fieldLink RX7 22 "AlgebraLaws$Terms" "highBehind" "[I"] ++ wsX70)
noncomputable def wsJ7_fill_53178 : List Cond := .code yJ7_fill_53178 cJ7_fill_53178 4 none :: ([])
noncomputable def wsX7_startOver : List Cond := .code yX7_startOver cX7_startOver 1 none :: ([.fieldLink RX7 46 "AlgebraLaws$Terms" "howMany" "I", .fieldLink RX7 49 "AlgebraLaws$Terms" "rounds" "I", .fieldLink RX7 13 "AlgebraLaws$Terms" "slots" "[I", .fieldLink RX7 58 "AlgebraLaws$Terms" "firstLetter" "J", .fieldLink RX7 61 "AlgebraLaws$Terms" "secondLetter" "J", .fieldLink RX7 64 "AlgebraLaws$Terms" "thirdLetter" "J", .fieldLink RX7 38 "AlgebraLaws$Terms" "goal" "J", .fieldLink RX7 67 "AlgebraLaws$Terms" "width" "I", .methodLink RX7 52 yJ7_fill_53178, .static yJ7_fill_53178, .initialized RJ7, .code yJ7_fill_53178 cJ7_fill_53178 4 none] ++ wsX70)
noncomputable def wsX7_joined : List Cond := .code yX7_joined cX7_joined 2 (some .long) :: ([])
noncomputable def wsX7_valueHere : List Cond := .code yX7_valueHere cX7_valueHere 2 (some .long) :: ([.fieldLink RX7 67 "AlgebraLaws$Terms" "width" "I", .methodLink RX7 74 yX7_joined, .static yX7_joined, .initialized RX7, .code yX7_joined cX7_joined 2 (some .long)] ++ wsX70)
noncomputable def wsX7_addWay : List Cond := .code yX7_addWay cX7_addWay 5 none :: ([.fieldLink RX7 58 "AlgebraLaws$Terms" "firstLetter" "J", .fieldLink RX7 61 "AlgebraLaws$Terms" "secondLetter" "J", .fieldLink RX7 64 "AlgebraLaws$Terms" "thirdLetter" "J", .fieldLink RX7 38 "AlgebraLaws$Terms" "goal" "J", .fieldLink RX7 67 "AlgebraLaws$Terms" "width" "I", .methodLink RX7 70 yX7_valueHere, .instanceMethod yX7_valueHere, .selects RX7 yX7_valueHere yX7_valueHere, .initialized RX7, .code yX7_valueHere cX7_valueHere 2 (some .long), .methodLink RX7 74 yX7_joined, .static yX7_joined, .code yX7_joined cX7_joined 2 (some .long)] ++ wsX70)
noncomputable def wsX7_slotOf : List Cond := .code yX7_slotOf cX7_slotOf 7 (some .int) :: ([.constantLong RX7 117 (-7046029254386353131), .fieldLink RX7 13 "AlgebraLaws$Terms" "slots" "[I", .fieldLink RX7 9 "AlgebraLaws$Terms" "rows" "[J"] ++ wsX70)
noncomputable def wsX7_add : List Cond := .code yX7_add cX7_add 4 (some .boolean) :: ([.fieldLink RX7 13 "AlgebraLaws$Terms" "slots" "[I", .fieldLink RX7 46 "AlgebraLaws$Terms" "howMany" "I", .fieldLink RX7 9 "AlgebraLaws$Terms" "rows" "[J", .methodLink RX7 82 yX7_slotOf, .instanceMethod yX7_slotOf, .selects RX7 yX7_slotOf yX7_slotOf, .initialized RX7, .code yX7_slotOf cX7_slotOf 7 (some .int), .constantLong RX7 117 (-7046029254386353131)] ++ wsX70)
noncomputable def wsX7_whereIs : List Cond := .code yX7_whereIs cX7_whereIs 6 (some .int) :: ([.fieldLink RX7 67 "AlgebraLaws$Terms" "width" "I"] ++ wsX70)
noncomputable def wsX7_layBehind : List Cond := .code yX7_layBehind cX7_layBehind 9 none :: ([.fieldLink RX7 28 "AlgebraLaws$Tables" "size" "I", .fieldLink RX7 19 "AlgebraLaws$Terms" "lowBehind" "[I", .fieldLink RX7 22 "AlgebraLaws$Terms" "highBehind" "[I", .methodLink RX7 105 yX7_whereIs, .instanceMethod yX7_whereIs, .selects RX7 yX7_whereIs yX7_whereIs, .initialized RX7, .code yX7_whereIs cX7_whereIs 6 (some .int), .fieldLink RX7 67 "AlgebraLaws$Terms" "width" "I", .methodLink RX7 109 yX6_two, .instanceMethod yX6_two, .selects RX6 yX6_two yX6_two, .initialized RX6, .code yX6_two cX6_two 3 (some .int), .fieldLink RX6 9 "AlgebraLaws$Tables" "values" "[I", .methodLink RX6 17 yX6_placeOfTwo, .static yX6_placeOfTwo, .code yX6_placeOfTwo cX6_placeOfTwo 2 (some .int)] ++ wsX60 ++ wsX70)
noncomputable def wsX7_ofOne : List Cond := .code yX7_ofOne cX7_ofOne 8 (some .long) :: ([.fieldLink RX7 28 "AlgebraLaws$Tables" "size" "I", .methodLink RX7 105 yX7_whereIs, .instanceMethod yX7_whereIs, .selects RX7 yX7_whereIs yX7_whereIs, .initialized RX7, .code yX7_whereIs cX7_whereIs 6 (some .int), .fieldLink RX7 67 "AlgebraLaws$Terms" "width" "I", .methodLink RX7 113 yX6_one, .instanceMethod yX6_one, .selects RX6 yX6_one yX6_one, .initialized RX6, .code yX6_one cX6_one 2 (some .int), .fieldLink RX6 9 "AlgebraLaws$Tables" "values" "[I", .methodLink RX6 21 yX6_placeOfOne, .static yX6_placeOfOne, .code yX6_placeOfOne cX6_placeOfOne 1 (some .int), .methodLink RX7 74 yX7_joined, .static yX7_joined, .code yX7_joined cX7_joined 2 (some .long)] ++ wsX60 ++ wsX70)
noncomputable def wsX7_ofTwo : List Cond := .code yX7_ofTwo cX7_ofTwo 9 (some .long) :: ([.fieldLink RX7 19 "AlgebraLaws$Terms" "lowBehind" "[I", .fieldLink RX7 22 "AlgebraLaws$Terms" "highBehind" "[I", .methodLink RX7 74 yX7_joined, .static yX7_joined, .initialized RX7, .code yX7_joined cX7_joined 2 (some .long)] ++ wsX70)
noncomputable def wsX7_makeRound_r1 : List Cond := [Cond.fieldLink RX7 46 "AlgebraLaws$Terms" "howMany" "I", Cond.fieldLink RX7 9 "AlgebraLaws$Terms" "rows" "[J", Cond.methodLink RX7 93 yX7_layBehind, Cond.instanceMethod yX7_layBehind, Cond.selects RX7 yX7_layBehind yX7_layBehind, Cond.initialized RX7, Cond.code yX7_layBehind cX7_layBehind 9 none, Cond.fieldLink RX7 28 "AlgebraLaws$Tables" "size" "I", Cond.fieldLink RX7 19 "AlgebraLaws$Terms" "lowBehind" "[I", Cond.fieldLink RX7 22 "AlgebraLaws$Terms" "highBehind" "[I", Cond.methodLink RX7 105 yX7_whereIs, Cond.instanceMethod yX7_whereIs, Cond.selects RX7 yX7_whereIs yX7_whereIs, Cond.code yX7_whereIs cX7_whereIs 6 (some .int), Cond.fieldLink RX7 67 "AlgebraLaws$Terms" "width" "I", Cond.methodLink RX7 109 yX6_two, Cond.instanceMethod yX6_two, Cond.selects RX6 yX6_two yX6_two, Cond.initialized RX6, Cond.code yX6_two cX6_two 3 (some .int), Cond.fieldLink RX6 9 "AlgebraLaws$Tables" "values" "[I", Cond.methodLink RX6 17 yX6_placeOfTwo, Cond.static yX6_placeOfTwo, Cond.code yX6_placeOfTwo cX6_placeOfTwo 2 (some .int)]
noncomputable def wsX7_makeRound_r2 : List Cond := [Cond.methodLink RX7 97 yX7_ofOne, Cond.instanceMethod yX7_ofOne, Cond.selects RX7 yX7_ofOne yX7_ofOne, Cond.code yX7_ofOne cX7_ofOne 8 (some .long), Cond.methodLink RX7 113 yX6_one, Cond.instanceMethod yX6_one, Cond.selects RX6 yX6_one yX6_one, Cond.code yX6_one cX6_one 2 (some .int), Cond.methodLink RX6 21 yX6_placeOfOne, Cond.static yX6_placeOfOne, Cond.code yX6_placeOfOne cX6_placeOfOne 1 (some .int), Cond.methodLink RX7 74 yX7_joined, Cond.static yX7_joined, Cond.code yX7_joined cX7_joined 2 (some .long), Cond.methodLink RX7 78 yX7_add, Cond.instanceMethod yX7_add, Cond.selects RX7 yX7_add yX7_add, Cond.code yX7_add cX7_add 4 (some .boolean), Cond.fieldLink RX7 13 "AlgebraLaws$Terms" "slots" "[I", Cond.methodLink RX7 82 yX7_slotOf, Cond.instanceMethod yX7_slotOf, Cond.selects RX7 yX7_slotOf yX7_slotOf, Cond.code yX7_slotOf cX7_slotOf 7 (some .int), Cond.constantLong RX7 117 (-7046029254386353131)]
noncomputable def wsX7_makeRound_r3 : List Cond := [Cond.methodLink RX7 101 yX7_ofTwo, Cond.instanceMethod yX7_ofTwo, Cond.selects RX7 yX7_ofTwo yX7_ofTwo, Cond.code yX7_ofTwo cX7_ofTwo 9 (some .long)]
noncomputable def wsX7_makeRound : List Cond := .code yX7_makeRound cX7_makeRound 6 (some .boolean) :: ((wsX7_makeRound_r1 ++ (wsX7_makeRound_r2 ++ wsX7_makeRound_r3)) ++ wsX70 ++ wsX60)
noncomputable def wsX7_grow_r1 : List Cond := [Cond.fieldLink RX7 58 "AlgebraLaws$Terms" "firstLetter" "J", Cond.fieldLink RX7 61 "AlgebraLaws$Terms" "secondLetter" "J", Cond.fieldLink RX7 64 "AlgebraLaws$Terms" "thirdLetter" "J", Cond.fieldLink RX7 46 "AlgebraLaws$Terms" "howMany" "I", Cond.fieldLink RX7 13 "AlgebraLaws$Terms" "slots" "[I", Cond.fieldLink RX7 38 "AlgebraLaws$Terms" "goal" "J", Cond.fieldLink RX7 86 "AlgebraLaws$Terms" "isFound" "Z", Cond.fieldLink RX7 49 "AlgebraLaws$Terms" "rounds" "I", Cond.methodLink RX7 78 yX7_add, Cond.instanceMethod yX7_add, Cond.selects RX7 yX7_add yX7_add, Cond.initialized RX7, Cond.code yX7_add cX7_add 4 (some .boolean), Cond.fieldLink RX7 9 "AlgebraLaws$Terms" "rows" "[J", Cond.methodLink RX7 82 yX7_slotOf, Cond.instanceMethod yX7_slotOf, Cond.selects RX7 yX7_slotOf yX7_slotOf, Cond.code yX7_slotOf cX7_slotOf 7 (some .int), Cond.constantLong RX7 117 (-7046029254386353131), Cond.methodLink RX7 90 yX7_makeRound, Cond.instanceMethod yX7_makeRound, Cond.selects RX7 yX7_makeRound yX7_makeRound, Cond.code yX7_makeRound cX7_makeRound 6 (some .boolean), Cond.methodLink RX7 93 yX7_layBehind]
noncomputable def wsX7_grow_r2 : List Cond := [Cond.instanceMethod yX7_layBehind, Cond.selects RX7 yX7_layBehind yX7_layBehind, Cond.code yX7_layBehind cX7_layBehind 9 none, Cond.fieldLink RX7 28 "AlgebraLaws$Tables" "size" "I", Cond.fieldLink RX7 19 "AlgebraLaws$Terms" "lowBehind" "[I", Cond.fieldLink RX7 22 "AlgebraLaws$Terms" "highBehind" "[I", Cond.methodLink RX7 105 yX7_whereIs, Cond.instanceMethod yX7_whereIs, Cond.selects RX7 yX7_whereIs yX7_whereIs, Cond.code yX7_whereIs cX7_whereIs 6 (some .int), Cond.fieldLink RX7 67 "AlgebraLaws$Terms" "width" "I", Cond.methodLink RX7 109 yX6_two, Cond.instanceMethod yX6_two, Cond.selects RX6 yX6_two yX6_two, Cond.initialized RX6, Cond.code yX6_two cX6_two 3 (some .int), Cond.fieldLink RX6 9 "AlgebraLaws$Tables" "values" "[I", Cond.methodLink RX6 17 yX6_placeOfTwo, Cond.static yX6_placeOfTwo, Cond.code yX6_placeOfTwo cX6_placeOfTwo 2 (some .int), Cond.methodLink RX7 97 yX7_ofOne, Cond.instanceMethod yX7_ofOne, Cond.selects RX7 yX7_ofOne yX7_ofOne, Cond.code yX7_ofOne cX7_ofOne 8 (some .long)]
noncomputable def wsX7_grow_r3 : List Cond := [Cond.methodLink RX7 113 yX6_one, Cond.instanceMethod yX6_one, Cond.selects RX6 yX6_one yX6_one, Cond.code yX6_one cX6_one 2 (some .int), Cond.methodLink RX6 21 yX6_placeOfOne, Cond.static yX6_placeOfOne, Cond.code yX6_placeOfOne cX6_placeOfOne 1 (some .int), Cond.methodLink RX7 74 yX7_joined, Cond.static yX7_joined, Cond.code yX7_joined cX7_joined 2 (some .long), Cond.methodLink RX7 101 yX7_ofTwo, Cond.instanceMethod yX7_ofTwo, Cond.selects RX7 yX7_ofTwo yX7_ofTwo, Cond.code yX7_ofTwo cX7_ofTwo 9 (some .long)]
noncomputable def wsX7_grow : List Cond := .code yX7_grow cX7_grow 6 (some .boolean) :: ((wsX7_grow_r1 ++ (wsX7_grow_r2 ++ wsX7_grow_r3)) ++ wsX70 ++ wsX60)
noncomputable def wsX7_makeFree_r1 : List Cond := [Cond.fieldLink RX7 28 "AlgebraLaws$Tables" "size" "I", Cond.constantLong RX7 36 (-1), Cond.fieldLink RX7 38 "AlgebraLaws$Terms" "goal" "J", Cond.methodLink RX7 25 yX7_startOver, Cond.instanceMethod yX7_startOver, Cond.selects RX7 yX7_startOver yX7_startOver, Cond.initialized RX7, Cond.code yX7_startOver cX7_startOver 1 none, Cond.fieldLink RX7 46 "AlgebraLaws$Terms" "howMany" "I", Cond.fieldLink RX7 49 "AlgebraLaws$Terms" "rounds" "I", Cond.fieldLink RX7 13 "AlgebraLaws$Terms" "slots" "[I", Cond.fieldLink RX7 58 "AlgebraLaws$Terms" "firstLetter" "J", Cond.fieldLink RX7 61 "AlgebraLaws$Terms" "secondLetter" "J", Cond.fieldLink RX7 64 "AlgebraLaws$Terms" "thirdLetter" "J", Cond.fieldLink RX7 67 "AlgebraLaws$Terms" "width" "I", Cond.methodLink RX7 52 yJ7_fill_53178, Cond.static yJ7_fill_53178, Cond.initialized RJ7, Cond.code yJ7_fill_53178 cJ7_fill_53178 4 none, Cond.methodLink RX7 32 yX7_addWay, Cond.instanceMethod yX7_addWay, Cond.selects RX7 yX7_addWay yX7_addWay, Cond.code yX7_addWay cX7_addWay 5 none, Cond.methodLink RX7 70 yX7_valueHere]
noncomputable def wsX7_makeFree_r2 : List Cond := [Cond.instanceMethod yX7_valueHere, Cond.selects RX7 yX7_valueHere yX7_valueHere, Cond.code yX7_valueHere cX7_valueHere 2 (some .long), Cond.methodLink RX7 74 yX7_joined, Cond.static yX7_joined, Cond.code yX7_joined cX7_joined 2 (some .long), Cond.methodLink RX7 42 yX7_grow, Cond.instanceMethod yX7_grow, Cond.selects RX7 yX7_grow yX7_grow, Cond.code yX7_grow cX7_grow 6 (some .boolean), Cond.fieldLink RX7 86 "AlgebraLaws$Terms" "isFound" "Z", Cond.methodLink RX7 78 yX7_add, Cond.instanceMethod yX7_add, Cond.selects RX7 yX7_add yX7_add, Cond.code yX7_add cX7_add 4 (some .boolean), Cond.fieldLink RX7 9 "AlgebraLaws$Terms" "rows" "[J", Cond.methodLink RX7 82 yX7_slotOf, Cond.instanceMethod yX7_slotOf, Cond.selects RX7 yX7_slotOf yX7_slotOf, Cond.code yX7_slotOf cX7_slotOf 7 (some .int), Cond.constantLong RX7 117 (-7046029254386353131), Cond.methodLink RX7 90 yX7_makeRound, Cond.instanceMethod yX7_makeRound, Cond.selects RX7 yX7_makeRound yX7_makeRound]
noncomputable def wsX7_makeFree_r3 : List Cond := [Cond.code yX7_makeRound cX7_makeRound 6 (some .boolean), Cond.methodLink RX7 93 yX7_layBehind, Cond.instanceMethod yX7_layBehind, Cond.selects RX7 yX7_layBehind yX7_layBehind, Cond.code yX7_layBehind cX7_layBehind 9 none, Cond.fieldLink RX7 19 "AlgebraLaws$Terms" "lowBehind" "[I", Cond.fieldLink RX7 22 "AlgebraLaws$Terms" "highBehind" "[I", Cond.methodLink RX7 105 yX7_whereIs, Cond.instanceMethod yX7_whereIs, Cond.selects RX7 yX7_whereIs yX7_whereIs, Cond.code yX7_whereIs cX7_whereIs 6 (some .int), Cond.methodLink RX7 109 yX6_two, Cond.instanceMethod yX6_two, Cond.selects RX6 yX6_two yX6_two, Cond.initialized RX6, Cond.code yX6_two cX6_two 3 (some .int), Cond.fieldLink RX6 9 "AlgebraLaws$Tables" "values" "[I", Cond.methodLink RX6 17 yX6_placeOfTwo, Cond.static yX6_placeOfTwo, Cond.code yX6_placeOfTwo cX6_placeOfTwo 2 (some .int), Cond.methodLink RX7 97 yX7_ofOne, Cond.instanceMethod yX7_ofOne, Cond.selects RX7 yX7_ofOne yX7_ofOne, Cond.code yX7_ofOne cX7_ofOne 8 (some .long)]
noncomputable def wsX7_makeFree_r4 : List Cond := [Cond.methodLink RX7 113 yX6_one, Cond.instanceMethod yX6_one, Cond.selects RX6 yX6_one yX6_one, Cond.code yX6_one cX6_one 2 (some .int), Cond.methodLink RX6 21 yX6_placeOfOne, Cond.static yX6_placeOfOne, Cond.code yX6_placeOfOne cX6_placeOfOne 1 (some .int), Cond.methodLink RX7 101 yX7_ofTwo, Cond.instanceMethod yX7_ofTwo, Cond.selects RX7 yX7_ofTwo yX7_ofTwo, Cond.code yX7_ofTwo cX7_ofTwo 9 (some .long)]
noncomputable def wsX7_makeFree : List Cond := .code yX7_makeFree cX7_makeFree 5 (some .boolean) :: ((wsX7_makeFree_r1 ++ (wsX7_makeFree_r2 ++ (wsX7_makeFree_r3 ++ wsX7_makeFree_r4))) ++ wsX60 ++ wsX70)
noncomputable def wsX7_seekMaltsev_r1 : List Cond := [Cond.fieldLink RX7 28 "AlgebraLaws$Tables" "size" "I", Cond.methodLink RX7 25 yX7_startOver, Cond.instanceMethod yX7_startOver, Cond.selects RX7 yX7_startOver yX7_startOver, Cond.initialized RX7, Cond.code yX7_startOver cX7_startOver 1 none, Cond.fieldLink RX7 46 "AlgebraLaws$Terms" "howMany" "I", Cond.fieldLink RX7 49 "AlgebraLaws$Terms" "rounds" "I", Cond.fieldLink RX7 13 "AlgebraLaws$Terms" "slots" "[I", Cond.fieldLink RX7 58 "AlgebraLaws$Terms" "firstLetter" "J", Cond.fieldLink RX7 61 "AlgebraLaws$Terms" "secondLetter" "J", Cond.fieldLink RX7 64 "AlgebraLaws$Terms" "thirdLetter" "J", Cond.fieldLink RX7 38 "AlgebraLaws$Terms" "goal" "J", Cond.fieldLink RX7 67 "AlgebraLaws$Terms" "width" "I", Cond.methodLink RX7 52 yJ7_fill_53178, Cond.static yJ7_fill_53178, Cond.initialized RJ7, Cond.code yJ7_fill_53178 cJ7_fill_53178 4 none, Cond.methodLink RX7 32 yX7_addWay, Cond.instanceMethod yX7_addWay, Cond.selects RX7 yX7_addWay yX7_addWay, Cond.code yX7_addWay cX7_addWay 5 none, Cond.methodLink RX7 70 yX7_valueHere, Cond.instanceMethod yX7_valueHere]
noncomputable def wsX7_seekMaltsev_r2 : List Cond := [Cond.selects RX7 yX7_valueHere yX7_valueHere, Cond.code yX7_valueHere cX7_valueHere 2 (some .long), Cond.methodLink RX7 74 yX7_joined, Cond.static yX7_joined, Cond.code yX7_joined cX7_joined 2 (some .long), Cond.methodLink RX7 42 yX7_grow, Cond.instanceMethod yX7_grow, Cond.selects RX7 yX7_grow yX7_grow, Cond.code yX7_grow cX7_grow 6 (some .boolean), Cond.fieldLink RX7 86 "AlgebraLaws$Terms" "isFound" "Z", Cond.methodLink RX7 78 yX7_add, Cond.instanceMethod yX7_add, Cond.selects RX7 yX7_add yX7_add, Cond.code yX7_add cX7_add 4 (some .boolean), Cond.fieldLink RX7 9 "AlgebraLaws$Terms" "rows" "[J", Cond.methodLink RX7 82 yX7_slotOf, Cond.instanceMethod yX7_slotOf, Cond.selects RX7 yX7_slotOf yX7_slotOf, Cond.code yX7_slotOf cX7_slotOf 7 (some .int), Cond.constantLong RX7 117 (-7046029254386353131), Cond.methodLink RX7 90 yX7_makeRound, Cond.instanceMethod yX7_makeRound, Cond.selects RX7 yX7_makeRound yX7_makeRound, Cond.code yX7_makeRound cX7_makeRound 6 (some .boolean)]
noncomputable def wsX7_seekMaltsev_r3 : List Cond := [Cond.methodLink RX7 93 yX7_layBehind, Cond.instanceMethod yX7_layBehind, Cond.selects RX7 yX7_layBehind yX7_layBehind, Cond.code yX7_layBehind cX7_layBehind 9 none, Cond.fieldLink RX7 19 "AlgebraLaws$Terms" "lowBehind" "[I", Cond.fieldLink RX7 22 "AlgebraLaws$Terms" "highBehind" "[I", Cond.methodLink RX7 105 yX7_whereIs, Cond.instanceMethod yX7_whereIs, Cond.selects RX7 yX7_whereIs yX7_whereIs, Cond.code yX7_whereIs cX7_whereIs 6 (some .int), Cond.methodLink RX7 109 yX6_two, Cond.instanceMethod yX6_two, Cond.selects RX6 yX6_two yX6_two, Cond.initialized RX6, Cond.code yX6_two cX6_two 3 (some .int), Cond.fieldLink RX6 9 "AlgebraLaws$Tables" "values" "[I", Cond.methodLink RX6 17 yX6_placeOfTwo, Cond.static yX6_placeOfTwo, Cond.code yX6_placeOfTwo cX6_placeOfTwo 2 (some .int), Cond.methodLink RX7 97 yX7_ofOne, Cond.instanceMethod yX7_ofOne, Cond.selects RX7 yX7_ofOne yX7_ofOne, Cond.code yX7_ofOne cX7_ofOne 8 (some .long), Cond.methodLink RX7 113 yX6_one]
noncomputable def wsX7_seekMaltsev_r4 : List Cond := [Cond.instanceMethod yX6_one, Cond.selects RX6 yX6_one yX6_one, Cond.code yX6_one cX6_one 2 (some .int), Cond.methodLink RX6 21 yX6_placeOfOne, Cond.static yX6_placeOfOne, Cond.code yX6_placeOfOne cX6_placeOfOne 1 (some .int), Cond.methodLink RX7 101 yX7_ofTwo, Cond.instanceMethod yX7_ofTwo, Cond.selects RX7 yX7_ofTwo yX7_ofTwo, Cond.code yX7_ofTwo cX7_ofTwo 9 (some .long)]
noncomputable def wsX7_seekMaltsev : List Cond := .code yX7_seekMaltsev cX7_seekMaltsev 4 (some .boolean) :: ((wsX7_seekMaltsev_r1 ++ (wsX7_seekMaltsev_r2 ++ (wsX7_seekMaltsev_r3 ++ wsX7_seekMaltsev_r4))) ++ wsX60 ++ wsX70)
noncomputable def wsX7_seekMajority_r1 : List Cond := [Cond.fieldLink RX7 28 "AlgebraLaws$Tables" "size" "I", Cond.methodLink RX7 25 yX7_startOver, Cond.instanceMethod yX7_startOver, Cond.selects RX7 yX7_startOver yX7_startOver, Cond.initialized RX7, Cond.code yX7_startOver cX7_startOver 1 none, Cond.fieldLink RX7 46 "AlgebraLaws$Terms" "howMany" "I", Cond.fieldLink RX7 49 "AlgebraLaws$Terms" "rounds" "I", Cond.fieldLink RX7 13 "AlgebraLaws$Terms" "slots" "[I", Cond.fieldLink RX7 58 "AlgebraLaws$Terms" "firstLetter" "J", Cond.fieldLink RX7 61 "AlgebraLaws$Terms" "secondLetter" "J", Cond.fieldLink RX7 64 "AlgebraLaws$Terms" "thirdLetter" "J", Cond.fieldLink RX7 38 "AlgebraLaws$Terms" "goal" "J", Cond.fieldLink RX7 67 "AlgebraLaws$Terms" "width" "I", Cond.methodLink RX7 52 yJ7_fill_53178, Cond.static yJ7_fill_53178, Cond.initialized RJ7, Cond.code yJ7_fill_53178 cJ7_fill_53178 4 none, Cond.methodLink RX7 32 yX7_addWay, Cond.instanceMethod yX7_addWay, Cond.selects RX7 yX7_addWay yX7_addWay, Cond.code yX7_addWay cX7_addWay 5 none, Cond.methodLink RX7 70 yX7_valueHere, Cond.instanceMethod yX7_valueHere]
noncomputable def wsX7_seekMajority_r2 : List Cond := [Cond.selects RX7 yX7_valueHere yX7_valueHere, Cond.code yX7_valueHere cX7_valueHere 2 (some .long), Cond.methodLink RX7 74 yX7_joined, Cond.static yX7_joined, Cond.code yX7_joined cX7_joined 2 (some .long), Cond.methodLink RX7 42 yX7_grow, Cond.instanceMethod yX7_grow, Cond.selects RX7 yX7_grow yX7_grow, Cond.code yX7_grow cX7_grow 6 (some .boolean), Cond.fieldLink RX7 86 "AlgebraLaws$Terms" "isFound" "Z", Cond.methodLink RX7 78 yX7_add, Cond.instanceMethod yX7_add, Cond.selects RX7 yX7_add yX7_add, Cond.code yX7_add cX7_add 4 (some .boolean), Cond.fieldLink RX7 9 "AlgebraLaws$Terms" "rows" "[J", Cond.methodLink RX7 82 yX7_slotOf, Cond.instanceMethod yX7_slotOf, Cond.selects RX7 yX7_slotOf yX7_slotOf, Cond.code yX7_slotOf cX7_slotOf 7 (some .int), Cond.constantLong RX7 117 (-7046029254386353131), Cond.methodLink RX7 90 yX7_makeRound, Cond.instanceMethod yX7_makeRound, Cond.selects RX7 yX7_makeRound yX7_makeRound, Cond.code yX7_makeRound cX7_makeRound 6 (some .boolean)]
noncomputable def wsX7_seekMajority_r3 : List Cond := [Cond.methodLink RX7 93 yX7_layBehind, Cond.instanceMethod yX7_layBehind, Cond.selects RX7 yX7_layBehind yX7_layBehind, Cond.code yX7_layBehind cX7_layBehind 9 none, Cond.fieldLink RX7 19 "AlgebraLaws$Terms" "lowBehind" "[I", Cond.fieldLink RX7 22 "AlgebraLaws$Terms" "highBehind" "[I", Cond.methodLink RX7 105 yX7_whereIs, Cond.instanceMethod yX7_whereIs, Cond.selects RX7 yX7_whereIs yX7_whereIs, Cond.code yX7_whereIs cX7_whereIs 6 (some .int), Cond.methodLink RX7 109 yX6_two, Cond.instanceMethod yX6_two, Cond.selects RX6 yX6_two yX6_two, Cond.initialized RX6, Cond.code yX6_two cX6_two 3 (some .int), Cond.fieldLink RX6 9 "AlgebraLaws$Tables" "values" "[I", Cond.methodLink RX6 17 yX6_placeOfTwo, Cond.static yX6_placeOfTwo, Cond.code yX6_placeOfTwo cX6_placeOfTwo 2 (some .int), Cond.methodLink RX7 97 yX7_ofOne, Cond.instanceMethod yX7_ofOne, Cond.selects RX7 yX7_ofOne yX7_ofOne, Cond.code yX7_ofOne cX7_ofOne 8 (some .long), Cond.methodLink RX7 113 yX6_one]
noncomputable def wsX7_seekMajority_r4 : List Cond := [Cond.instanceMethod yX6_one, Cond.selects RX6 yX6_one yX6_one, Cond.code yX6_one cX6_one 2 (some .int), Cond.methodLink RX6 21 yX6_placeOfOne, Cond.static yX6_placeOfOne, Cond.code yX6_placeOfOne cX6_placeOfOne 1 (some .int), Cond.methodLink RX7 101 yX7_ofTwo, Cond.instanceMethod yX7_ofTwo, Cond.selects RX7 yX7_ofTwo yX7_ofTwo, Cond.code yX7_ofTwo cX7_ofTwo 9 (some .long)]
noncomputable def wsX7_seekMajority : List Cond := .code yX7_seekMajority cX7_seekMajority 4 (some .boolean) :: ((wsX7_seekMajority_r1 ++ (wsX7_seekMajority_r2 ++ (wsX7_seekMajority_r3 ++ wsX7_seekMajority_r4))) ++ wsX60 ++ wsX70)
noncomputable def wsX8_init_r1 : List Cond := [Cond.methodLink RX8 1 objectInit, Cond.instanceMethod objectInit, Cond.code objectInit ⟨#[0xb1]⟩ 1 none, Cond.classLink RX8 7 RX6, Cond.instantiable RX6 2, Cond.initialized RX6, Cond.fieldLink RX8 10 "AlgebraLaws" "now" "LAlgebraLaws$Tables;", Cond.fieldLink RX8 16 "AlgebraLaws" "trial" "LAlgebraLaws$Tables;", Cond.classLink RX8 19 RX5, Cond.instantiable RX5 4, Cond.initialized RX5, Cond.fieldLink RX8 22 "AlgebraLaws" "reader" "LAlgebraLaws$Reader;", Cond.classLink RX8 26 RX2, Cond.instantiable RX2 3, Cond.initialized RX2, Cond.fieldLink RX8 29 "AlgebraLaws" "history" "LAlgebraLaws$History;", Cond.classLink RX8 33 RX1, Cond.instantiable RX1 3, Cond.initialized RX1, Cond.fieldLink RX8 36 "AlgebraLaws" "congruences" "LAlgebraLaws$Congruences;", Cond.classLink RX8 40 RX7, Cond.instantiable RX7 12, Cond.initialized RX7, Cond.fieldLink RX8 43 "AlgebraLaws" "terms" "LAlgebraLaws$Terms;"]
noncomputable def wsX8_init_r2 : List Cond := [Cond.arrayClass .int, Cond.fieldLink RX8 47 "AlgebraLaws" "text" "[I", Cond.fieldLink RX8 51 "AlgebraLaws" "seen" "[I", Cond.fieldLink RX8 54 "AlgebraLaws" "images" "[LAlgebraLaws$Tables;", Cond.instanceMethod yX6_init, Cond.code yX6_init cX6_init 1 none, Cond.methodLink RX6 3 objectInit, Cond.fieldLink RX6 9 "AlgebraLaws$Tables" "values" "[I", Cond.instanceMethod yX5_init, Cond.code yX5_init cX5_init 1 none, Cond.methodLink RX5 1 objectInit, Cond.classLink RX5 7 RX6, Cond.fieldLink RX5 10 "AlgebraLaws$Reader" "told" "LAlgebraLaws$Tables;", Cond.instanceMethod yX2_init, Cond.code yX2_init cX2_init 1 none, Cond.methodLink RX2 1 objectInit, Cond.fieldLink RX2 9 "AlgebraLaws$History" "places" "[I", Cond.fieldLink RX2 13 "AlgebraLaws$History" "values" "[I", Cond.instanceMethod yX1_init, Cond.code yX1_init cX1_init 1 none, Cond.methodLink RX1 1 objectInit, Cond.fieldLink RX1 7 "AlgebraLaws$Congruences" "PARTITIONS" "[I", Cond.fieldLink RX1 13 "AlgebraLaws$Congruences" "partitions" "[I", Cond.instanceMethod yX7_init]
noncomputable def wsX8_init_r3 : List Cond := [Cond.code yX7_init cX7_init 1 none, Cond.methodLink RX7 3 objectInit, Cond.arrayClass .long, Cond.fieldLink RX7 9 "AlgebraLaws$Terms" "rows" "[J", Cond.fieldLink RX7 13 "AlgebraLaws$Terms" "slots" "[I", Cond.fieldLink RX7 19 "AlgebraLaws$Terms" "lowBehind" "[I", Cond.fieldLink RX7 22 "AlgebraLaws$Terms" "highBehind" "[I", Cond.methodLink RX8 58 yX6_startOver, Cond.instanceMethod yX6_startOver, Cond.selects RX6 yX6_startOver yX6_startOver, Cond.code yX6_startOver cX6_startOver 4 none, Cond.fieldLink RX6 13 "AlgebraLaws$Tables" "size" "I", Cond.methodLink RX6 17 yX6_placeOfTwo, Cond.static yX6_placeOfTwo, Cond.code yX6_placeOfTwo cX6_placeOfTwo 2 (some .int), Cond.methodLink RX6 21 yX6_placeOfOne, Cond.static yX6_placeOfOne, Cond.code yX6_placeOfOne cX6_placeOfOne 1 (some .int)]
noncomputable def wsX8_init : List Cond := .code yX8_init cX8_init 1 none :: ((wsX8_init_r1 ++ (wsX8_init_r2 ++ wsX8_init_r3)) ++ wsX60 ++ wsX80 ++ wsX50 ++ wsX20 ++ wsX10 ++ wsX70)
noncomputable def wsX8_type : List Cond := .code yX8_type cX8_type 2 (some .int) :: ([.fieldLink RX8 62 "AlgebraLaws" "letters" "I", .fieldLink RX8 47 "AlgebraLaws" "text" "[I"] ++ wsX80)
noncomputable def wsX8_clear : List Cond := .code yX8_clear cX8_clear 2 (some .int) :: ([.fieldLink RX8 62 "AlgebraLaws" "letters" "I"] ++ wsX80)
noncomputable def wsX8_tables_r1 : List Cond := [Cond.fieldLink RX8 22 "AlgebraLaws" "reader" "LAlgebraLaws$Reader;", Cond.fieldLink RX8 47 "AlgebraLaws" "text" "[I", Cond.fieldLink RX8 62 "AlgebraLaws" "letters" "I", Cond.fieldLink RX8 10 "AlgebraLaws" "now" "LAlgebraLaws$Tables;", Cond.fieldLink RX8 70 "AlgebraLaws$Reader" "told" "LAlgebraLaws$Tables;", Cond.fieldLink RX8 29 "AlgebraLaws" "history" "LAlgebraLaws$History;", Cond.fieldLink RX8 80 "AlgebraLaws" "seenSoFar" "I", Cond.fieldLink RX8 83 "AlgebraLaws" "keptImages" "I", Cond.fieldLink RX8 86 "AlgebraLaws$Reader" "items" "I", Cond.methodLink RX8 66 yX5_faultOf, Cond.instanceMethod yX5_faultOf, Cond.selects RX5 yX5_faultOf yX5_faultOf, Cond.initialized RX5, Cond.code yX5_faultOf cX5_faultOf 4 (some .int), Cond.fieldLink RX5 10 "AlgebraLaws$Reader" "told" "LAlgebraLaws$Tables;", Cond.fieldLink RX5 20 "AlgebraLaws$Reader" "items" "I", Cond.fieldLink RX5 24 "AlgebraLaws$Reader" "item" "I", Cond.methodLink RX5 16 yX6_startOver, Cond.instanceMethod yX6_startOver, Cond.selects RX6 yX6_startOver yX6_startOver, Cond.initialized RX6, Cond.code yX6_startOver cX6_startOver 4 none, Cond.fieldLink RX6 13 "AlgebraLaws$Tables" "size" "I", Cond.fieldLink RX6 9 "AlgebraLaws$Tables" "values" "[I"]
noncomputable def wsX8_tables_r2 : List Cond := [Cond.methodLink RX6 17 yX6_placeOfTwo, Cond.static yX6_placeOfTwo, Cond.code yX6_placeOfTwo cX6_placeOfTwo 2 (some .int), Cond.methodLink RX6 21 yX6_placeOfOne, Cond.static yX6_placeOfOne, Cond.code yX6_placeOfOne cX6_placeOfOne 1 (some .int), Cond.methodLink RX5 27 yX5_takes, Cond.instanceMethod yX5_takes, Cond.selects RX5 yX5_takes yX5_takes, Cond.code yX5_takes cX5_takes 2 (some .boolean), Cond.methodLink RX5 31 yX5_opens, Cond.instanceMethod yX5_opens, Cond.selects RX5 yX5_opens yX5_opens, Cond.code yX5_opens cX5_opens 3 (some .boolean), Cond.fieldLink RX5 41 "AlgebraLaws$Reader" "figures" "I", Cond.methodLink RX5 34 yX5_ends, Cond.instanceMethod yX5_ends, Cond.selects RX5 yX5_ends yX5_ends, Cond.code yX5_ends cX5_ends 1 (some .boolean), Cond.methodLink RX5 44 yX5_figuresDue, Cond.instanceMethod yX5_figuresDue, Cond.selects RX5 yX5_figuresDue yX5_figuresDue, Cond.code yX5_figuresDue cX5_figuresDue 1 (some .int), Cond.fieldLink RX5 48 "AlgebraLaws$Tables" "size" "I"]
noncomputable def wsX8_tables_r3 : List Cond := [Cond.methodLink RX5 38 yX5_takesFigure, Cond.instanceMethod yX5_takesFigure, Cond.selects RX5 yX5_takesFigure yX5_takesFigure, Cond.code yX5_takesFigure cX5_takesFigure 3 (some .boolean), Cond.methodLink RX5 51 yX5_takesSize, Cond.instanceMethod yX5_takesSize, Cond.selects RX5 yX5_takesSize yX5_takesSize, Cond.code yX5_takesSize cX5_takesSize 2 (some .boolean), Cond.methodLink RX5 54 yX5_takesValue, Cond.instanceMethod yX5_takesValue, Cond.selects RX5 yX5_takesValue yX5_takesValue, Cond.code yX5_takesValue cX5_takesValue 2 (some .boolean), Cond.methodLink RX5 57 yX6_has, Cond.instanceMethod yX6_has, Cond.selects RX6 yX6_has yX6_has, Cond.code yX6_has cX6_has 2 (some .boolean), Cond.methodLink RX5 60 yX6_placeOfOne, Cond.methodLink RX5 64 yX5_placeOfFigure, Cond.instanceMethod yX5_placeOfFigure, Cond.selects RX5 yX5_placeOfFigure yX5_placeOfFigure, Cond.code yX5_placeOfFigure cX5_placeOfFigure 2 (some .int), Cond.methodLink RX5 71 Lib.Math.max.name, Cond.static Lib.Math.max.name, Cond.initialized "java/lang/Math"]
noncomputable def wsX8_tables_r4 : List Cond := [Cond.code Lib.Math.max.name Lib.Math.max.code 2 (some .int), Cond.methodLink RX5 77 yX6_placeOfTwo, Cond.methodLink RX5 67 yX6_put, Cond.instanceMethod yX6_put, Cond.selects RX6 yX6_put yX6_put, Cond.code yX6_put cX6_put 3 none, Cond.methodLink RX8 73 yX6_copyFrom, Cond.instanceMethod yX6_copyFrom, Cond.selects RX6 yX6_copyFrom yX6_copyFrom, Cond.code yX6_copyFrom cX6_copyFrom 2 none, Cond.methodLink RX6 25 arraycopyName, Cond.native arraycopyName, Cond.static arraycopyName, Cond.initialized "java/lang/System", Cond.methodLink RX8 77 yX2_loseAll, Cond.instanceMethod yX2_loseAll, Cond.selects RX2 yX2_loseAll yX2_loseAll, Cond.initialized RX2, Cond.code yX2_loseAll cX2_loseAll 1 none, Cond.fieldLink RX2 16 "AlgebraLaws$History" "known" "I"]
noncomputable def wsX8_tables : List Cond := .code yX8_tables cX8_tables 2 (some .int) :: ((wsX8_tables_r1 ++ (wsX8_tables_r2 ++ (wsX8_tables_r3 ++ wsX8_tables_r4))) ++ wsX80 ++ wsX50 ++ wsX60 ++ wsX20)
noncomputable def wsX8_f : List Cond := .code yX8_f cX8_f 3 (some .int) :: ([.fieldLink RX8 10 "AlgebraLaws" "now" "LAlgebraLaws$Tables;", .methodLink RX8 89 yX6_has, .instanceMethod yX6_has, .selects RX6 yX6_has yX6_has, .initialized RX6, .code yX6_has cX6_has 2 (some .boolean), .fieldLink RX6 13 "AlgebraLaws$Tables" "size" "I", .methodLink RX8 93 yX6_two, .instanceMethod yX6_two, .selects RX6 yX6_two yX6_two, .code yX6_two cX6_two 3 (some .int), .fieldLink RX6 9 "AlgebraLaws$Tables" "values" "[I", .methodLink RX6 17 yX6_placeOfTwo, .static yX6_placeOfTwo, .code yX6_placeOfTwo cX6_placeOfTwo 2 (some .int)] ++ wsX80 ++ wsX60)
noncomputable def wsX8_g : List Cond := .code yX8_g cX8_g 2 (some .int) :: ([.fieldLink RX8 10 "AlgebraLaws" "now" "LAlgebraLaws$Tables;", .methodLink RX8 89 yX6_has, .instanceMethod yX6_has, .selects RX6 yX6_has yX6_has, .initialized RX6, .code yX6_has cX6_has 2 (some .boolean), .fieldLink RX6 13 "AlgebraLaws$Tables" "size" "I", .methodLink RX8 97 yX6_one, .instanceMethod yX6_one, .selects RX6 yX6_one yX6_one, .code yX6_one cX6_one 2 (some .int), .fieldLink RX6 9 "AlgebraLaws$Tables" "values" "[I", .methodLink RX6 21 yX6_placeOfOne, .static yX6_placeOfOne, .code yX6_placeOfOne cX6_placeOfOne 1 (some .int)] ++ wsX80 ++ wsX60)
noncomputable def wsX8_sets_r1 : List Cond := [Cond.fieldLink RX8 10 "AlgebraLaws" "now" "LAlgebraLaws$Tables;", Cond.fieldLink RX8 29 "AlgebraLaws" "history" "LAlgebraLaws$History;", Cond.methodLink RX8 89 yX6_has, Cond.instanceMethod yX6_has, Cond.selects RX6 yX6_has yX6_has, Cond.initialized RX6, Cond.code yX6_has cX6_has 2 (some .boolean), Cond.fieldLink RX6 13 "AlgebraLaws$Tables" "size" "I", Cond.methodLink RX8 101 yX6_placeOfOne, Cond.static yX6_placeOfOne, Cond.code yX6_placeOfOne cX6_placeOfOne 1 (some .int), Cond.methodLink RX8 104 yX6_placeOfTwo, Cond.static yX6_placeOfTwo, Cond.code yX6_placeOfTwo cX6_placeOfTwo 2 (some .int), Cond.methodLink RX8 107 yX6_at, Cond.instanceMethod yX6_at, Cond.selects RX6 yX6_at yX6_at, Cond.code yX6_at cX6_at 2 (some .int), Cond.fieldLink RX6 9 "AlgebraLaws$Tables" "values" "[I", Cond.methodLink RX8 110 yX2_note, Cond.instanceMethod yX2_note, Cond.selects RX2 yX2_note yX2_note, Cond.initialized RX2, Cond.code yX2_note cX2_note 3 none]
noncomputable def wsX8_sets_r2 : List Cond := [Cond.fieldLink RX2 16 "AlgebraLaws$History" "known" "I", Cond.fieldLink RX2 9 "AlgebraLaws$History" "places" "[I", Cond.fieldLink RX2 13 "AlgebraLaws$History" "values" "[I", Cond.methodLink RX2 20 yX2_loseOldest, Cond.instanceMethod yX2_loseOldest, Cond.selects RX2 yX2_loseOldest yX2_loseOldest, Cond.code yX2_loseOldest cX2_loseOldest 1 none, Cond.methodLink RX2 23 arraycopyName, Cond.native arraycopyName, Cond.static arraycopyName, Cond.initialized "java/lang/System", Cond.methodLink RX8 114 yX6_put, Cond.instanceMethod yX6_put, Cond.selects RX6 yX6_put yX6_put, Cond.code yX6_put cX6_put 3 none]
noncomputable def wsX8_sets : List Cond := .code yX8_sets cX8_sets 6 (some .int) :: ((wsX8_sets_r1 ++ wsX8_sets_r2) ++ wsX80 ++ wsX60 ++ wsX20)
noncomputable def wsX8_undo : List Cond := .code yX8_undo cX8_undo 1 (some .int) :: ([.fieldLink RX8 29 "AlgebraLaws" "history" "LAlgebraLaws$History;", .fieldLink RX8 117 "AlgebraLaws$History" "known" "I", .fieldLink RX8 10 "AlgebraLaws" "now" "LAlgebraLaws$Tables;", .methodLink RX8 120 yX2_takeBackIn, .instanceMethod yX2_takeBackIn, .selects RX2 yX2_takeBackIn yX2_takeBackIn, .initialized RX2, .code yX2_takeBackIn cX2_takeBackIn 2 none, .fieldLink RX2 16 "AlgebraLaws$History" "known" "I", .fieldLink RX2 9 "AlgebraLaws$History" "places" "[I", .fieldLink RX2 13 "AlgebraLaws$History" "values" "[I", .methodLink RX2 29 yX6_put, .instanceMethod yX6_put, .selects RX6 yX6_put yX6_put, .initialized RX6, .code yX6_put cX6_put 3 none, .fieldLink RX6 9 "AlgebraLaws$Tables" "values" "[I"] ++ wsX80 ++ wsX20 ++ wsX60)
noncomputable def wsX8_made_r1 : List Cond := [Cond.fieldLink RX8 10 "AlgebraLaws" "now" "LAlgebraLaws$Tables;", Cond.methodLink RX8 123 yX6_allElements, Cond.instanceMethod yX6_allElements, Cond.selects RX6 yX6_allElements yX6_allElements, Cond.initialized RX6, Cond.code yX6_allElements cX6_allElements 1 (some .int), Cond.fieldLink RX6 13 "AlgebraLaws$Tables" "size" "I", Cond.methodLink RX8 127 yX0_leastAround, Cond.static yX0_leastAround, Cond.initialized RX0, Cond.code yX0_leastAround cX0_leastAround 4 (some .int), Cond.methodLink RX0 11 yX0_valuesIn, Cond.static yX0_valuesIn, Cond.code yX0_valuesIn cX0_valuesIn 5 (some .int), Cond.fieldLink RX0 25 "AlgebraLaws$Tables" "size" "I", Cond.methodLink RX0 29 yX6_one, Cond.instanceMethod yX6_one, Cond.selects RX6 yX6_one yX6_one, Cond.code yX6_one cX6_one 2 (some .int), Cond.fieldLink RX6 9 "AlgebraLaws$Tables" "values" "[I", Cond.methodLink RX6 21 yX6_placeOfOne, Cond.static yX6_placeOfOne, Cond.code yX6_placeOfOne cX6_placeOfOne 1 (some .int), Cond.methodLink RX0 33 yX6_two]
noncomputable def wsX8_made_r2 : List Cond := [Cond.instanceMethod yX6_two, Cond.selects RX6 yX6_two yX6_two, Cond.code yX6_two cX6_two 3 (some .int), Cond.methodLink RX6 17 yX6_placeOfTwo, Cond.static yX6_placeOfTwo, Cond.code yX6_placeOfTwo cX6_placeOfTwo 2 (some .int)]
noncomputable def wsX8_made : List Cond := .code yX8_made cX8_made 2 (some .int) :: ((wsX8_made_r1 ++ wsX8_made_r2) ++ wsX80 ++ wsX60)
noncomputable def wsX8_closed_r1 : List Cond := [Cond.fieldLink RX8 10 "AlgebraLaws" "now" "LAlgebraLaws$Tables;", Cond.methodLink RX8 133 yX0_byNumber, Cond.static yX0_byNumber, Cond.initialized RX0, Cond.code yX0_byNumber cX0_byNumber 4 (some .int), Cond.methodLink RX0 17 yX6_allElements, Cond.instanceMethod yX6_allElements, Cond.selects RX6 yX6_allElements yX6_allElements, Cond.initialized RX6, Cond.code yX6_allElements cX6_allElements 1 (some .int), Cond.fieldLink RX6 13 "AlgebraLaws$Tables" "size" "I", Cond.methodLink RX0 21 yX0_isClosed, Cond.static yX0_isClosed, Cond.code yX0_isClosed cX0_isClosed 2 (some .boolean), Cond.methodLink RX0 11 yX0_valuesIn, Cond.static yX0_valuesIn, Cond.code yX0_valuesIn cX0_valuesIn 5 (some .int), Cond.fieldLink RX0 25 "AlgebraLaws$Tables" "size" "I", Cond.methodLink RX0 29 yX6_one, Cond.instanceMethod yX6_one, Cond.selects RX6 yX6_one yX6_one, Cond.code yX6_one cX6_one 2 (some .int), Cond.fieldLink RX6 9 "AlgebraLaws$Tables" "values" "[I", Cond.methodLink RX6 21 yX6_placeOfOne]
noncomputable def wsX8_closed_r2 : List Cond := [Cond.static yX6_placeOfOne, Cond.code yX6_placeOfOne cX6_placeOfOne 1 (some .int), Cond.methodLink RX0 33 yX6_two, Cond.instanceMethod yX6_two, Cond.selects RX6 yX6_two yX6_two, Cond.code yX6_two cX6_two 3 (some .int), Cond.methodLink RX6 17 yX6_placeOfTwo, Cond.static yX6_placeOfTwo, Cond.code yX6_placeOfTwo cX6_placeOfTwo 2 (some .int)]
noncomputable def wsX8_closed : List Cond := .code yX8_closed cX8_closed 2 (some .int) :: ((wsX8_closed_r1 ++ wsX8_closed_r2) ++ wsX80 ++ wsX60)
noncomputable def wsX8_law_r1 : List Cond := [Cond.fieldLink RX8 10 "AlgebraLaws" "now" "LAlgebraLaws$Tables;", Cond.methodLink RX8 136 yX3_isThere, Cond.static yX3_isThere, Cond.initialized RX3, Cond.code yX3_isThere cX3_isThere 1 (some .boolean), Cond.methodLink RX8 141 yX3_firstAgainst, Cond.static yX3_firstAgainst, Cond.code yX3_firstAgainst cX3_firstAgainst 7 (some .int), Cond.fieldLink RX3 15 "AlgebraLaws$Tables" "size" "I", Cond.methodLink RX3 21 yX3_isSo, Cond.static yX3_isSo, Cond.code yX3_isSo cX3_isSo 5 (some .boolean), Cond.methodLink RX3 25 yX6_two, Cond.instanceMethod yX6_two, Cond.selects RX6 yX6_two yX6_two, Cond.initialized RX6, Cond.code yX6_two cX6_two 3 (some .int), Cond.fieldLink RX6 9 "AlgebraLaws$Tables" "values" "[I", Cond.methodLink RX6 17 yX6_placeOfTwo, Cond.static yX6_placeOfTwo, Cond.code yX6_placeOfTwo cX6_placeOfTwo 2 (some .int), Cond.methodLink RX3 29 yX6_one, Cond.instanceMethod yX6_one, Cond.selects RX6 yX6_one yX6_one]
noncomputable def wsX8_law_r2 : List Cond := [Cond.code yX6_one cX6_one 2 (some .int), Cond.methodLink RX6 21 yX6_placeOfOne, Cond.static yX6_placeOfOne, Cond.code yX6_placeOfOne cX6_placeOfOne 1 (some .int)]
noncomputable def wsX8_law : List Cond := .code yX8_law cX8_law 2 (some .int) :: ((wsX8_law_r1 ++ wsX8_law_r2) ++ wsX80 ++ wsX60)
noncomputable def wsX8_change_r1 : List Cond := [Cond.fieldLink RX8 10 "AlgebraLaws" "now" "LAlgebraLaws$Tables;", Cond.fieldLink RX8 16 "AlgebraLaws" "trial" "LAlgebraLaws$Tables;", Cond.methodLink RX8 136 yX3_isThere, Cond.static yX3_isThere, Cond.initialized RX3, Cond.code yX3_isThere cX3_isThere 1 (some .boolean), Cond.methodLink RX8 144 yX3_holds, Cond.static yX3_holds, Cond.code yX3_holds cX3_holds 2 (some .boolean), Cond.methodLink RX3 11 yX3_firstAgainst, Cond.static yX3_firstAgainst, Cond.code yX3_firstAgainst cX3_firstAgainst 7 (some .int), Cond.fieldLink RX3 15 "AlgebraLaws$Tables" "size" "I", Cond.methodLink RX3 21 yX3_isSo, Cond.static yX3_isSo, Cond.code yX3_isSo cX3_isSo 5 (some .boolean), Cond.methodLink RX3 25 yX6_two, Cond.instanceMethod yX6_two, Cond.selects RX6 yX6_two yX6_two, Cond.initialized RX6, Cond.code yX6_two cX6_two 3 (some .int), Cond.fieldLink RX6 9 "AlgebraLaws$Tables" "values" "[I", Cond.methodLink RX6 17 yX6_placeOfTwo, Cond.static yX6_placeOfTwo]
noncomputable def wsX8_change_r2 : List Cond := [Cond.code yX6_placeOfTwo cX6_placeOfTwo 2 (some .int), Cond.methodLink RX3 29 yX6_one, Cond.instanceMethod yX6_one, Cond.selects RX6 yX6_one yX6_one, Cond.code yX6_one cX6_one 2 (some .int), Cond.methodLink RX6 21 yX6_placeOfOne, Cond.static yX6_placeOfOne, Cond.code yX6_placeOfOne cX6_placeOfOne 1 (some .int), Cond.methodLink RX8 73 yX6_copyFrom, Cond.instanceMethod yX6_copyFrom, Cond.selects RX6 yX6_copyFrom yX6_copyFrom, Cond.code yX6_copyFrom cX6_copyFrom 2 none, Cond.fieldLink RX6 13 "AlgebraLaws$Tables" "size" "I", Cond.methodLink RX6 25 arraycopyName, Cond.native arraycopyName, Cond.static arraycopyName, Cond.initialized "java/lang/System", Cond.methodLink RX8 148 yX3_leastChange, Cond.static yX3_leastChange, Cond.code yX3_leastChange cX3_leastChange 5 (some .int), Cond.methodLink RX3 37 yX6_placeOfTwo, Cond.methodLink RX3 40 yX3_leastValue, Cond.static yX3_leastValue, Cond.code yX3_leastValue cX3_leastValue 6 (some .int)]
noncomputable def wsX8_change_r3 : List Cond := [Cond.methodLink RX3 44 yX6_at, Cond.instanceMethod yX6_at, Cond.selects RX6 yX6_at yX6_at, Cond.code yX6_at cX6_at 2 (some .int), Cond.methodLink RX3 47 yX6_put, Cond.instanceMethod yX6_put, Cond.selects RX6 yX6_put yX6_put, Cond.code yX6_put cX6_put 3 none, Cond.methodLink RX3 33 yX3_holds]
noncomputable def wsX8_change : List Cond := .code yX8_change cX8_change 2 (some .int) :: ((wsX8_change_r1 ++ (wsX8_change_r2 ++ wsX8_change_r3)) ++ wsX80 ++ wsX60)
noncomputable def wsX8_congruence_r1 : List Cond := [Cond.fieldLink RX8 36 "AlgebraLaws" "congruences" "LAlgebraLaws$Congruences;", Cond.fieldLink RX8 10 "AlgebraLaws" "now" "LAlgebraLaws$Tables;", Cond.methodLink RX8 151 yX1_seekIn, Cond.instanceMethod yX1_seekIn, Cond.selects RX1 yX1_seekIn yX1_seekIn, Cond.initialized RX1, Cond.code yX1_seekIn cX1_seekIn 3 none, Cond.fieldLink RX1 16 "AlgebraLaws$Tables" "size" "I", Cond.fieldLink RX1 22 "AlgebraLaws$Congruences" "size" "I", Cond.fieldLink RX1 23 "AlgebraLaws$Congruences" "found" "I", Cond.fieldLink RX1 7 "AlgebraLaws$Congruences" "PARTITIONS" "[I", Cond.fieldLink RX1 13 "AlgebraLaws$Congruences" "partitions" "[I", Cond.methodLink RX1 26 yX1_isOfFirst, Cond.static yX1_isOfFirst, Cond.code yX1_isOfFirst cX1_isOfFirst 3 (some .boolean), Cond.methodLink RX1 42 yX1_least, Cond.static yX1_least, Cond.code yX1_least cX1_least 2 (some .int), Cond.methodLink RX1 30 yX1_goesAlong, Cond.static yX1_goesAlong, Cond.code yX1_goesAlong cX1_goesAlong 5 (some .boolean), Cond.methodLink RX1 57 yX6_one, Cond.instanceMethod yX6_one, Cond.selects RX6 yX6_one yX6_one]
noncomputable def wsX8_congruence_r2 : List Cond := [Cond.initialized RX6, Cond.code yX6_one cX6_one 2 (some .int), Cond.fieldLink RX6 9 "AlgebraLaws$Tables" "values" "[I", Cond.methodLink RX6 21 yX6_placeOfOne, Cond.static yX6_placeOfOne, Cond.code yX6_placeOfOne cX6_placeOfOne 1 (some .int), Cond.methodLink RX1 46 yX1_together, Cond.static yX1_together, Cond.code yX1_together cX1_together 3 (some .boolean), Cond.methodLink RX1 60 yX6_two, Cond.instanceMethod yX6_two, Cond.selects RX6 yX6_two yX6_two, Cond.code yX6_two cX6_two 3 (some .int), Cond.methodLink RX6 17 yX6_placeOfTwo, Cond.static yX6_placeOfTwo, Cond.code yX6_placeOfTwo cX6_placeOfTwo 2 (some .int), Cond.methodLink RX8 154 yX1_isThere, Cond.instanceMethod yX1_isThere, Cond.selects RX1 yX1_isThere yX1_isThere, Cond.code yX1_isThere cX1_isThere 2 (some .boolean), Cond.methodLink RX8 155 yX1_nameOf, Cond.instanceMethod yX1_nameOf, Cond.selects RX1 yX1_nameOf yX1_nameOf, Cond.code yX1_nameOf cX1_nameOf 4 (some .int)]
noncomputable def wsX8_congruence_r3 : List Cond := [Cond.methodLink RX1 38 yX1_partition, Cond.instanceMethod yX1_partition, Cond.selects RX1 yX1_partition yX1_partition, Cond.code yX1_partition cX1_partition 2 (some .int), Cond.methodLink RX1 34 yX1_isThere]
noncomputable def wsX8_congruence : List Cond := .code yX8_congruence cX8_congruence 2 (some .int) :: ((wsX8_congruence_r1 ++ (wsX8_congruence_r2 ++ wsX8_congruence_r3)) ++ wsX80 ++ wsX60 ++ wsX10)
noncomputable def wsX8_principal_r1 : List Cond := [Cond.fieldLink RX8 10 "AlgebraLaws" "now" "LAlgebraLaws$Tables;", Cond.fieldLink RX8 36 "AlgebraLaws" "congruences" "LAlgebraLaws$Congruences;", Cond.methodLink RX8 89 yX6_has, Cond.instanceMethod yX6_has, Cond.selects RX6 yX6_has yX6_has, Cond.initialized RX6, Cond.code yX6_has cX6_has 2 (some .boolean), Cond.fieldLink RX6 13 "AlgebraLaws$Tables" "size" "I", Cond.methodLink RX8 151 yX1_seekIn, Cond.instanceMethod yX1_seekIn, Cond.selects RX1 yX1_seekIn yX1_seekIn, Cond.initialized RX1, Cond.code yX1_seekIn cX1_seekIn 3 none, Cond.fieldLink RX1 16 "AlgebraLaws$Tables" "size" "I", Cond.fieldLink RX1 22 "AlgebraLaws$Congruences" "size" "I", Cond.fieldLink RX1 23 "AlgebraLaws$Congruences" "found" "I", Cond.fieldLink RX1 7 "AlgebraLaws$Congruences" "PARTITIONS" "[I", Cond.fieldLink RX1 13 "AlgebraLaws$Congruences" "partitions" "[I", Cond.methodLink RX1 26 yX1_isOfFirst, Cond.static yX1_isOfFirst, Cond.code yX1_isOfFirst cX1_isOfFirst 3 (some .boolean), Cond.methodLink RX1 42 yX1_least, Cond.static yX1_least, Cond.code yX1_least cX1_least 2 (some .int)]
noncomputable def wsX8_principal_r2 : List Cond := [Cond.methodLink RX1 30 yX1_goesAlong, Cond.static yX1_goesAlong, Cond.code yX1_goesAlong cX1_goesAlong 5 (some .boolean), Cond.methodLink RX1 57 yX6_one, Cond.instanceMethod yX6_one, Cond.selects RX6 yX6_one yX6_one, Cond.code yX6_one cX6_one 2 (some .int), Cond.fieldLink RX6 9 "AlgebraLaws$Tables" "values" "[I", Cond.methodLink RX6 21 yX6_placeOfOne, Cond.static yX6_placeOfOne, Cond.code yX6_placeOfOne cX6_placeOfOne 1 (some .int), Cond.methodLink RX1 46 yX1_together, Cond.static yX1_together, Cond.code yX1_together cX1_together 3 (some .boolean), Cond.methodLink RX1 60 yX6_two, Cond.instanceMethod yX6_two, Cond.selects RX6 yX6_two yX6_two, Cond.code yX6_two cX6_two 3 (some .int), Cond.methodLink RX6 17 yX6_placeOfTwo, Cond.static yX6_placeOfTwo, Cond.code yX6_placeOfTwo cX6_placeOfTwo 2 (some .int), Cond.methodLink RX8 158 yX1_finestWith, Cond.instanceMethod yX1_finestWith, Cond.selects RX1 yX1_finestWith yX1_finestWith]
noncomputable def wsX8_principal_r3 : List Cond := [Cond.code yX1_finestWith cX1_finestWith 4 (some .int), Cond.methodLink RX1 38 yX1_partition, Cond.instanceMethod yX1_partition, Cond.selects RX1 yX1_partition yX1_partition, Cond.code yX1_partition cX1_partition 2 (some .int), Cond.methodLink RX1 34 yX1_isThere, Cond.instanceMethod yX1_isThere, Cond.selects RX1 yX1_isThere yX1_isThere, Cond.code yX1_isThere cX1_isThere 2 (some .boolean)]
noncomputable def wsX8_principal : List Cond := .code yX8_principal cX8_principal 3 (some .int) :: ((wsX8_principal_r1 ++ (wsX8_principal_r2 ++ wsX8_principal_r3)) ++ wsX80 ++ wsX60 ++ wsX10)
noncomputable def wsX8_oneIf : List Cond := .code yX8_oneIf cX8_oneIf 1 (some .int) :: ([])
noncomputable def wsX8_pair_r1 : List Cond := [Cond.fieldLink RX8 36 "AlgebraLaws" "congruences" "LAlgebraLaws$Congruences;", Cond.fieldLink RX8 10 "AlgebraLaws" "now" "LAlgebraLaws$Tables;", Cond.methodLink RX8 151 yX1_seekIn, Cond.instanceMethod yX1_seekIn, Cond.selects RX1 yX1_seekIn yX1_seekIn, Cond.initialized RX1, Cond.code yX1_seekIn cX1_seekIn 3 none, Cond.fieldLink RX1 16 "AlgebraLaws$Tables" "size" "I", Cond.fieldLink RX1 22 "AlgebraLaws$Congruences" "size" "I", Cond.fieldLink RX1 23 "AlgebraLaws$Congruences" "found" "I", Cond.fieldLink RX1 7 "AlgebraLaws$Congruences" "PARTITIONS" "[I", Cond.fieldLink RX1 13 "AlgebraLaws$Congruences" "partitions" "[I", Cond.methodLink RX1 26 yX1_isOfFirst, Cond.static yX1_isOfFirst, Cond.code yX1_isOfFirst cX1_isOfFirst 3 (some .boolean), Cond.methodLink RX1 42 yX1_least, Cond.static yX1_least, Cond.code yX1_least cX1_least 2 (some .int), Cond.methodLink RX1 30 yX1_goesAlong, Cond.static yX1_goesAlong, Cond.code yX1_goesAlong cX1_goesAlong 5 (some .boolean), Cond.methodLink RX1 57 yX6_one, Cond.instanceMethod yX6_one, Cond.selects RX6 yX6_one yX6_one]
noncomputable def wsX8_pair_r2 : List Cond := [Cond.initialized RX6, Cond.code yX6_one cX6_one 2 (some .int), Cond.fieldLink RX6 9 "AlgebraLaws$Tables" "values" "[I", Cond.methodLink RX6 21 yX6_placeOfOne, Cond.static yX6_placeOfOne, Cond.code yX6_placeOfOne cX6_placeOfOne 1 (some .int), Cond.methodLink RX1 46 yX1_together, Cond.static yX1_together, Cond.code yX1_together cX1_together 3 (some .boolean), Cond.methodLink RX1 60 yX6_two, Cond.instanceMethod yX6_two, Cond.selects RX6 yX6_two yX6_two, Cond.code yX6_two cX6_two 3 (some .int), Cond.methodLink RX6 17 yX6_placeOfTwo, Cond.static yX6_placeOfTwo, Cond.code yX6_placeOfTwo cX6_placeOfTwo 2 (some .int), Cond.methodLink RX8 154 yX1_isThere, Cond.instanceMethod yX1_isThere, Cond.selects RX1 yX1_isThere yX1_isThere, Cond.code yX1_isThere cX1_isThere 2 (some .boolean), Cond.methodLink RX8 161 yX1_join, Cond.instanceMethod yX1_join, Cond.selects RX1 yX1_join yX1_join, Cond.code yX1_join cX1_join 4 (some .int)]
noncomputable def wsX8_pair_r3 : List Cond := [Cond.methodLink RX1 50 yX1_isFiner, Cond.instanceMethod yX1_isFiner, Cond.selects RX1 yX1_isFiner yX1_isFiner, Cond.code yX1_isFiner cX1_isFiner 4 (some .boolean), Cond.methodLink RX1 38 yX1_partition, Cond.instanceMethod yX1_partition, Cond.selects RX1 yX1_partition yX1_partition, Cond.code yX1_partition cX1_partition 2 (some .int), Cond.methodLink RX1 34 yX1_isThere, Cond.methodLink RX8 164 yX1_meet, Cond.instanceMethod yX1_meet, Cond.selects RX1 yX1_meet yX1_meet, Cond.code yX1_meet cX1_meet 4 (some .int), Cond.methodLink RX8 167 yX1_permute, Cond.instanceMethod yX1_permute, Cond.selects RX1 yX1_permute yX1_permute, Cond.code yX1_permute cX1_permute 5 (some .boolean), Cond.methodLink RX1 53 yX1_isLinked, Cond.instanceMethod yX1_isLinked, Cond.selects RX1 yX1_isLinked yX1_isLinked, Cond.code yX1_isLinked cX1_isLinked 6 (some .boolean), Cond.methodLink RX8 171 yX8_oneIf, Cond.static yX8_oneIf, Cond.initialized RX8]
noncomputable def wsX8_pair_r4 : List Cond := [Cond.code yX8_oneIf cX8_oneIf 1 (some .int), Cond.methodLink RX8 175 yX1_isFiner]
noncomputable def wsX8_pair : List Cond := .code yX8_pair cX8_pair 4 (some .int) :: ((wsX8_pair_r1 ++ (wsX8_pair_r2 ++ (wsX8_pair_r3 ++ wsX8_pair_r4))) ++ wsX80 ++ wsX60 ++ wsX10)
noncomputable def wsX8_free_r1 : List Cond := [Cond.fieldLink RX8 43 "AlgebraLaws" "terms" "LAlgebraLaws$Terms;", Cond.fieldLink RX8 10 "AlgebraLaws" "now" "LAlgebraLaws$Tables;", Cond.fieldLink RX8 181 "AlgebraLaws$Terms" "howMany" "I", Cond.fieldLink RX8 184 "AlgebraLaws$Terms" "rounds" "I", Cond.methodLink RX8 178 yX7_makeFree, Cond.instanceMethod yX7_makeFree, Cond.selects RX7 yX7_makeFree yX7_makeFree, Cond.initialized RX7, Cond.code yX7_makeFree cX7_makeFree 5 (some .boolean), Cond.fieldLink RX7 28 "AlgebraLaws$Tables" "size" "I", Cond.constantLong RX7 36 (-1), Cond.fieldLink RX7 38 "AlgebraLaws$Terms" "goal" "J", Cond.methodLink RX7 25 yX7_startOver, Cond.instanceMethod yX7_startOver, Cond.selects RX7 yX7_startOver yX7_startOver, Cond.code yX7_startOver cX7_startOver 1 none, Cond.fieldLink RX7 46 "AlgebraLaws$Terms" "howMany" "I", Cond.fieldLink RX7 49 "AlgebraLaws$Terms" "rounds" "I", Cond.fieldLink RX7 13 "AlgebraLaws$Terms" "slots" "[I", Cond.fieldLink RX7 58 "AlgebraLaws$Terms" "firstLetter" "J", Cond.fieldLink RX7 61 "AlgebraLaws$Terms" "secondLetter" "J", Cond.fieldLink RX7 64 "AlgebraLaws$Terms" "thirdLetter" "J", Cond.fieldLink RX7 67 "AlgebraLaws$Terms" "width" "I", Cond.methodLink RX7 52 yJ7_fill_53178]
noncomputable def wsX8_free_r2 : List Cond := [Cond.static yJ7_fill_53178, Cond.initialized RJ7, Cond.code yJ7_fill_53178 cJ7_fill_53178 4 none, Cond.methodLink RX7 32 yX7_addWay, Cond.instanceMethod yX7_addWay, Cond.selects RX7 yX7_addWay yX7_addWay, Cond.code yX7_addWay cX7_addWay 5 none, Cond.methodLink RX7 70 yX7_valueHere, Cond.instanceMethod yX7_valueHere, Cond.selects RX7 yX7_valueHere yX7_valueHere, Cond.code yX7_valueHere cX7_valueHere 2 (some .long), Cond.methodLink RX7 74 yX7_joined, Cond.static yX7_joined, Cond.code yX7_joined cX7_joined 2 (some .long), Cond.methodLink RX7 42 yX7_grow, Cond.instanceMethod yX7_grow, Cond.selects RX7 yX7_grow yX7_grow, Cond.code yX7_grow cX7_grow 6 (some .boolean), Cond.fieldLink RX7 86 "AlgebraLaws$Terms" "isFound" "Z", Cond.methodLink RX7 78 yX7_add, Cond.instanceMethod yX7_add, Cond.selects RX7 yX7_add yX7_add, Cond.code yX7_add cX7_add 4 (some .boolean), Cond.fieldLink RX7 9 "AlgebraLaws$Terms" "rows" "[J"]
noncomputable def wsX8_free_r3 : List Cond := [Cond.methodLink RX7 82 yX7_slotOf, Cond.instanceMethod yX7_slotOf, Cond.selects RX7 yX7_slotOf yX7_slotOf, Cond.code yX7_slotOf cX7_slotOf 7 (some .int), Cond.constantLong RX7 117 (-7046029254386353131), Cond.methodLink RX7 90 yX7_makeRound, Cond.instanceMethod yX7_makeRound, Cond.selects RX7 yX7_makeRound yX7_makeRound, Cond.code yX7_makeRound cX7_makeRound 6 (some .boolean), Cond.methodLink RX7 93 yX7_layBehind, Cond.instanceMethod yX7_layBehind, Cond.selects RX7 yX7_layBehind yX7_layBehind, Cond.code yX7_layBehind cX7_layBehind 9 none, Cond.fieldLink RX7 19 "AlgebraLaws$Terms" "lowBehind" "[I", Cond.fieldLink RX7 22 "AlgebraLaws$Terms" "highBehind" "[I", Cond.methodLink RX7 105 yX7_whereIs, Cond.instanceMethod yX7_whereIs, Cond.selects RX7 yX7_whereIs yX7_whereIs, Cond.code yX7_whereIs cX7_whereIs 6 (some .int), Cond.methodLink RX7 109 yX6_two, Cond.instanceMethod yX6_two, Cond.selects RX6 yX6_two yX6_two, Cond.initialized RX6, Cond.code yX6_two cX6_two 3 (some .int)]
noncomputable def wsX8_free_r4 : List Cond := [Cond.fieldLink RX6 9 "AlgebraLaws$Tables" "values" "[I", Cond.methodLink RX6 17 yX6_placeOfTwo, Cond.static yX6_placeOfTwo, Cond.code yX6_placeOfTwo cX6_placeOfTwo 2 (some .int), Cond.methodLink RX7 97 yX7_ofOne, Cond.instanceMethod yX7_ofOne, Cond.selects RX7 yX7_ofOne yX7_ofOne, Cond.code yX7_ofOne cX7_ofOne 8 (some .long), Cond.methodLink RX7 113 yX6_one, Cond.instanceMethod yX6_one, Cond.selects RX6 yX6_one yX6_one, Cond.code yX6_one cX6_one 2 (some .int), Cond.methodLink RX6 21 yX6_placeOfOne, Cond.static yX6_placeOfOne, Cond.code yX6_placeOfOne cX6_placeOfOne 1 (some .int), Cond.methodLink RX7 101 yX7_ofTwo, Cond.instanceMethod yX7_ofTwo, Cond.selects RX7 yX7_ofTwo yX7_ofTwo, Cond.code yX7_ofTwo cX7_ofTwo 9 (some .long)]
noncomputable def wsX8_free : List Cond := .code yX8_free cX8_free 3 (some .int) :: ((wsX8_free_r1 ++ (wsX8_free_r2 ++ (wsX8_free_r3 ++ wsX8_free_r4))) ++ wsX80 ++ wsX70 ++ wsX60)
noncomputable def wsX8_term_r1 : List Cond := [Cond.fieldLink RX8 10 "AlgebraLaws" "now" "LAlgebraLaws$Tables;", Cond.fieldLink RX8 187 "AlgebraLaws$Tables" "size" "I", Cond.fieldLink RX8 43 "AlgebraLaws" "terms" "LAlgebraLaws$Terms;", Cond.fieldLink RX8 197 "AlgebraLaws$Terms" "isFound" "Z", Cond.methodLink RX8 190 yX7_seekMaltsev, Cond.instanceMethod yX7_seekMaltsev, Cond.selects RX7 yX7_seekMaltsev yX7_seekMaltsev, Cond.initialized RX7, Cond.code yX7_seekMaltsev cX7_seekMaltsev 4 (some .boolean), Cond.fieldLink RX7 28 "AlgebraLaws$Tables" "size" "I", Cond.methodLink RX7 25 yX7_startOver, Cond.instanceMethod yX7_startOver, Cond.selects RX7 yX7_startOver yX7_startOver, Cond.code yX7_startOver cX7_startOver 1 none, Cond.fieldLink RX7 46 "AlgebraLaws$Terms" "howMany" "I", Cond.fieldLink RX7 49 "AlgebraLaws$Terms" "rounds" "I", Cond.fieldLink RX7 13 "AlgebraLaws$Terms" "slots" "[I", Cond.fieldLink RX7 58 "AlgebraLaws$Terms" "firstLetter" "J", Cond.fieldLink RX7 61 "AlgebraLaws$Terms" "secondLetter" "J", Cond.fieldLink RX7 64 "AlgebraLaws$Terms" "thirdLetter" "J", Cond.fieldLink RX7 38 "AlgebraLaws$Terms" "goal" "J", Cond.fieldLink RX7 67 "AlgebraLaws$Terms" "width" "I", Cond.methodLink RX7 52 yJ7_fill_53178, Cond.static yJ7_fill_53178]
noncomputable def wsX8_term_r2 : List Cond := [Cond.initialized RJ7, Cond.code yJ7_fill_53178 cJ7_fill_53178 4 none, Cond.methodLink RX7 32 yX7_addWay, Cond.instanceMethod yX7_addWay, Cond.selects RX7 yX7_addWay yX7_addWay, Cond.code yX7_addWay cX7_addWay 5 none, Cond.methodLink RX7 70 yX7_valueHere, Cond.instanceMethod yX7_valueHere, Cond.selects RX7 yX7_valueHere yX7_valueHere, Cond.code yX7_valueHere cX7_valueHere 2 (some .long), Cond.methodLink RX7 74 yX7_joined, Cond.static yX7_joined, Cond.code yX7_joined cX7_joined 2 (some .long), Cond.methodLink RX7 42 yX7_grow, Cond.instanceMethod yX7_grow, Cond.selects RX7 yX7_grow yX7_grow, Cond.code yX7_grow cX7_grow 6 (some .boolean), Cond.fieldLink RX7 86 "AlgebraLaws$Terms" "isFound" "Z", Cond.methodLink RX7 78 yX7_add, Cond.instanceMethod yX7_add, Cond.selects RX7 yX7_add yX7_add, Cond.code yX7_add cX7_add 4 (some .boolean), Cond.fieldLink RX7 9 "AlgebraLaws$Terms" "rows" "[J", Cond.methodLink RX7 82 yX7_slotOf]
noncomputable def wsX8_term_r3 : List Cond := [Cond.instanceMethod yX7_slotOf, Cond.selects RX7 yX7_slotOf yX7_slotOf, Cond.code yX7_slotOf cX7_slotOf 7 (some .int), Cond.constantLong RX7 117 (-7046029254386353131), Cond.methodLink RX7 90 yX7_makeRound, Cond.instanceMethod yX7_makeRound, Cond.selects RX7 yX7_makeRound yX7_makeRound, Cond.code yX7_makeRound cX7_makeRound 6 (some .boolean), Cond.methodLink RX7 93 yX7_layBehind, Cond.instanceMethod yX7_layBehind, Cond.selects RX7 yX7_layBehind yX7_layBehind, Cond.code yX7_layBehind cX7_layBehind 9 none, Cond.fieldLink RX7 19 "AlgebraLaws$Terms" "lowBehind" "[I", Cond.fieldLink RX7 22 "AlgebraLaws$Terms" "highBehind" "[I", Cond.methodLink RX7 105 yX7_whereIs, Cond.instanceMethod yX7_whereIs, Cond.selects RX7 yX7_whereIs yX7_whereIs, Cond.code yX7_whereIs cX7_whereIs 6 (some .int), Cond.methodLink RX7 109 yX6_two, Cond.instanceMethod yX6_two, Cond.selects RX6 yX6_two yX6_two, Cond.initialized RX6, Cond.code yX6_two cX6_two 3 (some .int), Cond.fieldLink RX6 9 "AlgebraLaws$Tables" "values" "[I"]
noncomputable def wsX8_term_r4 : List Cond := [Cond.methodLink RX6 17 yX6_placeOfTwo, Cond.static yX6_placeOfTwo, Cond.code yX6_placeOfTwo cX6_placeOfTwo 2 (some .int), Cond.methodLink RX7 97 yX7_ofOne, Cond.instanceMethod yX7_ofOne, Cond.selects RX7 yX7_ofOne yX7_ofOne, Cond.code yX7_ofOne cX7_ofOne 8 (some .long), Cond.methodLink RX7 113 yX6_one, Cond.instanceMethod yX6_one, Cond.selects RX6 yX6_one yX6_one, Cond.code yX6_one cX6_one 2 (some .int), Cond.methodLink RX6 21 yX6_placeOfOne, Cond.static yX6_placeOfOne, Cond.code yX6_placeOfOne cX6_placeOfOne 1 (some .int), Cond.methodLink RX7 101 yX7_ofTwo, Cond.instanceMethod yX7_ofTwo, Cond.selects RX7 yX7_ofTwo yX7_ofTwo, Cond.code yX7_ofTwo cX7_ofTwo 9 (some .long), Cond.methodLink RX8 194 yX7_seekMajority, Cond.instanceMethod yX7_seekMajority, Cond.selects RX7 yX7_seekMajority yX7_seekMajority, Cond.code yX7_seekMajority cX7_seekMajority 4 (some .boolean), Cond.methodLink RX8 171 yX8_oneIf, Cond.static yX8_oneIf]
noncomputable def wsX8_term_r5 : List Cond := [Cond.initialized RX8, Cond.code yX8_oneIf cX8_oneIf 1 (some .int)]
noncomputable def wsX8_term : List Cond := .code yX8_term cX8_term 3 (some .int) :: ((wsX8_term_r1 ++ (wsX8_term_r2 ++ (wsX8_term_r3 ++ (wsX8_term_r4 ++ wsX8_term_r5)))) ++ wsX80 ++ wsX60 ++ wsX70)
noncomputable def wsX8_sees : List Cond := .code yX8_sees cX8_sees 2 (some .int) :: ([.fieldLink RX8 80 "AlgebraLaws" "seenSoFar" "I", .fieldLink RX8 51 "AlgebraLaws" "seen" "[I"] ++ wsX80)
noncomputable def wsX8_forget : List Cond := .code yX8_forget cX8_forget 2 (some .int) :: ([.fieldLink RX8 80 "AlgebraLaws" "seenSoFar" "I"] ++ wsX80)
noncomputable def wsX8_allSeenIs : List Cond := .code yX8_allSeenIs cX8_allSeenIs 3 (some .boolean) :: ([.fieldLink RX8 80 "AlgebraLaws" "seenSoFar" "I", .fieldLink RX8 51 "AlgebraLaws" "seen" "[I"] ++ wsX80)
noncomputable def wsX8_someOtherValueFits_r1 : List Cond := [Cond.fieldLink RX8 10 "AlgebraLaws" "now" "LAlgebraLaws$Tables;", Cond.fieldLink RX8 187 "AlgebraLaws$Tables" "size" "I", Cond.fieldLink RX8 16 "AlgebraLaws" "trial" "LAlgebraLaws$Tables;", Cond.methodLink RX8 107 yX6_at, Cond.instanceMethod yX6_at, Cond.selects RX6 yX6_at yX6_at, Cond.initialized RX6, Cond.code yX6_at cX6_at 2 (some .int), Cond.fieldLink RX6 9 "AlgebraLaws$Tables" "values" "[I", Cond.methodLink RX8 114 yX6_put, Cond.instanceMethod yX6_put, Cond.selects RX6 yX6_put yX6_put, Cond.code yX6_put cX6_put 3 none, Cond.methodLink RX8 204 yX0_howMany, Cond.static yX0_howMany, Cond.initialized RX0, Cond.code yX0_howMany cX0_howMany 3 (some .int), Cond.methodLink RX0 17 yX6_allElements, Cond.instanceMethod yX6_allElements, Cond.selects RX6 yX6_allElements yX6_allElements, Cond.code yX6_allElements cX6_allElements 1 (some .int), Cond.fieldLink RX6 13 "AlgebraLaws$Tables" "size" "I", Cond.methodLink RX0 21 yX0_isClosed, Cond.static yX0_isClosed]
noncomputable def wsX8_someOtherValueFits_r2 : List Cond := [Cond.code yX0_isClosed cX0_isClosed 2 (some .boolean), Cond.methodLink RX0 11 yX0_valuesIn, Cond.static yX0_valuesIn, Cond.code yX0_valuesIn cX0_valuesIn 5 (some .int), Cond.fieldLink RX0 25 "AlgebraLaws$Tables" "size" "I", Cond.methodLink RX0 29 yX6_one, Cond.instanceMethod yX6_one, Cond.selects RX6 yX6_one yX6_one, Cond.code yX6_one cX6_one 2 (some .int), Cond.methodLink RX6 21 yX6_placeOfOne, Cond.static yX6_placeOfOne, Cond.code yX6_placeOfOne cX6_placeOfOne 1 (some .int), Cond.methodLink RX0 33 yX6_two, Cond.instanceMethod yX6_two, Cond.selects RX6 yX6_two yX6_two, Cond.code yX6_two cX6_two 3 (some .int), Cond.methodLink RX6 17 yX6_placeOfTwo, Cond.static yX6_placeOfTwo, Cond.code yX6_placeOfTwo cX6_placeOfTwo 2 (some .int), Cond.methodLink RX8 207 yX8_allSeenIs, Cond.instanceMethod yX8_allSeenIs, Cond.selects RX8 yX8_allSeenIs yX8_allSeenIs, Cond.initialized RX8, Cond.code yX8_allSeenIs cX8_allSeenIs 3 (some .boolean)]
noncomputable def wsX8_someOtherValueFits_r3 : List Cond := [Cond.fieldLink RX8 80 "AlgebraLaws" "seenSoFar" "I", Cond.fieldLink RX8 51 "AlgebraLaws" "seen" "[I"]
noncomputable def wsX8_someOtherValueFits : List Cond := .code yX8_someOtherValueFits cX8_someOtherValueFits 5 (some .boolean) :: ((wsX8_someOtherValueFits_r1 ++ (wsX8_someOtherValueFits_r2 ++ wsX8_someOtherValueFits_r3)) ++ wsX80 ++ wsX60)
noncomputable def wsX8_unseen_r1 : List Cond := [Cond.fieldLink RX8 16 "AlgebraLaws" "trial" "LAlgebraLaws$Tables;", Cond.fieldLink RX8 10 "AlgebraLaws" "now" "LAlgebraLaws$Tables;", Cond.fieldLink RX8 187 "AlgebraLaws$Tables" "size" "I", Cond.methodLink RX8 73 yX6_copyFrom, Cond.instanceMethod yX6_copyFrom, Cond.selects RX6 yX6_copyFrom yX6_copyFrom, Cond.initialized RX6, Cond.code yX6_copyFrom cX6_copyFrom 2 none, Cond.fieldLink RX6 13 "AlgebraLaws$Tables" "size" "I", Cond.fieldLink RX6 9 "AlgebraLaws$Tables" "values" "[I", Cond.methodLink RX6 25 arraycopyName, Cond.native arraycopyName, Cond.static arraycopyName, Cond.initialized "java/lang/System", Cond.methodLink RX8 104 yX6_placeOfTwo, Cond.static yX6_placeOfTwo, Cond.code yX6_placeOfTwo cX6_placeOfTwo 2 (some .int), Cond.methodLink RX8 201 yX8_someOtherValueFits, Cond.instanceMethod yX8_someOtherValueFits, Cond.selects RX8 yX8_someOtherValueFits yX8_someOtherValueFits, Cond.initialized RX8, Cond.code yX8_someOtherValueFits cX8_someOtherValueFits 5 (some .boolean), Cond.methodLink RX8 107 yX6_at, Cond.instanceMethod yX6_at]
noncomputable def wsX8_unseen_r2 : List Cond := [Cond.selects RX6 yX6_at yX6_at, Cond.code yX6_at cX6_at 2 (some .int), Cond.methodLink RX8 114 yX6_put, Cond.instanceMethod yX6_put, Cond.selects RX6 yX6_put yX6_put, Cond.code yX6_put cX6_put 3 none, Cond.methodLink RX8 204 yX0_howMany, Cond.static yX0_howMany, Cond.initialized RX0, Cond.code yX0_howMany cX0_howMany 3 (some .int), Cond.methodLink RX0 17 yX6_allElements, Cond.instanceMethod yX6_allElements, Cond.selects RX6 yX6_allElements yX6_allElements, Cond.code yX6_allElements cX6_allElements 1 (some .int), Cond.methodLink RX0 21 yX0_isClosed, Cond.static yX0_isClosed, Cond.code yX0_isClosed cX0_isClosed 2 (some .boolean), Cond.methodLink RX0 11 yX0_valuesIn, Cond.static yX0_valuesIn, Cond.code yX0_valuesIn cX0_valuesIn 5 (some .int), Cond.fieldLink RX0 25 "AlgebraLaws$Tables" "size" "I", Cond.methodLink RX0 29 yX6_one, Cond.instanceMethod yX6_one, Cond.selects RX6 yX6_one yX6_one]
noncomputable def wsX8_unseen_r3 : List Cond := [Cond.code yX6_one cX6_one 2 (some .int), Cond.methodLink RX6 21 yX6_placeOfOne, Cond.static yX6_placeOfOne, Cond.code yX6_placeOfOne cX6_placeOfOne 1 (some .int), Cond.methodLink RX0 33 yX6_two, Cond.instanceMethod yX6_two, Cond.selects RX6 yX6_two yX6_two, Cond.code yX6_two cX6_two 3 (some .int), Cond.methodLink RX6 17 yX6_placeOfTwo, Cond.methodLink RX8 207 yX8_allSeenIs, Cond.instanceMethod yX8_allSeenIs, Cond.selects RX8 yX8_allSeenIs yX8_allSeenIs, Cond.code yX8_allSeenIs cX8_allSeenIs 3 (some .boolean), Cond.fieldLink RX8 80 "AlgebraLaws" "seenSoFar" "I", Cond.fieldLink RX8 51 "AlgebraLaws" "seen" "[I"]
noncomputable def wsX8_unseen : List Cond := .code yX8_unseen cX8_unseen 4 (some .int) :: ((wsX8_unseen_r1 ++ (wsX8_unseen_r2 ++ wsX8_unseen_r3)) ++ wsX80 ++ wsX60)
noncomputable def wsX8_keep : List Cond := .code yX8_keep cX8_keep 2 (some .int) :: ([.fieldLink RX8 54 "AlgebraLaws" "images" "[LAlgebraLaws$Tables;", .fieldLink RX8 10 "AlgebraLaws" "now" "LAlgebraLaws$Tables;", .fieldLink RX8 83 "AlgebraLaws" "keptImages" "I", .fieldLink RX8 187 "AlgebraLaws$Tables" "size" "I", .methodLink RX8 73 yX6_copyFrom, .instanceMethod yX6_copyFrom, .selects RX6 yX6_copyFrom yX6_copyFrom, .initialized RX6, .code yX6_copyFrom cX6_copyFrom 2 none, .fieldLink RX6 13 "AlgebraLaws$Tables" "size" "I", .fieldLink RX6 9 "AlgebraLaws$Tables" "values" "[I", .methodLink RX6 25 arraycopyName, .native arraycopyName, .static arraycopyName, .initialized "java/lang/System"] ++ wsX80 ++ wsX60)
noncomputable def wsX8_back : List Cond := .code yX8_back cX8_back 2 (some .int) :: ([.fieldLink RX8 54 "AlgebraLaws" "images" "[LAlgebraLaws$Tables;", .fieldLink RX8 83 "AlgebraLaws" "keptImages" "I", .fieldLink RX8 10 "AlgebraLaws" "now" "LAlgebraLaws$Tables;", .fieldLink RX8 29 "AlgebraLaws" "history" "LAlgebraLaws$History;", .fieldLink RX8 187 "AlgebraLaws$Tables" "size" "I", .methodLink RX8 73 yX6_copyFrom, .instanceMethod yX6_copyFrom, .selects RX6 yX6_copyFrom yX6_copyFrom, .initialized RX6, .code yX6_copyFrom cX6_copyFrom 2 none, .fieldLink RX6 13 "AlgebraLaws$Tables" "size" "I", .fieldLink RX6 9 "AlgebraLaws$Tables" "values" "[I", .methodLink RX6 25 arraycopyName, .native arraycopyName, .static arraycopyName, .initialized "java/lang/System", .methodLink RX8 77 yX2_loseAll, .instanceMethod yX2_loseAll, .selects RX2 yX2_loseAll yX2_loseAll, .initialized RX2, .code yX2_loseAll cX2_loseAll 1 none, .fieldLink RX2 16 "AlgebraLaws$History" "known" "I"] ++ wsX80 ++ wsX60 ++ wsX20)
noncomputable def wsX8_count_r1 : List Cond := [Cond.fieldLink RX8 10 "AlgebraLaws" "now" "LAlgebraLaws$Tables;", Cond.fieldLink RX8 187 "AlgebraLaws$Tables" "size" "I", Cond.fieldLink RX8 36 "AlgebraLaws" "congruences" "LAlgebraLaws$Congruences;", Cond.fieldLink RX8 210 "AlgebraLaws$Congruences" "found" "I", Cond.fieldLink RX8 80 "AlgebraLaws" "seenSoFar" "I", Cond.fieldLink RX8 62 "AlgebraLaws" "letters" "I", Cond.fieldLink RX8 29 "AlgebraLaws" "history" "LAlgebraLaws$History;", Cond.fieldLink RX8 117 "AlgebraLaws$History" "known" "I", Cond.methodLink RX8 204 yX0_howMany, Cond.static yX0_howMany, Cond.initialized RX0, Cond.code yX0_howMany cX0_howMany 3 (some .int), Cond.methodLink RX0 17 yX6_allElements, Cond.instanceMethod yX6_allElements, Cond.selects RX6 yX6_allElements yX6_allElements, Cond.initialized RX6, Cond.code yX6_allElements cX6_allElements 1 (some .int), Cond.fieldLink RX6 13 "AlgebraLaws$Tables" "size" "I", Cond.methodLink RX0 21 yX0_isClosed, Cond.static yX0_isClosed, Cond.code yX0_isClosed cX0_isClosed 2 (some .boolean), Cond.methodLink RX0 11 yX0_valuesIn, Cond.static yX0_valuesIn, Cond.code yX0_valuesIn cX0_valuesIn 5 (some .int)]
noncomputable def wsX8_count_r2 : List Cond := [Cond.fieldLink RX0 25 "AlgebraLaws$Tables" "size" "I", Cond.methodLink RX0 29 yX6_one, Cond.instanceMethod yX6_one, Cond.selects RX6 yX6_one yX6_one, Cond.code yX6_one cX6_one 2 (some .int), Cond.fieldLink RX6 9 "AlgebraLaws$Tables" "values" "[I", Cond.methodLink RX6 21 yX6_placeOfOne, Cond.static yX6_placeOfOne, Cond.code yX6_placeOfOne cX6_placeOfOne 1 (some .int), Cond.methodLink RX0 33 yX6_two, Cond.instanceMethod yX6_two, Cond.selects RX6 yX6_two yX6_two, Cond.code yX6_two cX6_two 3 (some .int), Cond.methodLink RX6 17 yX6_placeOfTwo, Cond.static yX6_placeOfTwo, Cond.code yX6_placeOfTwo cX6_placeOfTwo 2 (some .int), Cond.methodLink RX8 151 yX1_seekIn, Cond.instanceMethod yX1_seekIn, Cond.selects RX1 yX1_seekIn yX1_seekIn, Cond.initialized RX1, Cond.code yX1_seekIn cX1_seekIn 3 none, Cond.fieldLink RX1 16 "AlgebraLaws$Tables" "size" "I", Cond.fieldLink RX1 22 "AlgebraLaws$Congruences" "size" "I", Cond.fieldLink RX1 23 "AlgebraLaws$Congruences" "found" "I"]
noncomputable def wsX8_count_r3 : List Cond := [Cond.fieldLink RX1 7 "AlgebraLaws$Congruences" "PARTITIONS" "[I", Cond.fieldLink RX1 13 "AlgebraLaws$Congruences" "partitions" "[I", Cond.methodLink RX1 26 yX1_isOfFirst, Cond.static yX1_isOfFirst, Cond.code yX1_isOfFirst cX1_isOfFirst 3 (some .boolean), Cond.methodLink RX1 42 yX1_least, Cond.static yX1_least, Cond.code yX1_least cX1_least 2 (some .int), Cond.methodLink RX1 30 yX1_goesAlong, Cond.static yX1_goesAlong, Cond.code yX1_goesAlong cX1_goesAlong 5 (some .boolean), Cond.methodLink RX1 57 yX6_one, Cond.methodLink RX1 46 yX1_together, Cond.static yX1_together, Cond.code yX1_together cX1_together 3 (some .boolean), Cond.methodLink RX1 60 yX6_two, Cond.methodLink RX8 213 yX3_thatHold, Cond.static yX3_thatHold, Cond.initialized RX3, Cond.code yX3_thatHold cX3_thatHold 3 (some .int), Cond.methodLink RX3 33 yX3_holds, Cond.static yX3_holds, Cond.code yX3_holds cX3_holds 2 (some .boolean), Cond.methodLink RX3 11 yX3_firstAgainst]
noncomputable def wsX8_count_r4 : List Cond := [Cond.static yX3_firstAgainst, Cond.code yX3_firstAgainst cX3_firstAgainst 7 (some .int), Cond.fieldLink RX3 15 "AlgebraLaws$Tables" "size" "I", Cond.methodLink RX3 21 yX3_isSo, Cond.static yX3_isSo, Cond.code yX3_isSo cX3_isSo 5 (some .boolean), Cond.methodLink RX3 25 yX6_two, Cond.methodLink RX3 29 yX6_one, Cond.methodLink RX8 216 yX4_howMany, Cond.static yX4_howMany, Cond.initialized RX4, Cond.code yX4_howMany cX4_howMany 4 (some .int), Cond.fieldLink RX4 7 "AlgebraLaws$Tables" "size" "I", Cond.methodLink RX4 13 yX4_isInside, Cond.static yX4_isInside, Cond.code yX4_isInside cX4_isInside 3 (some .boolean), Cond.methodLink RX4 25 yX4_of, Cond.static yX4_of, Cond.code yX4_of cX4_of 2 (some .int), Cond.methodLink RX4 29 yX6_has, Cond.instanceMethod yX6_has, Cond.selects RX6 yX6_has yX6_has, Cond.code yX6_has cX6_has 2 (some .boolean), Cond.methodLink RX4 19 yX4_isOnto]
noncomputable def wsX8_count_r5 : List Cond := [Cond.static yX4_isOnto, Cond.code yX4_isOnto cX4_isOnto 4 (some .boolean), Cond.methodLink RX4 33 yX6_allElements, Cond.methodLink RX4 22 yX4_goesAlong, Cond.static yX4_goesAlong, Cond.code yX4_goesAlong cX4_goesAlong 4 (some .boolean), Cond.methodLink RX4 37 yX6_one, Cond.methodLink RX4 41 yX6_two]
noncomputable def wsX8_count : List Cond := .code yX8_count cX8_count 2 (some .int) :: ((wsX8_count_r1 ++ (wsX8_count_r2 ++ (wsX8_count_r3 ++ (wsX8_count_r4 ++ wsX8_count_r5)))) ++ wsX80 ++ wsX60 ++ wsX10 ++ wsX20)
noncomputable def wsX9_begins : List Cond := .code yX9_begins cX9_begins 4 none :: ([])
noncomputable def wsX9_init : List Cond := .code yX9_init cX9_init 1 none :: ([.methodLink RX9 1 objectInit, .instanceMethod objectInit, .code objectInit ⟨#[0xb1]⟩ 1 none, .arrayClass .int, .fieldLink RX9 7 "AlgebraLawsModel" "now" "[I", .fieldLink RX9 13 "AlgebraLawsModel" "undos" "[I", .fieldLink RX9 16 "AlgebraLawsModel" "seen" "[I", .arrayClass .boolean, .fieldLink RX9 19 "AlgebraLawsModel" "isKept" "[Z", .fieldLink RX9 23 "AlgebraLawsModel" "kept" "[I", .fieldLink RX9 26 "AlgebraLawsModel" "text" "[I", .fieldLink RX9 29 "AlgebraLawsModel" "read" "[I", .fieldLink RX9 32 "AlgebraLawsModel" "congruences" "[I", .arrayClass .long, .fieldLink RX9 35 "AlgebraLawsModel" "terms" "[J", .methodLink RX9 39 yX9_begins, .static yX9_begins, .initialized RX9, .code yX9_begins cX9_begins 4 none] ++ wsX90)
noncomputable def wsX9_in : List Cond := .code yX9_in cX9_in 3 (some .boolean) :: ([])
noncomputable def wsX9_has : List Cond := .code yX9_has cX9_has 2 (some .boolean) :: ([])
noncomputable def wsX9_size : List Cond := .code yX9_size cX9_size 1 (some .int) :: ([.fieldLink RX9 7 "AlgebraLawsModel" "now" "[I"] ++ wsX90)
noncomputable def wsX9_ff : List Cond := .code yX9_ff cX9_ff 3 (some .int) :: ([.fieldLink RX9 7 "AlgebraLawsModel" "now" "[I"] ++ wsX90)
noncomputable def wsX9_gg : List Cond := .code yX9_gg cX9_gg 2 (some .int) :: ([.fieldLink RX9 7 "AlgebraLawsModel" "now" "[I"] ++ wsX90)
noncomputable def wsX9_is : List Cond := .code yX9_is cX9_is 2 (some .boolean) :: ([.methodLink RX9 43 yX9_size, .instanceMethod yX9_size, .selects RX9 yX9_size yX9_size, .initialized RX9, .code yX9_size cX9_size 1 (some .int), .fieldLink RX9 7 "AlgebraLawsModel" "now" "[I", .methodLink RX9 47 yX9_in, .static yX9_in, .code yX9_in cX9_in 3 (some .boolean)] ++ wsX90)
noncomputable def wsX9_type : List Cond := .code yX9_type cX9_type 2 (some .int) :: ([.fieldLink RX9 51 "AlgebraLawsModel" "letterMany" "I", .fieldLink RX9 26 "AlgebraLawsModel" "text" "[I", .methodLink RX9 47 yX9_in, .static yX9_in, .initialized RX9, .code yX9_in cX9_in 3 (some .boolean)] ++ wsX90)
noncomputable def wsX9_clear : List Cond := .code yX9_clear cX9_clear 2 (some .int) :: ([.fieldLink RX9 51 "AlgebraLawsModel" "letterMany" "I"] ++ wsX90)
noncomputable def wsX9_blanks : List Cond := .code yX9_blanks cX9_blanks 1 none :: ([.fieldLink RX9 55 "AlgebraLawsModel" "readAt" "I", .fieldLink RX9 51 "AlgebraLawsModel" "letterMany" "I", .fieldLink RX9 26 "AlgebraLawsModel" "text" "[I"] ++ wsX90)
noncomputable def wsX9_next : List Cond := .code yX9_next cX9_next 1 none :: ([.fieldLink RX9 55 "AlgebraLawsModel" "readAt" "I", .fieldLink RX9 61 "AlgebraLawsModel" "tokenAt" "I", .fieldLink RX9 51 "AlgebraLawsModel" "letterMany" "I", .fieldLink RX9 26 "AlgebraLawsModel" "text" "[I", .fieldLink RX9 64 "AlgebraLawsModel" "token" "I", .methodLink RX9 58 yX9_blanks, .instanceMethod yX9_blanks, .selects RX9 yX9_blanks yX9_blanks, .initialized RX9, .code yX9_blanks cX9_blanks 1 none] ++ wsX90)
noncomputable def wsX9_figure : List Cond := .code yX9_figure cX9_figure 3 (some .boolean) :: ([.fieldLink RX9 64 "AlgebraLawsModel" "token" "I", .methodLink RX9 67 yX9_next, .instanceMethod yX9_next, .selects RX9 yX9_next yX9_next, .initialized RX9, .code yX9_next cX9_next 1 none, .fieldLink RX9 55 "AlgebraLawsModel" "readAt" "I", .fieldLink RX9 61 "AlgebraLawsModel" "tokenAt" "I", .fieldLink RX9 51 "AlgebraLawsModel" "letterMany" "I", .fieldLink RX9 26 "AlgebraLawsModel" "text" "[I", .methodLink RX9 58 yX9_blanks, .instanceMethod yX9_blanks, .selects RX9 yX9_blanks yX9_blanks, .code yX9_blanks cX9_blanks 1 none, .methodLink RX9 47 yX9_in, .static yX9_in, .code yX9_in cX9_in 3 (some .boolean)] ++ wsX90)
noncomputable def wsX9_ends : List Cond := .code yX9_ends cX9_ends 1 (some .boolean) :: ([.fieldLink RX9 64 "AlgebraLawsModel" "token" "I", .methodLink RX9 67 yX9_next, .instanceMethod yX9_next, .selects RX9 yX9_next yX9_next, .initialized RX9, .code yX9_next cX9_next 1 none, .fieldLink RX9 55 "AlgebraLawsModel" "readAt" "I", .fieldLink RX9 61 "AlgebraLawsModel" "tokenAt" "I", .fieldLink RX9 51 "AlgebraLawsModel" "letterMany" "I", .fieldLink RX9 26 "AlgebraLawsModel" "text" "[I", .methodLink RX9 58 yX9_blanks, .instanceMethod yX9_blanks, .selects RX9 yX9_blanks yX9_blanks, .code yX9_blanks cX9_blanks 1 none] ++ wsX90)
noncomputable def wsX9_readsSize_r1 : List Cond := [Cond.fieldLink RX9 70 "AlgebraLawsModel" "readItems" "I", Cond.fieldLink RX9 29 "AlgebraLawsModel" "read" "[I", Cond.fieldLink RX9 64 "AlgebraLawsModel" "token" "I", Cond.methodLink RX9 73 yX9_figure, Cond.instanceMethod yX9_figure, Cond.selects RX9 yX9_figure yX9_figure, Cond.initialized RX9, Cond.code yX9_figure cX9_figure 3 (some .boolean), Cond.methodLink RX9 67 yX9_next, Cond.instanceMethod yX9_next, Cond.selects RX9 yX9_next yX9_next, Cond.code yX9_next cX9_next 1 none, Cond.fieldLink RX9 55 "AlgebraLawsModel" "readAt" "I", Cond.fieldLink RX9 61 "AlgebraLawsModel" "tokenAt" "I", Cond.fieldLink RX9 51 "AlgebraLawsModel" "letterMany" "I", Cond.fieldLink RX9 26 "AlgebraLawsModel" "text" "[I", Cond.methodLink RX9 58 yX9_blanks, Cond.instanceMethod yX9_blanks, Cond.selects RX9 yX9_blanks yX9_blanks, Cond.code yX9_blanks cX9_blanks 1 none, Cond.methodLink RX9 47 yX9_in, Cond.static yX9_in, Cond.code yX9_in cX9_in 3 (some .boolean), Cond.methodLink RX9 77 yX9_ends]
noncomputable def wsX9_readsSize_r2 : List Cond := [Cond.instanceMethod yX9_ends, Cond.selects RX9 yX9_ends yX9_ends, Cond.code yX9_ends cX9_ends 1 (some .boolean)]
noncomputable def wsX9_readsSize : List Cond := .code yX9_readsSize cX9_readsSize 1 (some .boolean) :: ((wsX9_readsSize_r1 ++ wsX9_readsSize_r2) ++ wsX90)
noncomputable def wsX9_readsF_r1 : List Cond := [Cond.fieldLink RX9 29 "AlgebraLawsModel" "read" "[I", Cond.fieldLink RX9 64 "AlgebraLawsModel" "token" "I", Cond.methodLink RX9 73 yX9_figure, Cond.instanceMethod yX9_figure, Cond.selects RX9 yX9_figure yX9_figure, Cond.initialized RX9, Cond.code yX9_figure cX9_figure 3 (some .boolean), Cond.methodLink RX9 67 yX9_next, Cond.instanceMethod yX9_next, Cond.selects RX9 yX9_next yX9_next, Cond.code yX9_next cX9_next 1 none, Cond.fieldLink RX9 55 "AlgebraLawsModel" "readAt" "I", Cond.fieldLink RX9 61 "AlgebraLawsModel" "tokenAt" "I", Cond.fieldLink RX9 51 "AlgebraLawsModel" "letterMany" "I", Cond.fieldLink RX9 26 "AlgebraLawsModel" "text" "[I", Cond.methodLink RX9 58 yX9_blanks, Cond.instanceMethod yX9_blanks, Cond.selects RX9 yX9_blanks yX9_blanks, Cond.code yX9_blanks cX9_blanks 1 none, Cond.methodLink RX9 47 yX9_in, Cond.static yX9_in, Cond.code yX9_in cX9_in 3 (some .boolean), Cond.methodLink RX9 77 yX9_ends, Cond.instanceMethod yX9_ends]
noncomputable def wsX9_readsF_r2 : List Cond := [Cond.selects RX9 yX9_ends yX9_ends, Cond.code yX9_ends cX9_ends 1 (some .boolean)]
noncomputable def wsX9_readsF : List Cond := .code yX9_readsF cX9_readsF 3 (some .boolean) :: ((wsX9_readsF_r1 ++ wsX9_readsF_r2) ++ wsX90)
noncomputable def wsX9_readsG_r1 : List Cond := [Cond.fieldLink RX9 29 "AlgebraLawsModel" "read" "[I", Cond.fieldLink RX9 64 "AlgebraLawsModel" "token" "I", Cond.methodLink RX9 73 yX9_figure, Cond.instanceMethod yX9_figure, Cond.selects RX9 yX9_figure yX9_figure, Cond.initialized RX9, Cond.code yX9_figure cX9_figure 3 (some .boolean), Cond.methodLink RX9 67 yX9_next, Cond.instanceMethod yX9_next, Cond.selects RX9 yX9_next yX9_next, Cond.code yX9_next cX9_next 1 none, Cond.fieldLink RX9 55 "AlgebraLawsModel" "readAt" "I", Cond.fieldLink RX9 61 "AlgebraLawsModel" "tokenAt" "I", Cond.fieldLink RX9 51 "AlgebraLawsModel" "letterMany" "I", Cond.fieldLink RX9 26 "AlgebraLawsModel" "text" "[I", Cond.methodLink RX9 58 yX9_blanks, Cond.instanceMethod yX9_blanks, Cond.selects RX9 yX9_blanks yX9_blanks, Cond.code yX9_blanks cX9_blanks 1 none, Cond.methodLink RX9 47 yX9_in, Cond.static yX9_in, Cond.code yX9_in cX9_in 3 (some .boolean), Cond.methodLink RX9 77 yX9_ends, Cond.instanceMethod yX9_ends]
noncomputable def wsX9_readsG_r2 : List Cond := [Cond.selects RX9 yX9_ends yX9_ends, Cond.code yX9_ends cX9_ends 1 (some .boolean)]
noncomputable def wsX9_readsG : List Cond := .code yX9_readsG cX9_readsG 2 (some .boolean) :: ((wsX9_readsG_r1 ++ wsX9_readsG_r2) ++ wsX90)
noncomputable def wsX9_readsItem_r1 : List Cond := [Cond.fieldLink RX9 64 "AlgebraLawsModel" "token" "I", Cond.methodLink RX9 67 yX9_next, Cond.instanceMethod yX9_next, Cond.selects RX9 yX9_next yX9_next, Cond.initialized RX9, Cond.code yX9_next cX9_next 1 none, Cond.fieldLink RX9 55 "AlgebraLawsModel" "readAt" "I", Cond.fieldLink RX9 61 "AlgebraLawsModel" "tokenAt" "I", Cond.fieldLink RX9 51 "AlgebraLawsModel" "letterMany" "I", Cond.fieldLink RX9 26 "AlgebraLawsModel" "text" "[I", Cond.methodLink RX9 58 yX9_blanks, Cond.instanceMethod yX9_blanks, Cond.selects RX9 yX9_blanks yX9_blanks, Cond.code yX9_blanks cX9_blanks 1 none, Cond.methodLink RX9 81 yX9_readsSize, Cond.instanceMethod yX9_readsSize, Cond.selects RX9 yX9_readsSize yX9_readsSize, Cond.code yX9_readsSize cX9_readsSize 1 (some .boolean), Cond.fieldLink RX9 70 "AlgebraLawsModel" "readItems" "I", Cond.fieldLink RX9 29 "AlgebraLawsModel" "read" "[I", Cond.methodLink RX9 73 yX9_figure, Cond.instanceMethod yX9_figure, Cond.selects RX9 yX9_figure yX9_figure, Cond.code yX9_figure cX9_figure 3 (some .boolean)]
noncomputable def wsX9_readsItem_r2 : List Cond := [Cond.methodLink RX9 47 yX9_in, Cond.static yX9_in, Cond.code yX9_in cX9_in 3 (some .boolean), Cond.methodLink RX9 77 yX9_ends, Cond.instanceMethod yX9_ends, Cond.selects RX9 yX9_ends yX9_ends, Cond.code yX9_ends cX9_ends 1 (some .boolean), Cond.methodLink RX9 84 yX9_readsF, Cond.instanceMethod yX9_readsF, Cond.selects RX9 yX9_readsF yX9_readsF, Cond.code yX9_readsF cX9_readsF 3 (some .boolean), Cond.methodLink RX9 87 yX9_readsG, Cond.instanceMethod yX9_readsG, Cond.selects RX9 yX9_readsG yX9_readsG, Cond.code yX9_readsG cX9_readsG 2 (some .boolean)]
noncomputable def wsX9_readsItem : List Cond := .code yX9_readsItem cX9_readsItem 1 (some .boolean) :: ((wsX9_readsItem_r1 ++ wsX9_readsItem_r2) ++ wsX90)
noncomputable def wsX9_tables_r1 : List Cond := [Cond.fieldLink RX9 29 "AlgebraLawsModel" "read" "[I", Cond.fieldLink RX9 55 "AlgebraLawsModel" "readAt" "I", Cond.fieldLink RX9 70 "AlgebraLawsModel" "readItems" "I", Cond.fieldLink RX9 51 "AlgebraLawsModel" "letterMany" "I", Cond.fieldLink RX9 61 "AlgebraLawsModel" "tokenAt" "I", Cond.fieldLink RX9 93 "AlgebraLawsModel" "faultAt" "I", Cond.fieldLink RX9 7 "AlgebraLawsModel" "now" "[I", Cond.fieldLink RX9 96 "AlgebraLawsModel" "undoMany" "I", Cond.fieldLink RX9 99 "AlgebraLawsModel" "seenMany" "I", Cond.fieldLink RX9 19 "AlgebraLawsModel" "isKept" "[Z", Cond.methodLink RX9 39 yX9_begins, Cond.static yX9_begins, Cond.initialized RX9, Cond.code yX9_begins cX9_begins 4 none, Cond.methodLink RX9 58 yX9_blanks, Cond.instanceMethod yX9_blanks, Cond.selects RX9 yX9_blanks yX9_blanks, Cond.code yX9_blanks cX9_blanks 1 none, Cond.fieldLink RX9 26 "AlgebraLawsModel" "text" "[I", Cond.methodLink RX9 90 yX9_readsItem, Cond.instanceMethod yX9_readsItem, Cond.selects RX9 yX9_readsItem yX9_readsItem, Cond.code yX9_readsItem cX9_readsItem 1 (some .boolean), Cond.fieldLink RX9 64 "AlgebraLawsModel" "token" "I"]
noncomputable def wsX9_tables_r2 : List Cond := [Cond.methodLink RX9 67 yX9_next, Cond.instanceMethod yX9_next, Cond.selects RX9 yX9_next yX9_next, Cond.code yX9_next cX9_next 1 none, Cond.methodLink RX9 81 yX9_readsSize, Cond.instanceMethod yX9_readsSize, Cond.selects RX9 yX9_readsSize yX9_readsSize, Cond.code yX9_readsSize cX9_readsSize 1 (some .boolean), Cond.methodLink RX9 73 yX9_figure, Cond.instanceMethod yX9_figure, Cond.selects RX9 yX9_figure yX9_figure, Cond.code yX9_figure cX9_figure 3 (some .boolean), Cond.methodLink RX9 47 yX9_in, Cond.static yX9_in, Cond.code yX9_in cX9_in 3 (some .boolean), Cond.methodLink RX9 77 yX9_ends, Cond.instanceMethod yX9_ends, Cond.selects RX9 yX9_ends yX9_ends, Cond.code yX9_ends cX9_ends 1 (some .boolean), Cond.methodLink RX9 84 yX9_readsF, Cond.instanceMethod yX9_readsF, Cond.selects RX9 yX9_readsF yX9_readsF, Cond.code yX9_readsF cX9_readsF 3 (some .boolean), Cond.methodLink RX9 87 yX9_readsG]
noncomputable def wsX9_tables_r3 : List Cond := [Cond.instanceMethod yX9_readsG, Cond.selects RX9 yX9_readsG yX9_readsG, Cond.code yX9_readsG cX9_readsG 2 (some .boolean)]
noncomputable def wsX9_tables : List Cond := .code yX9_tables cX9_tables 2 (some .int) :: ((wsX9_tables_r1 ++ (wsX9_tables_r2 ++ wsX9_tables_r3)) ++ wsX90)
noncomputable def wsX9_f : List Cond := .code yX9_f cX9_f 3 (some .int) :: ([.methodLink RX9 102 yX9_is, .instanceMethod yX9_is, .selects RX9 yX9_is yX9_is, .initialized RX9, .code yX9_is cX9_is 2 (some .boolean), .methodLink RX9 43 yX9_size, .instanceMethod yX9_size, .selects RX9 yX9_size yX9_size, .code yX9_size cX9_size 1 (some .int), .fieldLink RX9 7 "AlgebraLawsModel" "now" "[I", .methodLink RX9 47 yX9_in, .static yX9_in, .code yX9_in cX9_in 3 (some .boolean), .methodLink RX9 106 yX9_ff, .instanceMethod yX9_ff, .selects RX9 yX9_ff yX9_ff, .code yX9_ff cX9_ff 3 (some .int)] ++ wsX90)
noncomputable def wsX9_g : List Cond := .code yX9_g cX9_g 2 (some .int) :: ([.methodLink RX9 102 yX9_is, .instanceMethod yX9_is, .selects RX9 yX9_is yX9_is, .initialized RX9, .code yX9_is cX9_is 2 (some .boolean), .methodLink RX9 43 yX9_size, .instanceMethod yX9_size, .selects RX9 yX9_size yX9_size, .code yX9_size cX9_size 1 (some .int), .fieldLink RX9 7 "AlgebraLawsModel" "now" "[I", .methodLink RX9 47 yX9_in, .static yX9_in, .code yX9_in cX9_in 3 (some .boolean), .methodLink RX9 110 yX9_gg, .instanceMethod yX9_gg, .selects RX9 yX9_gg yX9_gg, .code yX9_gg cX9_gg 2 (some .int)] ++ wsX90)
noncomputable def wsX9_sets : List Cond := .code yX9_sets cX9_sets 7 (some .int) :: ([.fieldLink RX9 7 "AlgebraLawsModel" "now" "[I", .fieldLink RX9 13 "AlgebraLawsModel" "undos" "[I", .fieldLink RX9 114 "AlgebraLawsModel" "undoAt" "I", .fieldLink RX9 96 "AlgebraLawsModel" "undoMany" "I", .methodLink RX9 102 yX9_is, .instanceMethod yX9_is, .selects RX9 yX9_is yX9_is, .initialized RX9, .code yX9_is cX9_is 2 (some .boolean), .methodLink RX9 43 yX9_size, .instanceMethod yX9_size, .selects RX9 yX9_size yX9_size, .code yX9_size cX9_size 1 (some .int), .methodLink RX9 47 yX9_in, .static yX9_in, .code yX9_in cX9_in 3 (some .boolean)] ++ wsX90)
noncomputable def wsX9_undo : List Cond := .code yX9_undo cX9_undo 2 (some .int) :: ([.fieldLink RX9 96 "AlgebraLawsModel" "undoMany" "I", .fieldLink RX9 114 "AlgebraLawsModel" "undoAt" "I", .fieldLink RX9 7 "AlgebraLawsModel" "now" "[I", .fieldLink RX9 13 "AlgebraLawsModel" "undos" "[I"] ++ wsX90)
noncomputable def wsX9_wider : List Cond := .code yX9_wider cX9_wider 5 (some .int) :: ([.methodLink RX9 43 yX9_size, .instanceMethod yX9_size, .selects RX9 yX9_size yX9_size, .initialized RX9, .code yX9_size cX9_size 1 (some .int), .fieldLink RX9 7 "AlgebraLawsModel" "now" "[I", .methodLink RX9 117 yX9_has, .static yX9_has, .code yX9_has cX9_has 2 (some .boolean), .methodLink RX9 110 yX9_gg, .instanceMethod yX9_gg, .selects RX9 yX9_gg yX9_gg, .code yX9_gg cX9_gg 2 (some .int), .methodLink RX9 106 yX9_ff, .instanceMethod yX9_ff, .selects RX9 yX9_ff yX9_ff, .code yX9_ff cX9_ff 3 (some .int)] ++ wsX90)
noncomputable def wsX9_setMany : List Cond := .code yX9_setMany cX9_setMany 1 (some .int) :: ([.methodLink RX9 43 yX9_size, .instanceMethod yX9_size, .selects RX9 yX9_size yX9_size, .initialized RX9, .code yX9_size cX9_size 1 (some .int), .fieldLink RX9 7 "AlgebraLawsModel" "now" "[I"] ++ wsX90)
noncomputable def wsX9_made_r1 : List Cond := [Cond.methodLink RX9 120 yX9_setMany, Cond.instanceMethod yX9_setMany, Cond.selects RX9 yX9_setMany yX9_setMany, Cond.initialized RX9, Cond.code yX9_setMany cX9_setMany 1 (some .int), Cond.methodLink RX9 43 yX9_size, Cond.instanceMethod yX9_size, Cond.selects RX9 yX9_size yX9_size, Cond.code yX9_size cX9_size 1 (some .int), Cond.fieldLink RX9 7 "AlgebraLawsModel" "now" "[I", Cond.methodLink RX9 47 yX9_in, Cond.static yX9_in, Cond.code yX9_in cX9_in 3 (some .boolean), Cond.methodLink RX9 123 yX9_wider, Cond.instanceMethod yX9_wider, Cond.selects RX9 yX9_wider yX9_wider, Cond.code yX9_wider cX9_wider 5 (some .int), Cond.methodLink RX9 117 yX9_has, Cond.static yX9_has, Cond.code yX9_has cX9_has 2 (some .boolean), Cond.methodLink RX9 110 yX9_gg, Cond.instanceMethod yX9_gg, Cond.selects RX9 yX9_gg yX9_gg, Cond.code yX9_gg cX9_gg 2 (some .int)]
noncomputable def wsX9_made_r2 : List Cond := [Cond.methodLink RX9 106 yX9_ff, Cond.instanceMethod yX9_ff, Cond.selects RX9 yX9_ff yX9_ff, Cond.code yX9_ff cX9_ff 3 (some .int)]
noncomputable def wsX9_made : List Cond := .code yX9_made cX9_made 3 (some .int) :: ((wsX9_made_r1 ++ wsX9_made_r2) ++ wsX90)
noncomputable def wsX9_closedOf_r1 : List Cond := [Cond.methodLink RX9 120 yX9_setMany, Cond.instanceMethod yX9_setMany, Cond.selects RX9 yX9_setMany yX9_setMany, Cond.initialized RX9, Cond.code yX9_setMany cX9_setMany 1 (some .int), Cond.methodLink RX9 43 yX9_size, Cond.instanceMethod yX9_size, Cond.selects RX9 yX9_size yX9_size, Cond.code yX9_size cX9_size 1 (some .int), Cond.fieldLink RX9 7 "AlgebraLawsModel" "now" "[I", Cond.methodLink RX9 123 yX9_wider, Cond.instanceMethod yX9_wider, Cond.selects RX9 yX9_wider yX9_wider, Cond.code yX9_wider cX9_wider 5 (some .int), Cond.methodLink RX9 117 yX9_has, Cond.static yX9_has, Cond.code yX9_has cX9_has 2 (some .boolean), Cond.methodLink RX9 110 yX9_gg, Cond.instanceMethod yX9_gg, Cond.selects RX9 yX9_gg yX9_gg, Cond.code yX9_gg cX9_gg 2 (some .int), Cond.methodLink RX9 106 yX9_ff, Cond.instanceMethod yX9_ff, Cond.selects RX9 yX9_ff yX9_ff]
noncomputable def wsX9_closedOf_r2 : List Cond := [Cond.code yX9_ff cX9_ff 3 (some .int)]
noncomputable def wsX9_closedOf : List Cond := .code yX9_closedOf cX9_closedOf 4 (some .int) :: ((wsX9_closedOf_r1 ++ wsX9_closedOf_r2) ++ wsX90)
noncomputable def wsX9_closed_r1 : List Cond := [Cond.methodLink RX9 126 yX9_closedOf, Cond.instanceMethod yX9_closedOf, Cond.selects RX9 yX9_closedOf yX9_closedOf, Cond.initialized RX9, Cond.code yX9_closedOf cX9_closedOf 4 (some .int), Cond.methodLink RX9 120 yX9_setMany, Cond.instanceMethod yX9_setMany, Cond.selects RX9 yX9_setMany yX9_setMany, Cond.code yX9_setMany cX9_setMany 1 (some .int), Cond.methodLink RX9 43 yX9_size, Cond.instanceMethod yX9_size, Cond.selects RX9 yX9_size yX9_size, Cond.code yX9_size cX9_size 1 (some .int), Cond.fieldLink RX9 7 "AlgebraLawsModel" "now" "[I", Cond.methodLink RX9 123 yX9_wider, Cond.instanceMethod yX9_wider, Cond.selects RX9 yX9_wider yX9_wider, Cond.code yX9_wider cX9_wider 5 (some .int), Cond.methodLink RX9 117 yX9_has, Cond.static yX9_has, Cond.code yX9_has cX9_has 2 (some .boolean), Cond.methodLink RX9 110 yX9_gg, Cond.instanceMethod yX9_gg, Cond.selects RX9 yX9_gg yX9_gg]
noncomputable def wsX9_closed_r2 : List Cond := [Cond.code yX9_gg cX9_gg 2 (some .int), Cond.methodLink RX9 106 yX9_ff, Cond.instanceMethod yX9_ff, Cond.selects RX9 yX9_ff yX9_ff, Cond.code yX9_ff cX9_ff 3 (some .int)]
noncomputable def wsX9_closed : List Cond := .code yX9_closed cX9_closed 2 (some .int) :: ((wsX9_closed_r1 ++ wsX9_closed_r2) ++ wsX90)
noncomputable def wsX9_isSo : List Cond := .code yX9_isSo cX9_isSo 5 (some .boolean) :: ([.methodLink RX9 106 yX9_ff, .instanceMethod yX9_ff, .selects RX9 yX9_ff yX9_ff, .initialized RX9, .code yX9_ff cX9_ff 3 (some .int), .fieldLink RX9 7 "AlgebraLawsModel" "now" "[I", .methodLink RX9 110 yX9_gg, .instanceMethod yX9_gg, .selects RX9 yX9_gg yX9_gg, .code yX9_gg cX9_gg 2 (some .int)] ++ wsX90)
noncomputable def wsX9_named : List Cond := .code yX9_named cX9_named 1 (some .int) :: ([])
noncomputable def wsX9_firstOf : List Cond := .code yX9_firstOf cX9_firstOf 6 (some .int) :: ([.methodLink RX9 129 yX9_named, .static yX9_named, .initialized RX9, .code yX9_named cX9_named 1 (some .int), .methodLink RX9 43 yX9_size, .instanceMethod yX9_size, .selects RX9 yX9_size yX9_size, .code yX9_size cX9_size 1 (some .int), .fieldLink RX9 7 "AlgebraLawsModel" "now" "[I", .methodLink RX9 132 yX9_isSo, .instanceMethod yX9_isSo, .selects RX9 yX9_isSo yX9_isSo, .code yX9_isSo cX9_isSo 5 (some .boolean), .methodLink RX9 106 yX9_ff, .instanceMethod yX9_ff, .selects RX9 yX9_ff yX9_ff, .code yX9_ff cX9_ff 3 (some .int), .methodLink RX9 110 yX9_gg, .instanceMethod yX9_gg, .selects RX9 yX9_gg yX9_gg, .code yX9_gg cX9_gg 2 (some .int)] ++ wsX90)
noncomputable def wsX9_law_r1 : List Cond := [Cond.methodLink RX9 47 yX9_in, Cond.static yX9_in, Cond.initialized RX9, Cond.code yX9_in cX9_in 3 (some .boolean), Cond.methodLink RX9 136 yX9_firstOf, Cond.instanceMethod yX9_firstOf, Cond.selects RX9 yX9_firstOf yX9_firstOf, Cond.code yX9_firstOf cX9_firstOf 6 (some .int), Cond.methodLink RX9 129 yX9_named, Cond.static yX9_named, Cond.code yX9_named cX9_named 1 (some .int), Cond.methodLink RX9 43 yX9_size, Cond.instanceMethod yX9_size, Cond.selects RX9 yX9_size yX9_size, Cond.code yX9_size cX9_size 1 (some .int), Cond.fieldLink RX9 7 "AlgebraLawsModel" "now" "[I", Cond.methodLink RX9 132 yX9_isSo, Cond.instanceMethod yX9_isSo, Cond.selects RX9 yX9_isSo yX9_isSo, Cond.code yX9_isSo cX9_isSo 5 (some .boolean), Cond.methodLink RX9 106 yX9_ff, Cond.instanceMethod yX9_ff, Cond.selects RX9 yX9_ff yX9_ff, Cond.code yX9_ff cX9_ff 3 (some .int)]
noncomputable def wsX9_law_r2 : List Cond := [Cond.methodLink RX9 110 yX9_gg, Cond.instanceMethod yX9_gg, Cond.selects RX9 yX9_gg yX9_gg, Cond.code yX9_gg cX9_gg 2 (some .int)]
noncomputable def wsX9_law : List Cond := .code yX9_law cX9_law 2 (some .int) :: ((wsX9_law_r1 ++ wsX9_law_r2) ++ wsX90)
noncomputable def wsX9_change_r1 : List Cond := [Cond.fieldLink RX9 7 "AlgebraLawsModel" "now" "[I", Cond.methodLink RX9 47 yX9_in, Cond.static yX9_in, Cond.initialized RX9, Cond.code yX9_in cX9_in 3 (some .boolean), Cond.methodLink RX9 136 yX9_firstOf, Cond.instanceMethod yX9_firstOf, Cond.selects RX9 yX9_firstOf yX9_firstOf, Cond.code yX9_firstOf cX9_firstOf 6 (some .int), Cond.methodLink RX9 129 yX9_named, Cond.static yX9_named, Cond.code yX9_named cX9_named 1 (some .int), Cond.methodLink RX9 43 yX9_size, Cond.instanceMethod yX9_size, Cond.selects RX9 yX9_size yX9_size, Cond.code yX9_size cX9_size 1 (some .int), Cond.methodLink RX9 132 yX9_isSo, Cond.instanceMethod yX9_isSo, Cond.selects RX9 yX9_isSo yX9_isSo, Cond.code yX9_isSo cX9_isSo 5 (some .boolean), Cond.methodLink RX9 106 yX9_ff, Cond.instanceMethod yX9_ff, Cond.selects RX9 yX9_ff yX9_ff, Cond.code yX9_ff cX9_ff 3 (some .int)]
noncomputable def wsX9_change_r2 : List Cond := [Cond.methodLink RX9 110 yX9_gg, Cond.instanceMethod yX9_gg, Cond.selects RX9 yX9_gg yX9_gg, Cond.code yX9_gg cX9_gg 2 (some .int)]
noncomputable def wsX9_change : List Cond := .code yX9_change cX9_change 7 (some .int) :: ((wsX9_change_r1 ++ wsX9_change_r2) ++ wsX90)
noncomputable def wsX9_figureOf : List Cond := .code yX9_figureOf cX9_figureOf 2 (some .int) :: ([])
noncomputable def wsX9_isWith : List Cond := .code yX9_isWith cX9_isWith 4 (some .boolean) :: ([.methodLink RX9 139 yX9_figureOf, .static yX9_figureOf, .initialized RX9, .code yX9_figureOf cX9_figureOf 2 (some .int)])
noncomputable def wsX9_isPartition : List Cond := .code yX9_isPartition cX9_isPartition 5 (some .boolean) :: ([.methodLink RX9 139 yX9_figureOf, .static yX9_figureOf, .initialized RX9, .code yX9_figureOf cX9_figureOf 2 (some .int), .methodLink RX9 43 yX9_size, .instanceMethod yX9_size, .selects RX9 yX9_size yX9_size, .code yX9_size cX9_size 1 (some .int), .fieldLink RX9 7 "AlgebraLawsModel" "now" "[I"] ++ wsX90)
noncomputable def wsX9_goesAlong : List Cond := .code yX9_goesAlong cX9_goesAlong 6 (some .boolean) :: ([.methodLink RX9 43 yX9_size, .instanceMethod yX9_size, .selects RX9 yX9_size yX9_size, .initialized RX9, .code yX9_size cX9_size 1 (some .int), .fieldLink RX9 7 "AlgebraLawsModel" "now" "[I", .methodLink RX9 142 yX9_isWith, .instanceMethod yX9_isWith, .selects RX9 yX9_isWith yX9_isWith, .code yX9_isWith cX9_isWith 4 (some .boolean), .methodLink RX9 139 yX9_figureOf, .static yX9_figureOf, .code yX9_figureOf cX9_figureOf 2 (some .int), .methodLink RX9 110 yX9_gg, .instanceMethod yX9_gg, .selects RX9 yX9_gg yX9_gg, .code yX9_gg cX9_gg 2 (some .int), .methodLink RX9 106 yX9_ff, .instanceMethod yX9_ff, .selects RX9 yX9_ff yX9_ff, .code yX9_ff cX9_ff 3 (some .int)] ++ wsX90)
noncomputable def wsX9_layCongruences_r1 : List Cond := [Cond.fieldLink RX9 145 "AlgebraLawsModel" "congruenceMany" "I", Cond.fieldLink RX9 32 "AlgebraLawsModel" "congruences" "[I", Cond.methodLink RX9 148 yX9_isPartition, Cond.instanceMethod yX9_isPartition, Cond.selects RX9 yX9_isPartition yX9_isPartition, Cond.initialized RX9, Cond.code yX9_isPartition cX9_isPartition 5 (some .boolean), Cond.methodLink RX9 139 yX9_figureOf, Cond.static yX9_figureOf, Cond.code yX9_figureOf cX9_figureOf 2 (some .int), Cond.methodLink RX9 43 yX9_size, Cond.instanceMethod yX9_size, Cond.selects RX9 yX9_size yX9_size, Cond.code yX9_size cX9_size 1 (some .int), Cond.fieldLink RX9 7 "AlgebraLawsModel" "now" "[I", Cond.methodLink RX9 151 yX9_goesAlong, Cond.instanceMethod yX9_goesAlong, Cond.selects RX9 yX9_goesAlong yX9_goesAlong, Cond.code yX9_goesAlong cX9_goesAlong 6 (some .boolean), Cond.methodLink RX9 142 yX9_isWith, Cond.instanceMethod yX9_isWith, Cond.selects RX9 yX9_isWith yX9_isWith, Cond.code yX9_isWith cX9_isWith 4 (some .boolean), Cond.methodLink RX9 110 yX9_gg]
noncomputable def wsX9_layCongruences_r2 : List Cond := [Cond.instanceMethod yX9_gg, Cond.selects RX9 yX9_gg yX9_gg, Cond.code yX9_gg cX9_gg 2 (some .int), Cond.methodLink RX9 106 yX9_ff, Cond.instanceMethod yX9_ff, Cond.selects RX9 yX9_ff yX9_ff, Cond.code yX9_ff cX9_ff 3 (some .int)]
noncomputable def wsX9_layCongruences : List Cond := .code yX9_layCongruences cX9_layCongruences 2 none :: ((wsX9_layCongruences_r1 ++ wsX9_layCongruences_r2) ++ wsX90)
noncomputable def wsX9_nameOf : List Cond := .code yX9_nameOf cX9_nameOf 4 (some .int) :: ([.methodLink RX9 43 yX9_size, .instanceMethod yX9_size, .selects RX9 yX9_size yX9_size, .initialized RX9, .code yX9_size cX9_size 1 (some .int), .fieldLink RX9 7 "AlgebraLawsModel" "now" "[I", .methodLink RX9 139 yX9_figureOf, .static yX9_figureOf, .code yX9_figureOf cX9_figureOf 2 (some .int)] ++ wsX90)
noncomputable def wsX9_congruence_r1 : List Cond := [Cond.fieldLink RX9 145 "AlgebraLawsModel" "congruenceMany" "I", Cond.fieldLink RX9 32 "AlgebraLawsModel" "congruences" "[I", Cond.methodLink RX9 154 yX9_layCongruences, Cond.instanceMethod yX9_layCongruences, Cond.selects RX9 yX9_layCongruences yX9_layCongruences, Cond.initialized RX9, Cond.code yX9_layCongruences cX9_layCongruences 2 none, Cond.methodLink RX9 148 yX9_isPartition, Cond.instanceMethod yX9_isPartition, Cond.selects RX9 yX9_isPartition yX9_isPartition, Cond.code yX9_isPartition cX9_isPartition 5 (some .boolean), Cond.methodLink RX9 139 yX9_figureOf, Cond.static yX9_figureOf, Cond.code yX9_figureOf cX9_figureOf 2 (some .int), Cond.methodLink RX9 43 yX9_size, Cond.instanceMethod yX9_size, Cond.selects RX9 yX9_size yX9_size, Cond.code yX9_size cX9_size 1 (some .int), Cond.fieldLink RX9 7 "AlgebraLawsModel" "now" "[I", Cond.methodLink RX9 151 yX9_goesAlong, Cond.instanceMethod yX9_goesAlong, Cond.selects RX9 yX9_goesAlong yX9_goesAlong, Cond.code yX9_goesAlong cX9_goesAlong 6 (some .boolean), Cond.methodLink RX9 142 yX9_isWith]
noncomputable def wsX9_congruence_r2 : List Cond := [Cond.instanceMethod yX9_isWith, Cond.selects RX9 yX9_isWith yX9_isWith, Cond.code yX9_isWith cX9_isWith 4 (some .boolean), Cond.methodLink RX9 110 yX9_gg, Cond.instanceMethod yX9_gg, Cond.selects RX9 yX9_gg yX9_gg, Cond.code yX9_gg cX9_gg 2 (some .int), Cond.methodLink RX9 106 yX9_ff, Cond.instanceMethod yX9_ff, Cond.selects RX9 yX9_ff yX9_ff, Cond.code yX9_ff cX9_ff 3 (some .int), Cond.methodLink RX9 157 yX9_nameOf, Cond.instanceMethod yX9_nameOf, Cond.selects RX9 yX9_nameOf yX9_nameOf, Cond.code yX9_nameOf cX9_nameOf 4 (some .int)]
noncomputable def wsX9_congruence : List Cond := .code yX9_congruence cX9_congruence 2 (some .int) :: ((wsX9_congruence_r1 ++ wsX9_congruence_r2) ++ wsX90)
noncomputable def wsX9_isFiner : List Cond := .code yX9_isFiner cX9_isFiner 6 (some .boolean) :: ([.methodLink RX9 43 yX9_size, .instanceMethod yX9_size, .selects RX9 yX9_size yX9_size, .initialized RX9, .code yX9_size cX9_size 1 (some .int), .fieldLink RX9 7 "AlgebraLawsModel" "now" "[I", .methodLink RX9 142 yX9_isWith, .instanceMethod yX9_isWith, .selects RX9 yX9_isWith yX9_isWith, .code yX9_isWith cX9_isWith 4 (some .boolean), .methodLink RX9 139 yX9_figureOf, .static yX9_figureOf, .code yX9_figureOf cX9_figureOf 2 (some .int)] ++ wsX90)
noncomputable def wsX9_blocks : List Cond := .code yX9_blocks cX9_blocks 4 (some .int) :: ([.methodLink RX9 43 yX9_size, .instanceMethod yX9_size, .selects RX9 yX9_size yX9_size, .initialized RX9, .code yX9_size cX9_size 1 (some .int), .fieldLink RX9 7 "AlgebraLawsModel" "now" "[I", .methodLink RX9 139 yX9_figureOf, .static yX9_figureOf, .code yX9_figureOf cX9_figureOf 2 (some .int)] ++ wsX90)
noncomputable def wsX9_principal_r1 : List Cond := [Cond.fieldLink RX9 145 "AlgebraLawsModel" "congruenceMany" "I", Cond.fieldLink RX9 32 "AlgebraLawsModel" "congruences" "[I", Cond.methodLink RX9 102 yX9_is, Cond.instanceMethod yX9_is, Cond.selects RX9 yX9_is yX9_is, Cond.initialized RX9, Cond.code yX9_is cX9_is 2 (some .boolean), Cond.methodLink RX9 43 yX9_size, Cond.instanceMethod yX9_size, Cond.selects RX9 yX9_size yX9_size, Cond.code yX9_size cX9_size 1 (some .int), Cond.fieldLink RX9 7 "AlgebraLawsModel" "now" "[I", Cond.methodLink RX9 47 yX9_in, Cond.static yX9_in, Cond.code yX9_in cX9_in 3 (some .boolean), Cond.methodLink RX9 154 yX9_layCongruences, Cond.instanceMethod yX9_layCongruences, Cond.selects RX9 yX9_layCongruences yX9_layCongruences, Cond.code yX9_layCongruences cX9_layCongruences 2 none, Cond.methodLink RX9 148 yX9_isPartition, Cond.instanceMethod yX9_isPartition, Cond.selects RX9 yX9_isPartition yX9_isPartition, Cond.code yX9_isPartition cX9_isPartition 5 (some .boolean), Cond.methodLink RX9 139 yX9_figureOf]
noncomputable def wsX9_principal_r2 : List Cond := [Cond.static yX9_figureOf, Cond.code yX9_figureOf cX9_figureOf 2 (some .int), Cond.methodLink RX9 151 yX9_goesAlong, Cond.instanceMethod yX9_goesAlong, Cond.selects RX9 yX9_goesAlong yX9_goesAlong, Cond.code yX9_goesAlong cX9_goesAlong 6 (some .boolean), Cond.methodLink RX9 142 yX9_isWith, Cond.instanceMethod yX9_isWith, Cond.selects RX9 yX9_isWith yX9_isWith, Cond.code yX9_isWith cX9_isWith 4 (some .boolean), Cond.methodLink RX9 110 yX9_gg, Cond.instanceMethod yX9_gg, Cond.selects RX9 yX9_gg yX9_gg, Cond.code yX9_gg cX9_gg 2 (some .int), Cond.methodLink RX9 106 yX9_ff, Cond.instanceMethod yX9_ff, Cond.selects RX9 yX9_ff yX9_ff, Cond.code yX9_ff cX9_ff 3 (some .int), Cond.methodLink RX9 160 yX9_blocks, Cond.instanceMethod yX9_blocks, Cond.selects RX9 yX9_blocks yX9_blocks, Cond.code yX9_blocks cX9_blocks 4 (some .int)]
noncomputable def wsX9_principal : List Cond := .code yX9_principal cX9_principal 6 (some .int) :: ((wsX9_principal_r1 ++ wsX9_principal_r2) ++ wsX90)
noncomputable def wsX9_between : List Cond := .code yX9_between cX9_between 9 (some .int) :: ([.fieldLink RX9 145 "AlgebraLawsModel" "congruenceMany" "I", .fieldLink RX9 32 "AlgebraLawsModel" "congruences" "[I", .methodLink RX9 163 yX9_isFiner, .instanceMethod yX9_isFiner, .selects RX9 yX9_isFiner yX9_isFiner, .initialized RX9, .code yX9_isFiner cX9_isFiner 6 (some .boolean), .methodLink RX9 43 yX9_size, .instanceMethod yX9_size, .selects RX9 yX9_size yX9_size, .code yX9_size cX9_size 1 (some .int), .fieldLink RX9 7 "AlgebraLawsModel" "now" "[I", .methodLink RX9 142 yX9_isWith, .instanceMethod yX9_isWith, .selects RX9 yX9_isWith yX9_isWith, .code yX9_isWith cX9_isWith 4 (some .boolean), .methodLink RX9 139 yX9_figureOf, .static yX9_figureOf, .code yX9_figureOf cX9_figureOf 2 (some .int), .methodLink RX9 160 yX9_blocks, .instanceMethod yX9_blocks, .selects RX9 yX9_blocks yX9_blocks, .code yX9_blocks cX9_blocks 4 (some .int)] ++ wsX90)
noncomputable def wsX9_isThrough : List Cond := .code yX9_isThrough cX9_isThrough 7 (some .boolean) :: ([.methodLink RX9 43 yX9_size, .instanceMethod yX9_size, .selects RX9 yX9_size yX9_size, .initialized RX9, .code yX9_size cX9_size 1 (some .int), .fieldLink RX9 7 "AlgebraLawsModel" "now" "[I", .methodLink RX9 142 yX9_isWith, .instanceMethod yX9_isWith, .selects RX9 yX9_isWith yX9_isWith, .code yX9_isWith cX9_isWith 4 (some .boolean), .methodLink RX9 139 yX9_figureOf, .static yX9_figureOf, .code yX9_figureOf cX9_figureOf 2 (some .int)] ++ wsX90)
noncomputable def wsX9_permute : List Cond := .code yX9_permute cX9_permute 6 (some .boolean) :: ([.methodLink RX9 43 yX9_size, .instanceMethod yX9_size, .selects RX9 yX9_size yX9_size, .initialized RX9, .code yX9_size cX9_size 1 (some .int), .fieldLink RX9 7 "AlgebraLawsModel" "now" "[I", .methodLink RX9 166 yX9_isThrough, .instanceMethod yX9_isThrough, .selects RX9 yX9_isThrough yX9_isThrough, .code yX9_isThrough cX9_isThrough 7 (some .boolean), .methodLink RX9 142 yX9_isWith, .instanceMethod yX9_isWith, .selects RX9 yX9_isWith yX9_isWith, .code yX9_isWith cX9_isWith 4 (some .boolean), .methodLink RX9 139 yX9_figureOf, .static yX9_figureOf, .code yX9_figureOf cX9_figureOf 2 (some .int)] ++ wsX90)
noncomputable def wsX9_pair_r1 : List Cond := [Cond.fieldLink RX9 145 "AlgebraLawsModel" "congruenceMany" "I", Cond.fieldLink RX9 32 "AlgebraLawsModel" "congruences" "[I", Cond.methodLink RX9 154 yX9_layCongruences, Cond.instanceMethod yX9_layCongruences, Cond.selects RX9 yX9_layCongruences yX9_layCongruences, Cond.initialized RX9, Cond.code yX9_layCongruences cX9_layCongruences 2 none, Cond.methodLink RX9 148 yX9_isPartition, Cond.instanceMethod yX9_isPartition, Cond.selects RX9 yX9_isPartition yX9_isPartition, Cond.code yX9_isPartition cX9_isPartition 5 (some .boolean), Cond.methodLink RX9 139 yX9_figureOf, Cond.static yX9_figureOf, Cond.code yX9_figureOf cX9_figureOf 2 (some .int), Cond.methodLink RX9 43 yX9_size, Cond.instanceMethod yX9_size, Cond.selects RX9 yX9_size yX9_size, Cond.code yX9_size cX9_size 1 (some .int), Cond.fieldLink RX9 7 "AlgebraLawsModel" "now" "[I", Cond.methodLink RX9 151 yX9_goesAlong, Cond.instanceMethod yX9_goesAlong, Cond.selects RX9 yX9_goesAlong yX9_goesAlong, Cond.code yX9_goesAlong cX9_goesAlong 6 (some .boolean), Cond.methodLink RX9 142 yX9_isWith]
noncomputable def wsX9_pair_r2 : List Cond := [Cond.instanceMethod yX9_isWith, Cond.selects RX9 yX9_isWith yX9_isWith, Cond.code yX9_isWith cX9_isWith 4 (some .boolean), Cond.methodLink RX9 110 yX9_gg, Cond.instanceMethod yX9_gg, Cond.selects RX9 yX9_gg yX9_gg, Cond.code yX9_gg cX9_gg 2 (some .int), Cond.methodLink RX9 106 yX9_ff, Cond.instanceMethod yX9_ff, Cond.selects RX9 yX9_ff yX9_ff, Cond.code yX9_ff cX9_ff 3 (some .int), Cond.methodLink RX9 47 yX9_in, Cond.static yX9_in, Cond.code yX9_in cX9_in 3 (some .boolean), Cond.methodLink RX9 169 yX9_between, Cond.instanceMethod yX9_between, Cond.selects RX9 yX9_between yX9_between, Cond.code yX9_between cX9_between 9 (some .int), Cond.methodLink RX9 163 yX9_isFiner, Cond.instanceMethod yX9_isFiner, Cond.selects RX9 yX9_isFiner yX9_isFiner, Cond.code yX9_isFiner cX9_isFiner 6 (some .boolean), Cond.methodLink RX9 160 yX9_blocks, Cond.instanceMethod yX9_blocks]
noncomputable def wsX9_pair_r3 : List Cond := [Cond.selects RX9 yX9_blocks yX9_blocks, Cond.code yX9_blocks cX9_blocks 4 (some .int), Cond.methodLink RX9 173 yX9_permute, Cond.instanceMethod yX9_permute, Cond.selects RX9 yX9_permute yX9_permute, Cond.code yX9_permute cX9_permute 6 (some .boolean), Cond.methodLink RX9 166 yX9_isThrough, Cond.instanceMethod yX9_isThrough, Cond.selects RX9 yX9_isThrough yX9_isThrough, Cond.code yX9_isThrough cX9_isThrough 7 (some .boolean)]
noncomputable def wsX9_pair : List Cond := .code yX9_pair cX9_pair 6 (some .int) :: ((wsX9_pair_r1 ++ (wsX9_pair_r2 ++ wsX9_pair_r3)) ++ wsX90)
noncomputable def wsX9_to : List Cond := .code yX9_to cX9_to 2 (some .int) :: ([])
noncomputable def wsX9_isMap : List Cond := .code yX9_isMap cX9_isMap 5 (some .boolean) :: ([.methodLink RX9 43 yX9_size, .instanceMethod yX9_size, .selects RX9 yX9_size yX9_size, .initialized RX9, .code yX9_size cX9_size 1 (some .int), .fieldLink RX9 7 "AlgebraLawsModel" "now" "[I", .methodLink RX9 176 yX9_to, .static yX9_to, .code yX9_to cX9_to 2 (some .int), .methodLink RX9 110 yX9_gg, .instanceMethod yX9_gg, .selects RX9 yX9_gg yX9_gg, .code yX9_gg cX9_gg 2 (some .int), .methodLink RX9 106 yX9_ff, .instanceMethod yX9_ff, .selects RX9 yX9_ff yX9_ff, .code yX9_ff cX9_ff 3 (some .int)] ++ wsX90)
noncomputable def wsX9_maps_r1 : List Cond := [Cond.methodLink RX9 43 yX9_size, Cond.instanceMethod yX9_size, Cond.selects RX9 yX9_size yX9_size, Cond.initialized RX9, Cond.code yX9_size cX9_size 1 (some .int), Cond.fieldLink RX9 7 "AlgebraLawsModel" "now" "[I", Cond.methodLink RX9 176 yX9_to, Cond.static yX9_to, Cond.code yX9_to cX9_to 2 (some .int), Cond.methodLink RX9 179 yX9_isMap, Cond.instanceMethod yX9_isMap, Cond.selects RX9 yX9_isMap yX9_isMap, Cond.code yX9_isMap cX9_isMap 5 (some .boolean), Cond.methodLink RX9 110 yX9_gg, Cond.instanceMethod yX9_gg, Cond.selects RX9 yX9_gg yX9_gg, Cond.code yX9_gg cX9_gg 2 (some .int), Cond.methodLink RX9 106 yX9_ff, Cond.instanceMethod yX9_ff, Cond.selects RX9 yX9_ff yX9_ff, Cond.code yX9_ff cX9_ff 3 (some .int), Cond.methodLink RX9 120 yX9_setMany, Cond.instanceMethod yX9_setMany, Cond.selects RX9 yX9_setMany yX9_setMany]
noncomputable def wsX9_maps_r2 : List Cond := [Cond.code yX9_setMany cX9_setMany 1 (some .int)]
noncomputable def wsX9_maps : List Cond := .code yX9_maps cX9_maps 6 (some .int) :: ((wsX9_maps_r1 ++ wsX9_maps_r2) ++ wsX90)
noncomputable def wsX9_isTerm : List Cond := .code yX9_isTerm cX9_isTerm 4 (some .boolean) :: ([.fieldLink RX9 182 "AlgebraLawsModel" "termMany" "I", .fieldLink RX9 35 "AlgebraLawsModel" "terms" "[J"] ++ wsX90)
noncomputable def wsX9_comes : List Cond := .code yX9_comes cX9_comes 3 none :: ([.fieldLink RX9 35 "AlgebraLawsModel" "terms" "[J", .fieldLink RX9 182 "AlgebraLawsModel" "termMany" "I", .methodLink RX9 185 yX9_isTerm, .instanceMethod yX9_isTerm, .selects RX9 yX9_isTerm yX9_isTerm, .initialized RX9, .code yX9_isTerm cX9_isTerm 4 (some .boolean)] ++ wsX90)
noncomputable def wsX9_fOf : List Cond := .code yX9_fOf cX9_fOf 9 (some .long) :: ([.constantLong RX9 189 (3), .methodLink RX9 106 yX9_ff, .instanceMethod yX9_ff, .selects RX9 yX9_ff yX9_ff, .initialized RX9, .code yX9_ff cX9_ff 3 (some .int), .fieldLink RX9 7 "AlgebraLawsModel" "now" "[I"] ++ wsX90)
noncomputable def wsX9_gOf : List Cond := .code yX9_gOf cX9_gOf 7 (some .long) :: ([.constantLong RX9 189 (3), .methodLink RX9 110 yX9_gg, .instanceMethod yX9_gg, .selects RX9 yX9_gg yX9_gg, .initialized RX9, .code yX9_gg cX9_gg 2 (some .int), .fieldLink RX9 7 "AlgebraLawsModel" "now" "[I"] ++ wsX90)
noncomputable def wsX9_goesRound_r1 : List Cond := [Cond.fieldLink RX9 182 "AlgebraLawsModel" "termMany" "I", Cond.fieldLink RX9 35 "AlgebraLawsModel" "terms" "[J", Cond.methodLink RX9 191 yX9_gOf, Cond.instanceMethod yX9_gOf, Cond.selects RX9 yX9_gOf yX9_gOf, Cond.initialized RX9, Cond.code yX9_gOf cX9_gOf 7 (some .long), Cond.constantLong RX9 189 (3), Cond.methodLink RX9 110 yX9_gg, Cond.instanceMethod yX9_gg, Cond.selects RX9 yX9_gg yX9_gg, Cond.code yX9_gg cX9_gg 2 (some .int), Cond.fieldLink RX9 7 "AlgebraLawsModel" "now" "[I", Cond.methodLink RX9 195 yX9_comes, Cond.instanceMethod yX9_comes, Cond.selects RX9 yX9_comes yX9_comes, Cond.code yX9_comes cX9_comes 3 none, Cond.methodLink RX9 185 yX9_isTerm, Cond.instanceMethod yX9_isTerm, Cond.selects RX9 yX9_isTerm yX9_isTerm, Cond.code yX9_isTerm cX9_isTerm 4 (some .boolean), Cond.methodLink RX9 199 yX9_fOf, Cond.instanceMethod yX9_fOf, Cond.selects RX9 yX9_fOf yX9_fOf]
noncomputable def wsX9_goesRound_r2 : List Cond := [Cond.code yX9_fOf cX9_fOf 9 (some .long), Cond.methodLink RX9 106 yX9_ff, Cond.instanceMethod yX9_ff, Cond.selects RX9 yX9_ff yX9_ff, Cond.code yX9_ff cX9_ff 3 (some .int)]
noncomputable def wsX9_goesRound : List Cond := .code yX9_goesRound cX9_goesRound 5 (some .boolean) :: ((wsX9_goesRound_r1 ++ wsX9_goesRound_r2) ++ wsX90)
noncomputable def wsX9_letterRow : List Cond := .code yX9_letterRow cX9_letterRow 10 (some .long) :: ([.methodLink RX9 43 yX9_size, .instanceMethod yX9_size, .selects RX9 yX9_size yX9_size, .initialized RX9, .code yX9_size cX9_size 1 (some .int), .fieldLink RX9 7 "AlgebraLawsModel" "now" "[I", .methodLink RX9 117 yX9_has, .static yX9_has, .code yX9_has cX9_has 2 (some .boolean)] ++ wsX90)
noncomputable def wsX9_free_r1 : List Cond := [Cond.fieldLink RX9 182 "AlgebraLawsModel" "termMany" "I", Cond.fieldLink RX9 203 "AlgebraLawsModel" "rounds" "I", Cond.methodLink RX9 47 yX9_in, Cond.static yX9_in, Cond.initialized RX9, Cond.code yX9_in cX9_in 3 (some .boolean), Cond.methodLink RX9 43 yX9_size, Cond.instanceMethod yX9_size, Cond.selects RX9 yX9_size yX9_size, Cond.code yX9_size cX9_size 1 (some .int), Cond.fieldLink RX9 7 "AlgebraLawsModel" "now" "[I", Cond.methodLink RX9 206 yX9_letterRow, Cond.instanceMethod yX9_letterRow, Cond.selects RX9 yX9_letterRow yX9_letterRow, Cond.code yX9_letterRow cX9_letterRow 10 (some .long), Cond.methodLink RX9 117 yX9_has, Cond.static yX9_has, Cond.code yX9_has cX9_has 2 (some .boolean), Cond.methodLink RX9 195 yX9_comes, Cond.instanceMethod yX9_comes, Cond.selects RX9 yX9_comes yX9_comes, Cond.code yX9_comes cX9_comes 3 none, Cond.fieldLink RX9 35 "AlgebraLawsModel" "terms" "[J", Cond.methodLink RX9 185 yX9_isTerm]
noncomputable def wsX9_free_r2 : List Cond := [Cond.instanceMethod yX9_isTerm, Cond.selects RX9 yX9_isTerm yX9_isTerm, Cond.code yX9_isTerm cX9_isTerm 4 (some .boolean), Cond.methodLink RX9 210 yX9_goesRound, Cond.instanceMethod yX9_goesRound, Cond.selects RX9 yX9_goesRound yX9_goesRound, Cond.code yX9_goesRound cX9_goesRound 5 (some .boolean), Cond.methodLink RX9 191 yX9_gOf, Cond.instanceMethod yX9_gOf, Cond.selects RX9 yX9_gOf yX9_gOf, Cond.code yX9_gOf cX9_gOf 7 (some .long), Cond.constantLong RX9 189 (3), Cond.methodLink RX9 110 yX9_gg, Cond.instanceMethod yX9_gg, Cond.selects RX9 yX9_gg yX9_gg, Cond.code yX9_gg cX9_gg 2 (some .int), Cond.methodLink RX9 199 yX9_fOf, Cond.instanceMethod yX9_fOf, Cond.selects RX9 yX9_fOf yX9_fOf, Cond.code yX9_fOf cX9_fOf 9 (some .long), Cond.methodLink RX9 106 yX9_ff, Cond.instanceMethod yX9_ff, Cond.selects RX9 yX9_ff yX9_ff, Cond.code yX9_ff cX9_ff 3 (some .int)]
noncomputable def wsX9_free : List Cond := .code yX9_free cX9_free 7 (some .int) :: ((wsX9_free_r1 ++ wsX9_free_r2) ++ wsX90)
noncomputable def wsX9_term_r1 : List Cond := [Cond.fieldLink RX9 182 "AlgebraLawsModel" "termMany" "I", Cond.fieldLink RX9 203 "AlgebraLawsModel" "rounds" "I", Cond.methodLink RX9 47 yX9_in, Cond.static yX9_in, Cond.initialized RX9, Cond.code yX9_in cX9_in 3 (some .boolean), Cond.methodLink RX9 43 yX9_size, Cond.instanceMethod yX9_size, Cond.selects RX9 yX9_size yX9_size, Cond.code yX9_size cX9_size 1 (some .int), Cond.fieldLink RX9 7 "AlgebraLawsModel" "now" "[I", Cond.methodLink RX9 206 yX9_letterRow, Cond.instanceMethod yX9_letterRow, Cond.selects RX9 yX9_letterRow yX9_letterRow, Cond.code yX9_letterRow cX9_letterRow 10 (some .long), Cond.methodLink RX9 117 yX9_has, Cond.static yX9_has, Cond.code yX9_has cX9_has 2 (some .boolean), Cond.methodLink RX9 195 yX9_comes, Cond.instanceMethod yX9_comes, Cond.selects RX9 yX9_comes yX9_comes, Cond.code yX9_comes cX9_comes 3 none, Cond.fieldLink RX9 35 "AlgebraLawsModel" "terms" "[J", Cond.methodLink RX9 185 yX9_isTerm]
noncomputable def wsX9_term_r2 : List Cond := [Cond.instanceMethod yX9_isTerm, Cond.selects RX9 yX9_isTerm yX9_isTerm, Cond.code yX9_isTerm cX9_isTerm 4 (some .boolean), Cond.methodLink RX9 210 yX9_goesRound, Cond.instanceMethod yX9_goesRound, Cond.selects RX9 yX9_goesRound yX9_goesRound, Cond.code yX9_goesRound cX9_goesRound 5 (some .boolean), Cond.methodLink RX9 191 yX9_gOf, Cond.instanceMethod yX9_gOf, Cond.selects RX9 yX9_gOf yX9_gOf, Cond.code yX9_gOf cX9_gOf 7 (some .long), Cond.constantLong RX9 189 (3), Cond.methodLink RX9 110 yX9_gg, Cond.instanceMethod yX9_gg, Cond.selects RX9 yX9_gg yX9_gg, Cond.code yX9_gg cX9_gg 2 (some .int), Cond.methodLink RX9 199 yX9_fOf, Cond.instanceMethod yX9_fOf, Cond.selects RX9 yX9_fOf yX9_fOf, Cond.code yX9_fOf cX9_fOf 9 (some .long), Cond.methodLink RX9 106 yX9_ff, Cond.instanceMethod yX9_ff, Cond.selects RX9 yX9_ff yX9_ff, Cond.code yX9_ff cX9_ff 3 (some .int)]
noncomputable def wsX9_term : List Cond := .code yX9_term cX9_term 6 (some .int) :: ((wsX9_term_r1 ++ wsX9_term_r2) ++ wsX90)
noncomputable def wsX9_sees : List Cond := .code yX9_sees cX9_sees 2 (some .int) :: ([.fieldLink RX9 99 "AlgebraLawsModel" "seenMany" "I", .fieldLink RX9 16 "AlgebraLawsModel" "seen" "[I", .methodLink RX9 47 yX9_in, .static yX9_in, .initialized RX9, .code yX9_in cX9_in 3 (some .boolean)] ++ wsX90)
noncomputable def wsX9_forget : List Cond := .code yX9_forget cX9_forget 2 (some .int) :: ([.fieldLink RX9 99 "AlgebraLawsModel" "seenMany" "I"] ++ wsX90)
noncomputable def wsX9_isSeen : List Cond := .code yX9_isSeen cX9_isSeen 4 (some .boolean) :: ([.fieldLink RX9 99 "AlgebraLawsModel" "seenMany" "I", .fieldLink RX9 16 "AlgebraLawsModel" "seen" "[I"] ++ wsX90)
noncomputable def wsX9_unseen_r1 : List Cond := [Cond.fieldLink RX9 7 "AlgebraLawsModel" "now" "[I", Cond.methodLink RX9 43 yX9_size, Cond.instanceMethod yX9_size, Cond.selects RX9 yX9_size yX9_size, Cond.initialized RX9, Cond.code yX9_size cX9_size 1 (some .int), Cond.methodLink RX9 126 yX9_closedOf, Cond.instanceMethod yX9_closedOf, Cond.selects RX9 yX9_closedOf yX9_closedOf, Cond.code yX9_closedOf cX9_closedOf 4 (some .int), Cond.methodLink RX9 120 yX9_setMany, Cond.instanceMethod yX9_setMany, Cond.selects RX9 yX9_setMany yX9_setMany, Cond.code yX9_setMany cX9_setMany 1 (some .int), Cond.methodLink RX9 123 yX9_wider, Cond.instanceMethod yX9_wider, Cond.selects RX9 yX9_wider yX9_wider, Cond.code yX9_wider cX9_wider 5 (some .int), Cond.methodLink RX9 117 yX9_has, Cond.static yX9_has, Cond.code yX9_has cX9_has 2 (some .boolean), Cond.methodLink RX9 110 yX9_gg, Cond.instanceMethod yX9_gg, Cond.selects RX9 yX9_gg yX9_gg]
noncomputable def wsX9_unseen_r2 : List Cond := [Cond.code yX9_gg cX9_gg 2 (some .int), Cond.methodLink RX9 106 yX9_ff, Cond.instanceMethod yX9_ff, Cond.selects RX9 yX9_ff yX9_ff, Cond.code yX9_ff cX9_ff 3 (some .int), Cond.methodLink RX9 213 yX9_isSeen, Cond.instanceMethod yX9_isSeen, Cond.selects RX9 yX9_isSeen yX9_isSeen, Cond.code yX9_isSeen cX9_isSeen 4 (some .boolean), Cond.fieldLink RX9 99 "AlgebraLawsModel" "seenMany" "I", Cond.fieldLink RX9 16 "AlgebraLawsModel" "seen" "[I"]
noncomputable def wsX9_unseen : List Cond := .code yX9_unseen cX9_unseen 7 (some .int) :: ((wsX9_unseen_r1 ++ wsX9_unseen_r2) ++ wsX90)
noncomputable def wsX9_keep : List Cond := .code yX9_keep cX9_keep 3 (some .int) :: ([.fieldLink RX9 19 "AlgebraLawsModel" "isKept" "[Z", .fieldLink RX9 23 "AlgebraLawsModel" "kept" "[I", .fieldLink RX9 7 "AlgebraLawsModel" "now" "[I", .methodLink RX9 47 yX9_in, .static yX9_in, .initialized RX9, .code yX9_in cX9_in 3 (some .boolean), .methodLink RX9 43 yX9_size, .instanceMethod yX9_size, .selects RX9 yX9_size yX9_size, .code yX9_size cX9_size 1 (some .int)] ++ wsX90)
noncomputable def wsX9_back : List Cond := .code yX9_back cX9_back 3 (some .int) :: ([.fieldLink RX9 19 "AlgebraLawsModel" "isKept" "[Z", .fieldLink RX9 7 "AlgebraLawsModel" "now" "[I", .fieldLink RX9 23 "AlgebraLawsModel" "kept" "[I", .fieldLink RX9 96 "AlgebraLawsModel" "undoMany" "I", .methodLink RX9 47 yX9_in, .static yX9_in, .initialized RX9, .code yX9_in cX9_in 3 (some .boolean), .methodLink RX9 43 yX9_size, .instanceMethod yX9_size, .selects RX9 yX9_size yX9_size, .code yX9_size cX9_size 1 (some .int)] ++ wsX90)
noncomputable def wsX9_holding_r1 : List Cond := [Cond.methodLink RX9 136 yX9_firstOf, Cond.instanceMethod yX9_firstOf, Cond.selects RX9 yX9_firstOf yX9_firstOf, Cond.initialized RX9, Cond.code yX9_firstOf cX9_firstOf 6 (some .int), Cond.methodLink RX9 129 yX9_named, Cond.static yX9_named, Cond.code yX9_named cX9_named 1 (some .int), Cond.methodLink RX9 43 yX9_size, Cond.instanceMethod yX9_size, Cond.selects RX9 yX9_size yX9_size, Cond.code yX9_size cX9_size 1 (some .int), Cond.fieldLink RX9 7 "AlgebraLawsModel" "now" "[I", Cond.methodLink RX9 132 yX9_isSo, Cond.instanceMethod yX9_isSo, Cond.selects RX9 yX9_isSo yX9_isSo, Cond.code yX9_isSo cX9_isSo 5 (some .boolean), Cond.methodLink RX9 106 yX9_ff, Cond.instanceMethod yX9_ff, Cond.selects RX9 yX9_ff yX9_ff, Cond.code yX9_ff cX9_ff 3 (some .int), Cond.methodLink RX9 110 yX9_gg, Cond.instanceMethod yX9_gg, Cond.selects RX9 yX9_gg yX9_gg]
noncomputable def wsX9_holding_r2 : List Cond := [Cond.code yX9_gg cX9_gg 2 (some .int)]
noncomputable def wsX9_holding : List Cond := .code yX9_holding cX9_holding 3 (some .int) :: ((wsX9_holding_r1 ++ wsX9_holding_r2) ++ wsX90)
noncomputable def wsX9_count_r1 : List Cond := [Cond.fieldLink RX9 145 "AlgebraLawsModel" "congruenceMany" "I", Cond.fieldLink RX9 99 "AlgebraLawsModel" "seenMany" "I", Cond.fieldLink RX9 51 "AlgebraLawsModel" "letterMany" "I", Cond.fieldLink RX9 96 "AlgebraLawsModel" "undoMany" "I", Cond.methodLink RX9 43 yX9_size, Cond.instanceMethod yX9_size, Cond.selects RX9 yX9_size yX9_size, Cond.initialized RX9, Cond.code yX9_size cX9_size 1 (some .int), Cond.fieldLink RX9 7 "AlgebraLawsModel" "now" "[I", Cond.methodLink RX9 126 yX9_closedOf, Cond.instanceMethod yX9_closedOf, Cond.selects RX9 yX9_closedOf yX9_closedOf, Cond.code yX9_closedOf cX9_closedOf 4 (some .int), Cond.methodLink RX9 120 yX9_setMany, Cond.instanceMethod yX9_setMany, Cond.selects RX9 yX9_setMany yX9_setMany, Cond.code yX9_setMany cX9_setMany 1 (some .int), Cond.methodLink RX9 123 yX9_wider, Cond.instanceMethod yX9_wider, Cond.selects RX9 yX9_wider yX9_wider, Cond.code yX9_wider cX9_wider 5 (some .int), Cond.methodLink RX9 117 yX9_has, Cond.static yX9_has]
noncomputable def wsX9_count_r2 : List Cond := [Cond.code yX9_has cX9_has 2 (some .boolean), Cond.methodLink RX9 110 yX9_gg, Cond.instanceMethod yX9_gg, Cond.selects RX9 yX9_gg yX9_gg, Cond.code yX9_gg cX9_gg 2 (some .int), Cond.methodLink RX9 106 yX9_ff, Cond.instanceMethod yX9_ff, Cond.selects RX9 yX9_ff yX9_ff, Cond.code yX9_ff cX9_ff 3 (some .int), Cond.methodLink RX9 154 yX9_layCongruences, Cond.instanceMethod yX9_layCongruences, Cond.selects RX9 yX9_layCongruences yX9_layCongruences, Cond.code yX9_layCongruences cX9_layCongruences 2 none, Cond.fieldLink RX9 32 "AlgebraLawsModel" "congruences" "[I", Cond.methodLink RX9 148 yX9_isPartition, Cond.instanceMethod yX9_isPartition, Cond.selects RX9 yX9_isPartition yX9_isPartition, Cond.code yX9_isPartition cX9_isPartition 5 (some .boolean), Cond.methodLink RX9 139 yX9_figureOf, Cond.static yX9_figureOf, Cond.code yX9_figureOf cX9_figureOf 2 (some .int), Cond.methodLink RX9 151 yX9_goesAlong, Cond.instanceMethod yX9_goesAlong, Cond.selects RX9 yX9_goesAlong yX9_goesAlong]
noncomputable def wsX9_count_r3 : List Cond := [Cond.code yX9_goesAlong cX9_goesAlong 6 (some .boolean), Cond.methodLink RX9 142 yX9_isWith, Cond.instanceMethod yX9_isWith, Cond.selects RX9 yX9_isWith yX9_isWith, Cond.code yX9_isWith cX9_isWith 4 (some .boolean), Cond.methodLink RX9 216 yX9_holding, Cond.instanceMethod yX9_holding, Cond.selects RX9 yX9_holding yX9_holding, Cond.code yX9_holding cX9_holding 3 (some .int), Cond.methodLink RX9 136 yX9_firstOf, Cond.instanceMethod yX9_firstOf, Cond.selects RX9 yX9_firstOf yX9_firstOf, Cond.code yX9_firstOf cX9_firstOf 6 (some .int), Cond.methodLink RX9 129 yX9_named, Cond.static yX9_named, Cond.code yX9_named cX9_named 1 (some .int), Cond.methodLink RX9 132 yX9_isSo, Cond.instanceMethod yX9_isSo, Cond.selects RX9 yX9_isSo yX9_isSo, Cond.code yX9_isSo cX9_isSo 5 (some .boolean), Cond.methodLink RX9 219 yX9_maps, Cond.instanceMethod yX9_maps, Cond.selects RX9 yX9_maps yX9_maps, Cond.code yX9_maps cX9_maps 6 (some .int)]
noncomputable def wsX9_count_r4 : List Cond := [Cond.methodLink RX9 176 yX9_to, Cond.static yX9_to, Cond.code yX9_to cX9_to 2 (some .int), Cond.methodLink RX9 179 yX9_isMap, Cond.instanceMethod yX9_isMap, Cond.selects RX9 yX9_isMap yX9_isMap, Cond.code yX9_isMap cX9_isMap 5 (some .boolean)]
noncomputable def wsX9_count : List Cond := .code yX9_count cX9_count 2 (some .int) :: ((wsX9_count_r1 ++ (wsX9_count_r2 ++ (wsX9_count_r3 ++ wsX9_count_r4))) ++ wsX90)
noncomputable def wsJ9_max_7cf53 : List Cond := .code yJ9_max_7cf53 cJ9_max_7cf53 2 (some .int) :: ([])
end
section
set_option maxRecDepth 20000 in
theorem ggX0_leastAround_X0_valuesIn : GoodIn wsX0_leastAround wsX0_valuesIn := goodIn_r _ [4, 5, 6, 7, 8, 9, 10, 11, 12, 13, 14, 15, 16, 17, 18, 19, 20, 21, 22, 23] (by decide +kernel) (by decide +kernel)
set_option maxRecDepth 20000 in
theorem gX0_leastAround_X0_valuesIn : GoodIn wsX0_leastAround (va_wsS RX0 11 yX0_valuesIn wsX0_valuesIn) := goodIn_app (goodIn_of _ (by decide +kernel)) ggX0_leastAround_X0_valuesIn
theorem dX0_leastAround_0 : decode cX0_leastAround 0 = .ok (.iload_n 1, 1) := by decide +kernel
theorem dX0_leastAround_1 : decode cX0_leastAround 1 = .ok (.istore_n 2, 1) := by decide +kernel
theorem dX0_leastAround_2 : decode cX0_leastAround 2 = .ok (.iconst 0, 1) := by decide +kernel
theorem dX0_leastAround_3 : decode cX0_leastAround 3 = .ok (.istore_n 3, 1) := by decide +kernel
theorem dX0_leastAround_4 : decode cX0_leastAround 4 = .ok (.iload_n 3, 1) := by decide +kernel
theorem dX0_leastAround_5 : decode cX0_leastAround 5 = .ok (.iconst 4, 1) := by decide +kernel
theorem dX0_leastAround_6 : decode cX0_leastAround 6 = .ok (.if_icmp .ge 17, 3) := by decide +kernel
theorem dX0_leastAround_9 : decode cX0_leastAround 9 = .ok (.iload_n 2, 1) := by decide +kernel
theorem dX0_leastAround_10 : decode cX0_leastAround 10 = .ok (.aload_n 0, 1) := by decide +kernel
theorem dX0_leastAround_11 : decode cX0_leastAround 11 = .ok (.iload_n 2, 1) := by decide +kernel
theorem dX0_leastAround_12 : decode cX0_leastAround 12 = .ok (.invokestatic 11, 3) := by decide +kernel
theorem dX0_leastAround_15 : decode cX0_leastAround 15 = .ok (.ior, 1) := by decide +kernel
theorem dX0_leastAround_16 : decode cX0_leastAround 16 = .ok (.istore_n 2, 1) := by decide +kernel
theorem dX0_leastAround_17 : decode cX0_leastAround 17 = .ok (.iinc 3 1, 3) := by decide +kernel
theorem dX0_leastAround_20 : decode cX0_leastAround 20 = .ok (.goto (-16), 3) := by decide +kernel
theorem dX0_leastAround_23 : decode cX0_leastAround 23 = .ok (.iload_n 2, 1) := by decide +kernel
theorem dX0_leastAround_24 : decode cX0_leastAround 24 = .ok (.ireturn, 1) := by decide +kernel
set_option maxRecDepth 20000 in
theorem ggX0_byNumber_X6_allElements : GoodIn wsX0_byNumber wsX6_allElements := goodIn_r _ [5, 6, 30, 31] (by decide +kernel) (by decide +kernel)
set_option maxRecDepth 20000 in
theorem gX0_byNumber_X6_allElements : GoodIn wsX0_byNumber (wsV RX0 17 RX6 yX6_allElements wsX6_allElements) := goodIn_app (goodIn_of _ (by decide +kernel)) ggX0_byNumber_X6_allElements
set_option maxRecDepth 20000 in
theorem ggX0_byNumber_X0_isClosed : GoodIn wsX0_byNumber wsX0_isClosed := goodIn_r _ [10, 11, 12, 9, 13, 14, 15, 16, 17, 4, 18, 19, 20, 21, 22, 23, 24, 25, 26, 27, 28, 29, 30, 31] (by decide +kernel) (by decide +kernel)
set_option maxRecDepth 20000 in
theorem gX0_byNumber_X0_isClosed : GoodIn wsX0_byNumber (va_wsS RX0 21 yX0_isClosed wsX0_isClosed) := goodIn_app (goodIn_of _ (by decide +kernel)) ggX0_byNumber_X0_isClosed
theorem dX0_byNumber_0 : decode cX0_byNumber 0 = .ok (.iconst 0, 1) := by decide +kernel
theorem dX0_byNumber_1 : decode cX0_byNumber 1 = .ok (.istore_n 2, 1) := by decide +kernel
theorem dX0_byNumber_2 : decode cX0_byNumber 2 = .ok (.iconst 0, 1) := by decide +kernel
theorem dX0_byNumber_3 : decode cX0_byNumber 3 = .ok (.istore_n 3, 1) := by decide +kernel
theorem dX0_byNumber_4 : decode cX0_byNumber 4 = .ok (.iload_n 3, 1) := by decide +kernel
theorem dX0_byNumber_5 : decode cX0_byNumber 5 = .ok (.aload_n 0, 1) := by decide +kernel
theorem dX0_byNumber_6 : decode cX0_byNumber 6 = .ok (.invokevirtual 17, 3) := by decide +kernel
theorem dX0_byNumber_9 : decode cX0_byNumber 9 = .ok (.if_icmp .gt 27, 3) := by decide +kernel
theorem dX0_byNumber_12 : decode cX0_byNumber 12 = .ok (.aload_n 0, 1) := by decide +kernel
theorem dX0_byNumber_13 : decode cX0_byNumber 13 = .ok (.iload_n 3, 1) := by decide +kernel
theorem dX0_byNumber_14 : decode cX0_byNumber 14 = .ok (.invokestatic 21, 3) := by decide +kernel
theorem dX0_byNumber_17 : decode cX0_byNumber 17 = .ok (.ifCond .eq 13, 3) := by decide +kernel
theorem dX0_byNumber_20 : decode cX0_byNumber 20 = .ok (.iload_n 2, 1) := by decide +kernel
theorem dX0_byNumber_21 : decode cX0_byNumber 21 = .ok (.iload_n 1, 1) := by decide +kernel
theorem dX0_byNumber_22 : decode cX0_byNumber 22 = .ok (.if_icmp .ne 5, 3) := by decide +kernel
theorem dX0_byNumber_25 : decode cX0_byNumber 25 = .ok (.iload_n 3, 1) := by decide +kernel
theorem dX0_byNumber_26 : decode cX0_byNumber 26 = .ok (.ireturn, 1) := by decide +kernel
theorem dX0_byNumber_27 : decode cX0_byNumber 27 = .ok (.iinc 2 1, 3) := by decide +kernel
theorem dX0_byNumber_30 : decode cX0_byNumber 30 = .ok (.iinc 3 1, 3) := by decide +kernel
theorem dX0_byNumber_33 : decode cX0_byNumber 33 = .ok (.goto (-29), 3) := by decide +kernel
theorem dX0_byNumber_36 : decode cX0_byNumber 36 = .ok (.bipush (-9), 2) := by decide +kernel
theorem dX0_byNumber_38 : decode cX0_byNumber 38 = .ok (.ireturn, 1) := by decide +kernel
set_option maxRecDepth 20000 in
theorem ggX0_howMany_X6_allElements : GoodIn wsX0_howMany wsX6_allElements := goodIn_r _ [5, 6, 30, 31] (by decide +kernel) (by decide +kernel)
set_option maxRecDepth 20000 in
theorem gX0_howMany_X6_allElements : GoodIn wsX0_howMany (wsV RX0 17 RX6 yX6_allElements wsX6_allElements) := goodIn_app (goodIn_of _ (by decide +kernel)) ggX0_howMany_X6_allElements
set_option maxRecDepth 20000 in
theorem ggX0_howMany_X0_isClosed : GoodIn wsX0_howMany wsX0_isClosed := goodIn_r _ [10, 11, 12, 9, 13, 14, 15, 16, 17, 4, 18, 19, 20, 21, 22, 23, 24, 25, 26, 27, 28, 29, 30, 31] (by decide +kernel) (by decide +kernel)
set_option maxRecDepth 20000 in
theorem gX0_howMany_X0_isClosed : GoodIn wsX0_howMany (va_wsS RX0 21 yX0_isClosed wsX0_isClosed) := goodIn_app (goodIn_of _ (by decide +kernel)) ggX0_howMany_X0_isClosed
theorem dX0_howMany_0 : decode cX0_howMany 0 = .ok (.iconst 0, 1) := by decide +kernel
theorem dX0_howMany_1 : decode cX0_howMany 1 = .ok (.istore_n 1, 1) := by decide +kernel
theorem dX0_howMany_2 : decode cX0_howMany 2 = .ok (.iconst 0, 1) := by decide +kernel
theorem dX0_howMany_3 : decode cX0_howMany 3 = .ok (.istore_n 2, 1) := by decide +kernel
theorem dX0_howMany_4 : decode cX0_howMany 4 = .ok (.iload_n 2, 1) := by decide +kernel
theorem dX0_howMany_5 : decode cX0_howMany 5 = .ok (.aload_n 0, 1) := by decide +kernel
theorem dX0_howMany_6 : decode cX0_howMany 6 = .ok (.invokevirtual 17, 3) := by decide +kernel
theorem dX0_howMany_9 : decode cX0_howMany 9 = .ok (.if_icmp .gt 20, 3) := by decide +kernel
theorem dX0_howMany_12 : decode cX0_howMany 12 = .ok (.aload_n 0, 1) := by decide +kernel
theorem dX0_howMany_13 : decode cX0_howMany 13 = .ok (.iload_n 2, 1) := by decide +kernel
theorem dX0_howMany_14 : decode cX0_howMany 14 = .ok (.invokestatic 21, 3) := by decide +kernel
theorem dX0_howMany_17 : decode cX0_howMany 17 = .ok (.ifCond .eq 6, 3) := by decide +kernel
theorem dX0_howMany_20 : decode cX0_howMany 20 = .ok (.iinc 1 1, 3) := by decide +kernel
theorem dX0_howMany_23 : decode cX0_howMany 23 = .ok (.iinc 2 1, 3) := by decide +kernel
theorem dX0_howMany_26 : decode cX0_howMany 26 = .ok (.goto (-22), 3) := by decide +kernel
theorem dX0_howMany_29 : decode cX0_howMany 29 = .ok (.iload_n 1, 1) := by decide +kernel
theorem dX0_howMany_30 : decode cX0_howMany 30 = .ok (.ireturn, 1) := by decide +kernel
set_option maxRecDepth 20000 in
theorem ggX0_isClosed_X0_valuesIn : GoodIn wsX0_isClosed wsX0_valuesIn := goodIn_r _ [4, 5, 6, 7, 8, 9, 10, 11, 12, 13, 14, 15, 16, 17, 18, 19, 20, 21, 22, 23] (by decide +kernel) (by decide +kernel)
set_option maxRecDepth 20000 in
theorem gX0_isClosed_X0_valuesIn : GoodIn wsX0_isClosed (va_wsS RX0 11 yX0_valuesIn wsX0_valuesIn) := goodIn_app (goodIn_of _ (by decide +kernel)) ggX0_isClosed_X0_valuesIn
theorem dX0_isClosed_0 : decode cX0_isClosed 0 = .ok (.aload_n 0, 1) := by decide +kernel
theorem dX0_isClosed_1 : decode cX0_isClosed 1 = .ok (.iload_n 1, 1) := by decide +kernel
theorem dX0_isClosed_2 : decode cX0_isClosed 2 = .ok (.invokestatic 11, 3) := by decide +kernel
theorem dX0_isClosed_5 : decode cX0_isClosed 5 = .ok (.iload_n 1, 1) := by decide +kernel
theorem dX0_isClosed_6 : decode cX0_isClosed 6 = .ok (.iconst (-1), 1) := by decide +kernel
theorem dX0_isClosed_7 : decode cX0_isClosed 7 = .ok (.ixor, 1) := by decide +kernel
theorem dX0_isClosed_8 : decode cX0_isClosed 8 = .ok (.iand, 1) := by decide +kernel
theorem dX0_isClosed_9 : decode cX0_isClosed 9 = .ok (.ifCond .ne 7, 3) := by decide +kernel
theorem dX0_isClosed_12 : decode cX0_isClosed 12 = .ok (.iconst 1, 1) := by decide +kernel
theorem dX0_isClosed_13 : decode cX0_isClosed 13 = .ok (.goto 4, 3) := by decide +kernel
theorem dX0_isClosed_16 : decode cX0_isClosed 16 = .ok (.iconst 0, 1) := by decide +kernel
theorem dX0_isClosed_17 : decode cX0_isClosed 17 = .ok (.ireturn, 1) := by decide +kernel
set_option maxRecDepth 20000 in
theorem ggX0_valuesIn_X6_one : GoodIn wsX0_valuesIn wsX6_one := goodIn_r _ [6, 7, 8, 9, 5, 10, 18, 19] (by decide +kernel) (by decide +kernel)
set_option maxRecDepth 20000 in
theorem gX0_valuesIn_X6_one : GoodIn wsX0_valuesIn (wsV RX0 29 RX6 yX6_one wsX6_one) := goodIn_app (goodIn_of _ (by decide +kernel)) ggX0_valuesIn_X6_one
set_option maxRecDepth 20000 in
theorem ggX0_valuesIn_X6_two : GoodIn wsX0_valuesIn wsX6_two := goodIn_r _ [14, 7, 15, 16, 5, 17, 18, 19] (by decide +kernel) (by decide +kernel)
set_option maxRecDepth 20000 in
theorem gX0_valuesIn_X6_two : GoodIn wsX0_valuesIn (wsV RX0 33 RX6 yX6_two wsX6_two) := goodIn_app (goodIn_of _ (by decide +kernel)) ggX0_valuesIn_X6_two
theorem dX0_valuesIn_0 : decode cX0_valuesIn 0 = .ok (.iconst 0, 1) := by decide +kernel
theorem dX0_valuesIn_1 : decode cX0_valuesIn 1 = .ok (.istore_n 2, 1) := by decide +kernel
theorem dX0_valuesIn_2 : decode cX0_valuesIn 2 = .ok (.iconst 0, 1) := by decide +kernel
theorem dX0_valuesIn_3 : decode cX0_valuesIn 3 = .ok (.istore_n 3, 1) := by decide +kernel
theorem dX0_valuesIn_4 : decode cX0_valuesIn 4 = .ok (.iload_n 3, 1) := by decide +kernel
theorem dX0_valuesIn_5 : decode cX0_valuesIn 5 = .ok (.aload_n 0, 1) := by decide +kernel
theorem dX0_valuesIn_6 : decode cX0_valuesIn 6 = .ok (.getfield 25, 3) := by decide +kernel
theorem dX0_valuesIn_9 : decode cX0_valuesIn 9 = .ok (.if_icmp .ge 66, 3) := by decide +kernel
theorem dX0_valuesIn_12 : decode cX0_valuesIn 12 = .ok (.iload_n 1, 1) := by decide +kernel
theorem dX0_valuesIn_13 : decode cX0_valuesIn 13 = .ok (.iload_n 3, 1) := by decide +kernel
theorem dX0_valuesIn_14 : decode cX0_valuesIn 14 = .ok (.ishr, 1) := by decide +kernel
theorem dX0_valuesIn_15 : decode cX0_valuesIn 15 = .ok (.iconst 1, 1) := by decide +kernel
theorem dX0_valuesIn_16 : decode cX0_valuesIn 16 = .ok (.iand, 1) := by decide +kernel
theorem dX0_valuesIn_17 : decode cX0_valuesIn 17 = .ok (.ifCond .eq 52, 3) := by decide +kernel
theorem dX0_valuesIn_20 : decode cX0_valuesIn 20 = .ok (.iload_n 2, 1) := by decide +kernel
theorem dX0_valuesIn_21 : decode cX0_valuesIn 21 = .ok (.iconst 1, 1) := by decide +kernel
theorem dX0_valuesIn_22 : decode cX0_valuesIn 22 = .ok (.aload_n 0, 1) := by decide +kernel
theorem dX0_valuesIn_23 : decode cX0_valuesIn 23 = .ok (.iload_n 3, 1) := by decide +kernel
theorem dX0_valuesIn_24 : decode cX0_valuesIn 24 = .ok (.invokevirtual 29, 3) := by decide +kernel
theorem dX0_valuesIn_27 : decode cX0_valuesIn 27 = .ok (.ishl, 1) := by decide +kernel
theorem dX0_valuesIn_28 : decode cX0_valuesIn 28 = .ok (.ior, 1) := by decide +kernel
theorem dX0_valuesIn_29 : decode cX0_valuesIn 29 = .ok (.istore_n 2, 1) := by decide +kernel
theorem dX0_valuesIn_30 : decode cX0_valuesIn 30 = .ok (.iconst 0, 1) := by decide +kernel
theorem dX0_valuesIn_31 : decode cX0_valuesIn 31 = .ok (.istore 4, 2) := by decide +kernel
theorem dX0_valuesIn_33 : decode cX0_valuesIn 33 = .ok (.iload 4, 2) := by decide +kernel
theorem dX0_valuesIn_35 : decode cX0_valuesIn 35 = .ok (.aload_n 0, 1) := by decide +kernel
theorem dX0_valuesIn_36 : decode cX0_valuesIn 36 = .ok (.getfield 25, 3) := by decide +kernel
theorem dX0_valuesIn_39 : decode cX0_valuesIn 39 = .ok (.if_icmp .ge 30, 3) := by decide +kernel
theorem dX0_valuesIn_42 : decode cX0_valuesIn 42 = .ok (.iload_n 1, 1) := by decide +kernel
theorem dX0_valuesIn_43 : decode cX0_valuesIn 43 = .ok (.iload 4, 2) := by decide +kernel
theorem dX0_valuesIn_45 : decode cX0_valuesIn 45 = .ok (.ishr, 1) := by decide +kernel
theorem dX0_valuesIn_46 : decode cX0_valuesIn 46 = .ok (.iconst 1, 1) := by decide +kernel
theorem dX0_valuesIn_47 : decode cX0_valuesIn 47 = .ok (.iand, 1) := by decide +kernel
theorem dX0_valuesIn_48 : decode cX0_valuesIn 48 = .ok (.ifCond .eq 15, 3) := by decide +kernel
theorem dX0_valuesIn_51 : decode cX0_valuesIn 51 = .ok (.iload_n 2, 1) := by decide +kernel
theorem dX0_valuesIn_52 : decode cX0_valuesIn 52 = .ok (.iconst 1, 1) := by decide +kernel
theorem dX0_valuesIn_53 : decode cX0_valuesIn 53 = .ok (.aload_n 0, 1) := by decide +kernel
theorem dX0_valuesIn_54 : decode cX0_valuesIn 54 = .ok (.iload_n 3, 1) := by decide +kernel
theorem dX0_valuesIn_55 : decode cX0_valuesIn 55 = .ok (.iload 4, 2) := by decide +kernel
theorem dX0_valuesIn_57 : decode cX0_valuesIn 57 = .ok (.invokevirtual 33, 3) := by decide +kernel
theorem dX0_valuesIn_60 : decode cX0_valuesIn 60 = .ok (.ishl, 1) := by decide +kernel
theorem dX0_valuesIn_61 : decode cX0_valuesIn 61 = .ok (.ior, 1) := by decide +kernel
theorem dX0_valuesIn_62 : decode cX0_valuesIn 62 = .ok (.istore_n 2, 1) := by decide +kernel
theorem dX0_valuesIn_63 : decode cX0_valuesIn 63 = .ok (.iinc 4 1, 3) := by decide +kernel
theorem dX0_valuesIn_66 : decode cX0_valuesIn 66 = .ok (.goto (-33), 3) := by decide +kernel
theorem dX0_valuesIn_69 : decode cX0_valuesIn 69 = .ok (.iinc 3 1, 3) := by decide +kernel
theorem dX0_valuesIn_72 : decode cX0_valuesIn 72 = .ok (.goto (-68), 3) := by decide +kernel
theorem dX0_valuesIn_75 : decode cX0_valuesIn 75 = .ok (.iload_n 2, 1) := by decide +kernel
theorem dX0_valuesIn_76 : decode cX0_valuesIn 76 = .ok (.ireturn, 1) := by decide +kernel
theorem dX1_init_0 : decode cX1_init 0 = .ok (.aload_n 0, 1) := by decide +kernel
theorem dX1_init_1 : decode cX1_init 1 = .ok (.invokespecial 1, 3) := by decide +kernel
theorem dX1_init_4 : decode cX1_init 4 = .ok (.aload_n 0, 1) := by decide +kernel
theorem dX1_init_5 : decode cX1_init 5 = .ok (.getstatic 7, 3) := by decide +kernel
theorem dX1_init_8 : decode cX1_init 8 = .ok (.arraylength, 1) := by decide +kernel
theorem dX1_init_9 : decode cX1_init 9 = .ok (.newarray .int, 2) := by decide +kernel
theorem dX1_init_11 : decode cX1_init 11 = .ok (.putfield 13, 3) := by decide +kernel
theorem dX1_init_14 : decode cX1_init 14 = .ok (.return_, 1) := by decide +kernel
set_option maxRecDepth 20000 in
theorem ggX1_seekIn_X1_isOfFirst : GoodIn wsX1_seekIn wsX1_isOfFirst := goodIn_r _ [9, 10, 11, 8, 12] (by decide +kernel) (by decide +kernel)
set_option maxRecDepth 20000 in
theorem gX1_seekIn_X1_isOfFirst : GoodIn wsX1_seekIn (va_wsS RX1 26 yX1_isOfFirst wsX1_isOfFirst) := goodIn_app (goodIn_of _ (by decide +kernel)) ggX1_seekIn_X1_isOfFirst
set_option maxRecDepth 20000 in
theorem ggX1_seekIn_X1_goesAlong : GoodIn wsX1_seekIn wsX1_goesAlong := goodIn_r _ [15, 1, 10, 11, 8, 12, 16, 17, 18, 19, 20, 21, 22, 23, 24, 25, 26, 27, 28, 29, 30, 31, 32, 33, 34, 35, 36] (by decide +kernel) (by decide +kernel)
set_option maxRecDepth 20000 in
theorem gX1_seekIn_X1_goesAlong : GoodIn wsX1_seekIn (va_wsS RX1 30 yX1_goesAlong wsX1_goesAlong) := goodIn_app (goodIn_of _ (by decide +kernel)) ggX1_seekIn_X1_goesAlong
theorem dX1_seekIn_0 : decode cX1_seekIn 0 = .ok (.aload_n 0, 1) := by decide +kernel
theorem dX1_seekIn_1 : decode cX1_seekIn 1 = .ok (.aload_n 1, 1) := by decide +kernel
theorem dX1_seekIn_2 : decode cX1_seekIn 2 = .ok (.getfield 16, 3) := by decide +kernel
theorem dX1_seekIn_5 : decode cX1_seekIn 5 = .ok (.putfield 22, 3) := by decide +kernel
theorem dX1_seekIn_8 : decode cX1_seekIn 8 = .ok (.aload_n 0, 1) := by decide +kernel
theorem dX1_seekIn_9 : decode cX1_seekIn 9 = .ok (.iconst 0, 1) := by decide +kernel
theorem dX1_seekIn_10 : decode cX1_seekIn 10 = .ok (.putfield 23, 3) := by decide +kernel
theorem dX1_seekIn_13 : decode cX1_seekIn 13 = .ok (.iconst 0, 1) := by decide +kernel
theorem dX1_seekIn_14 : decode cX1_seekIn 14 = .ok (.istore_n 2, 1) := by decide +kernel
theorem dX1_seekIn_15 : decode cX1_seekIn 15 = .ok (.iload_n 2, 1) := by decide +kernel
theorem dX1_seekIn_16 : decode cX1_seekIn 16 = .ok (.getstatic 7, 3) := by decide +kernel
theorem dX1_seekIn_19 : decode cX1_seekIn 19 = .ok (.arraylength, 1) := by decide +kernel
theorem dX1_seekIn_20 : decode cX1_seekIn 20 = .ok (.if_icmp .ge 60, 3) := by decide +kernel
theorem dX1_seekIn_23 : decode cX1_seekIn 23 = .ok (.aload_n 0, 1) := by decide +kernel
theorem dX1_seekIn_24 : decode cX1_seekIn 24 = .ok (.getfield 22, 3) := by decide +kernel
theorem dX1_seekIn_27 : decode cX1_seekIn 27 = .ok (.getstatic 7, 3) := by decide +kernel
theorem dX1_seekIn_30 : decode cX1_seekIn 30 = .ok (.iload_n 2, 1) := by decide +kernel
theorem dX1_seekIn_31 : decode cX1_seekIn 31 = .ok (.iaload, 1) := by decide +kernel
theorem dX1_seekIn_32 : decode cX1_seekIn 32 = .ok (.invokestatic 26, 3) := by decide +kernel
theorem dX1_seekIn_35 : decode cX1_seekIn 35 = .ok (.ifCond .eq 39, 3) := by decide +kernel
theorem dX1_seekIn_38 : decode cX1_seekIn 38 = .ok (.aload_n 1, 1) := by decide +kernel
theorem dX1_seekIn_39 : decode cX1_seekIn 39 = .ok (.getstatic 7, 3) := by decide +kernel
theorem dX1_seekIn_42 : decode cX1_seekIn 42 = .ok (.iload_n 2, 1) := by decide +kernel
theorem dX1_seekIn_43 : decode cX1_seekIn 43 = .ok (.iaload, 1) := by decide +kernel
theorem dX1_seekIn_44 : decode cX1_seekIn 44 = .ok (.invokestatic 30, 3) := by decide +kernel
theorem dX1_seekIn_47 : decode cX1_seekIn 47 = .ok (.ifCond .eq 27, 3) := by decide +kernel
theorem dX1_seekIn_50 : decode cX1_seekIn 50 = .ok (.aload_n 0, 1) := by decide +kernel
theorem dX1_seekIn_51 : decode cX1_seekIn 51 = .ok (.getfield 13, 3) := by decide +kernel
theorem dX1_seekIn_54 : decode cX1_seekIn 54 = .ok (.aload_n 0, 1) := by decide +kernel
theorem dX1_seekIn_55 : decode cX1_seekIn 55 = .ok (.getfield 23, 3) := by decide +kernel
theorem dX1_seekIn_58 : decode cX1_seekIn 58 = .ok (.getstatic 7, 3) := by decide +kernel
theorem dX1_seekIn_61 : decode cX1_seekIn 61 = .ok (.iload_n 2, 1) := by decide +kernel
theorem dX1_seekIn_62 : decode cX1_seekIn 62 = .ok (.iaload, 1) := by decide +kernel
theorem dX1_seekIn_63 : decode cX1_seekIn 63 = .ok (.iastore, 1) := by decide +kernel
theorem dX1_seekIn_64 : decode cX1_seekIn 64 = .ok (.aload_n 0, 1) := by decide +kernel
theorem dX1_seekIn_65 : decode cX1_seekIn 65 = .ok (.dup, 1) := by decide +kernel
theorem dX1_seekIn_66 : decode cX1_seekIn 66 = .ok (.getfield 23, 3) := by decide +kernel
theorem dX1_seekIn_69 : decode cX1_seekIn 69 = .ok (.iconst 1, 1) := by decide +kernel
theorem dX1_seekIn_70 : decode cX1_seekIn 70 = .ok (.iadd, 1) := by decide +kernel
theorem dX1_seekIn_71 : decode cX1_seekIn 71 = .ok (.putfield 23, 3) := by decide +kernel
theorem dX1_seekIn_74 : decode cX1_seekIn 74 = .ok (.iinc 2 1, 3) := by decide +kernel
theorem dX1_seekIn_77 : decode cX1_seekIn 77 = .ok (.goto (-62), 3) := by decide +kernel
theorem dX1_seekIn_80 : decode cX1_seekIn 80 = .ok (.return_, 1) := by decide +kernel
theorem dX1_isThere_0 : decode cX1_isThere 0 = .ok (.iload_n 1, 1) := by decide +kernel
theorem dX1_isThere_1 : decode cX1_isThere 1 = .ok (.ifCond .lt 24, 3) := by decide +kernel
theorem dX1_isThere_4 : decode cX1_isThere 4 = .ok (.iload_n 1, 1) := by decide +kernel
theorem dX1_isThere_5 : decode cX1_isThere 5 = .ok (.aload_n 0, 1) := by decide +kernel
theorem dX1_isThere_6 : decode cX1_isThere 6 = .ok (.getfield 23, 3) := by decide +kernel
theorem dX1_isThere_9 : decode cX1_isThere 9 = .ok (.if_icmp .ge 16, 3) := by decide +kernel
theorem dX1_isThere_12 : decode cX1_isThere 12 = .ok (.iload_n 1, 1) := by decide +kernel
theorem dX1_isThere_13 : decode cX1_isThere 13 = .ok (.aload_n 0, 1) := by decide +kernel
theorem dX1_isThere_14 : decode cX1_isThere 14 = .ok (.getfield 13, 3) := by decide +kernel
theorem dX1_isThere_17 : decode cX1_isThere 17 = .ok (.arraylength, 1) := by decide +kernel
theorem dX1_isThere_18 : decode cX1_isThere 18 = .ok (.if_icmp .ge 7, 3) := by decide +kernel
theorem dX1_isThere_21 : decode cX1_isThere 21 = .ok (.iconst 1, 1) := by decide +kernel
theorem dX1_isThere_22 : decode cX1_isThere 22 = .ok (.goto 4, 3) := by decide +kernel
theorem dX1_isThere_25 : decode cX1_isThere 25 = .ok (.iconst 0, 1) := by decide +kernel
theorem dX1_isThere_26 : decode cX1_isThere 26 = .ok (.ireturn, 1) := by decide +kernel
set_option maxRecDepth 20000 in
theorem ggX1_partition_X1_isThere : GoodIn wsX1_partition wsX1_isThere := goodIn_r _ [6, 7, 1, 8, 9, 10] (by decide +kernel) (by decide +kernel)
set_option maxRecDepth 20000 in
theorem gX1_partition_X1_isThere : GoodIn wsX1_partition (wsV RX1 34 RX1 yX1_isThere wsX1_isThere) := goodIn_app (goodIn_of _ (by decide +kernel)) ggX1_partition_X1_isThere
theorem dX1_partition_0 : decode cX1_partition 0 = .ok (.aload_n 0, 1) := by decide +kernel
theorem dX1_partition_1 : decode cX1_partition 1 = .ok (.iload_n 1, 1) := by decide +kernel
theorem dX1_partition_2 : decode cX1_partition 2 = .ok (.invokevirtual 34, 3) := by decide +kernel
theorem dX1_partition_5 : decode cX1_partition 5 = .ok (.ifCond .eq 12, 3) := by decide +kernel
theorem dX1_partition_8 : decode cX1_partition 8 = .ok (.aload_n 0, 1) := by decide +kernel
theorem dX1_partition_9 : decode cX1_partition 9 = .ok (.getfield 13, 3) := by decide +kernel
theorem dX1_partition_12 : decode cX1_partition 12 = .ok (.iload_n 1, 1) := by decide +kernel
theorem dX1_partition_13 : decode cX1_partition 13 = .ok (.iaload, 1) := by decide +kernel
theorem dX1_partition_14 : decode cX1_partition 14 = .ok (.goto 4, 3) := by decide +kernel
theorem dX1_partition_17 : decode cX1_partition 17 = .ok (.iconst 0, 1) := by decide +kernel
theorem dX1_partition_18 : decode cX1_partition 18 = .ok (.ireturn, 1) := by decide +kernel
set_option maxRecDepth 20000 in
theorem ggX1_nameOf_X1_partition : GoodIn wsX1_nameOf wsX1_partition := goodIn_r _ [6, 7, 8, 9, 10, 5, 11, 12, 16, 17, 18] (by decide +kernel) (by decide +kernel)
set_option maxRecDepth 20000 in
theorem gX1_nameOf_X1_partition : GoodIn wsX1_nameOf (wsV RX1 38 RX1 yX1_partition wsX1_partition) := goodIn_app (goodIn_of _ (by decide +kernel)) ggX1_nameOf_X1_partition
set_option maxRecDepth 20000 in
theorem ggX1_nameOf_X1_least : GoodIn wsX1_nameOf wsX1_least := goodIn_r _ [15] (by decide +kernel) (by decide +kernel)
set_option maxRecDepth 20000 in
theorem gX1_nameOf_X1_least : GoodIn wsX1_nameOf (va_wsS RX1 42 yX1_least wsX1_least) := goodIn_app (goodIn_of _ (by decide +kernel)) ggX1_nameOf_X1_least
theorem dX1_nameOf_0 : decode cX1_nameOf 0 = .ok (.iconst 0, 1) := by decide +kernel
theorem dX1_nameOf_1 : decode cX1_nameOf 1 = .ok (.istore_n 2, 1) := by decide +kernel
theorem dX1_nameOf_2 : decode cX1_nameOf 2 = .ok (.iconst 0, 1) := by decide +kernel
theorem dX1_nameOf_3 : decode cX1_nameOf 3 = .ok (.istore_n 3, 1) := by decide +kernel
theorem dX1_nameOf_4 : decode cX1_nameOf 4 = .ok (.iload_n 3, 1) := by decide +kernel
theorem dX1_nameOf_5 : decode cX1_nameOf 5 = .ok (.aload_n 0, 1) := by decide +kernel
theorem dX1_nameOf_6 : decode cX1_nameOf 6 = .ok (.getfield 22, 3) := by decide +kernel
theorem dX1_nameOf_9 : decode cX1_nameOf 9 = .ok (.if_icmp .ge 24, 3) := by decide +kernel
theorem dX1_nameOf_12 : decode cX1_nameOf 12 = .ok (.bipush 10, 2) := by decide +kernel
theorem dX1_nameOf_14 : decode cX1_nameOf 14 = .ok (.iload_n 2, 1) := by decide +kernel
theorem dX1_nameOf_15 : decode cX1_nameOf 15 = .ok (.imul, 1) := by decide +kernel
theorem dX1_nameOf_16 : decode cX1_nameOf 16 = .ok (.aload_n 0, 1) := by decide +kernel
theorem dX1_nameOf_17 : decode cX1_nameOf 17 = .ok (.iload_n 1, 1) := by decide +kernel
theorem dX1_nameOf_18 : decode cX1_nameOf 18 = .ok (.invokevirtual 38, 3) := by decide +kernel
theorem dX1_nameOf_21 : decode cX1_nameOf 21 = .ok (.iload_n 3, 1) := by decide +kernel
theorem dX1_nameOf_22 : decode cX1_nameOf 22 = .ok (.invokestatic 42, 3) := by decide +kernel
theorem dX1_nameOf_25 : decode cX1_nameOf 25 = .ok (.iadd, 1) := by decide +kernel
theorem dX1_nameOf_26 : decode cX1_nameOf 26 = .ok (.istore_n 2, 1) := by decide +kernel
theorem dX1_nameOf_27 : decode cX1_nameOf 27 = .ok (.iinc 3 1, 3) := by decide +kernel
theorem dX1_nameOf_30 : decode cX1_nameOf 30 = .ok (.goto (-26), 3) := by decide +kernel
theorem dX1_nameOf_33 : decode cX1_nameOf 33 = .ok (.iload_n 2, 1) := by decide +kernel
theorem dX1_nameOf_34 : decode cX1_nameOf 34 = .ok (.ireturn, 1) := by decide +kernel
set_option maxRecDepth 20000 in
theorem ggX1_finestWith_X1_partition : GoodIn wsX1_finestWith wsX1_partition := goodIn_r _ [6, 7, 8, 9, 10, 5, 11, 1, 18, 19, 20] (by decide +kernel) (by decide +kernel)
set_option maxRecDepth 20000 in
theorem gX1_finestWith_X1_partition : GoodIn wsX1_finestWith (wsV RX1 38 RX1 yX1_partition wsX1_partition) := goodIn_app (goodIn_of _ (by decide +kernel)) ggX1_finestWith_X1_partition
set_option maxRecDepth 20000 in
theorem ggX1_finestWith_X1_together : GoodIn wsX1_finestWith wsX1_together := goodIn_r _ [14, 15, 16, 5, 17] (by decide +kernel) (by decide +kernel)
set_option maxRecDepth 20000 in
theorem gX1_finestWith_X1_together : GoodIn wsX1_finestWith (va_wsS RX1 46 yX1_together wsX1_together) := goodIn_app (goodIn_of _ (by decide +kernel)) ggX1_finestWith_X1_together
theorem dX1_finestWith_0 : decode cX1_finestWith 0 = .ok (.aload_n 0, 1) := by decide +kernel
theorem dX1_finestWith_1 : decode cX1_finestWith 1 = .ok (.getfield 23, 3) := by decide +kernel
theorem dX1_finestWith_4 : decode cX1_finestWith 4 = .ok (.iconst 1, 1) := by decide +kernel
theorem dX1_finestWith_5 : decode cX1_finestWith 5 = .ok (.isub, 1) := by decide +kernel
theorem dX1_finestWith_6 : decode cX1_finestWith 6 = .ok (.istore_n 3, 1) := by decide +kernel
theorem dX1_finestWith_7 : decode cX1_finestWith 7 = .ok (.iload_n 3, 1) := by decide +kernel
theorem dX1_finestWith_8 : decode cX1_finestWith 8 = .ok (.ifCond .le 24, 3) := by decide +kernel
theorem dX1_finestWith_11 : decode cX1_finestWith 11 = .ok (.aload_n 0, 1) := by decide +kernel
theorem dX1_finestWith_12 : decode cX1_finestWith 12 = .ok (.iload_n 3, 1) := by decide +kernel
theorem dX1_finestWith_13 : decode cX1_finestWith 13 = .ok (.invokevirtual 38, 3) := by decide +kernel
theorem dX1_finestWith_16 : decode cX1_finestWith 16 = .ok (.iload_n 1, 1) := by decide +kernel
theorem dX1_finestWith_17 : decode cX1_finestWith 17 = .ok (.iload_n 2, 1) := by decide +kernel
theorem dX1_finestWith_18 : decode cX1_finestWith 18 = .ok (.invokestatic 46, 3) := by decide +kernel
theorem dX1_finestWith_21 : decode cX1_finestWith 21 = .ok (.ifCond .eq 5, 3) := by decide +kernel
theorem dX1_finestWith_24 : decode cX1_finestWith 24 = .ok (.iload_n 3, 1) := by decide +kernel
theorem dX1_finestWith_25 : decode cX1_finestWith 25 = .ok (.ireturn, 1) := by decide +kernel
theorem dX1_finestWith_26 : decode cX1_finestWith 26 = .ok (.iinc 3 (-1), 3) := by decide +kernel
theorem dX1_finestWith_29 : decode cX1_finestWith 29 = .ok (.goto (-22), 3) := by decide +kernel
theorem dX1_finestWith_32 : decode cX1_finestWith 32 = .ok (.iconst 0, 1) := by decide +kernel
theorem dX1_finestWith_33 : decode cX1_finestWith 33 = .ok (.ireturn, 1) := by decide +kernel
set_option maxRecDepth 20000 in
theorem ggX1_join_X1_isFiner : GoodIn wsX1_join wsX1_isFiner := goodIn_r _ [6, 7, 8, 9, 10, 5, 11, 12, 13, 14, 15, 16, 1, 17, 18, 19, 20, 21, 22, 23, 24, 25] (by decide +kernel) (by decide +kernel)
set_option maxRecDepth 20000 in
theorem gX1_join_X1_isFiner : GoodIn wsX1_join (wsV RX1 50 RX1 yX1_isFiner wsX1_isFiner) := goodIn_app (goodIn_of _ (by decide +kernel)) ggX1_join_X1_isFiner
theorem dX1_join_0 : decode cX1_join 0 = .ok (.aload_n 0, 1) := by decide +kernel
theorem dX1_join_1 : decode cX1_join 1 = .ok (.getfield 23, 3) := by decide +kernel
theorem dX1_join_4 : decode cX1_join 4 = .ok (.iconst 1, 1) := by decide +kernel
theorem dX1_join_5 : decode cX1_join 5 = .ok (.isub, 1) := by decide +kernel
theorem dX1_join_6 : decode cX1_join 6 = .ok (.istore_n 3, 1) := by decide +kernel
theorem dX1_join_7 : decode cX1_join 7 = .ok (.iload_n 3, 1) := by decide +kernel
theorem dX1_join_8 : decode cX1_join 8 = .ok (.ifCond .le 29, 3) := by decide +kernel
theorem dX1_join_11 : decode cX1_join 11 = .ok (.aload_n 0, 1) := by decide +kernel
theorem dX1_join_12 : decode cX1_join 12 = .ok (.iload_n 1, 1) := by decide +kernel
theorem dX1_join_13 : decode cX1_join 13 = .ok (.iload_n 3, 1) := by decide +kernel
theorem dX1_join_14 : decode cX1_join 14 = .ok (.invokevirtual 50, 3) := by decide +kernel
theorem dX1_join_17 : decode cX1_join 17 = .ok (.ifCond .eq 14, 3) := by decide +kernel
theorem dX1_join_20 : decode cX1_join 20 = .ok (.aload_n 0, 1) := by decide +kernel
theorem dX1_join_21 : decode cX1_join 21 = .ok (.iload_n 2, 1) := by decide +kernel
theorem dX1_join_22 : decode cX1_join 22 = .ok (.iload_n 3, 1) := by decide +kernel
theorem dX1_join_23 : decode cX1_join 23 = .ok (.invokevirtual 50, 3) := by decide +kernel
theorem dX1_join_26 : decode cX1_join 26 = .ok (.ifCond .eq 5, 3) := by decide +kernel
theorem dX1_join_29 : decode cX1_join 29 = .ok (.iload_n 3, 1) := by decide +kernel
theorem dX1_join_30 : decode cX1_join 30 = .ok (.ireturn, 1) := by decide +kernel
theorem dX1_join_31 : decode cX1_join 31 = .ok (.iinc 3 (-1), 3) := by decide +kernel
theorem dX1_join_34 : decode cX1_join 34 = .ok (.goto (-27), 3) := by decide +kernel
theorem dX1_join_37 : decode cX1_join 37 = .ok (.iconst 0, 1) := by decide +kernel
theorem dX1_join_38 : decode cX1_join 38 = .ok (.ireturn, 1) := by decide +kernel
set_option maxRecDepth 20000 in
theorem ggX1_meet_X1_isFiner : GoodIn wsX1_meet wsX1_isFiner := goodIn_r _ [6, 7, 8, 9, 10, 5, 11, 12, 13, 14, 15, 16, 1, 17, 18, 19, 20, 21, 22, 23, 24, 25] (by decide +kernel) (by decide +kernel)
set_option maxRecDepth 20000 in
theorem gX1_meet_X1_isFiner : GoodIn wsX1_meet (wsV RX1 50 RX1 yX1_isFiner wsX1_isFiner) := goodIn_app (goodIn_of _ (by decide +kernel)) ggX1_meet_X1_isFiner
theorem dX1_meet_0 : decode cX1_meet 0 = .ok (.iconst 0, 1) := by decide +kernel
theorem dX1_meet_1 : decode cX1_meet 1 = .ok (.istore_n 3, 1) := by decide +kernel
theorem dX1_meet_2 : decode cX1_meet 2 = .ok (.iload_n 3, 1) := by decide +kernel
theorem dX1_meet_3 : decode cX1_meet 3 = .ok (.aload_n 0, 1) := by decide +kernel
theorem dX1_meet_4 : decode cX1_meet 4 = .ok (.getfield 23, 3) := by decide +kernel
theorem dX1_meet_7 : decode cX1_meet 7 = .ok (.if_icmp .ge 29, 3) := by decide +kernel
theorem dX1_meet_10 : decode cX1_meet 10 = .ok (.aload_n 0, 1) := by decide +kernel
theorem dX1_meet_11 : decode cX1_meet 11 = .ok (.iload_n 3, 1) := by decide +kernel
theorem dX1_meet_12 : decode cX1_meet 12 = .ok (.iload_n 1, 1) := by decide +kernel
theorem dX1_meet_13 : decode cX1_meet 13 = .ok (.invokevirtual 50, 3) := by decide +kernel
theorem dX1_meet_16 : decode cX1_meet 16 = .ok (.ifCond .eq 14, 3) := by decide +kernel
theorem dX1_meet_19 : decode cX1_meet 19 = .ok (.aload_n 0, 1) := by decide +kernel
theorem dX1_meet_20 : decode cX1_meet 20 = .ok (.iload_n 3, 1) := by decide +kernel
theorem dX1_meet_21 : decode cX1_meet 21 = .ok (.iload_n 2, 1) := by decide +kernel
theorem dX1_meet_22 : decode cX1_meet 22 = .ok (.invokevirtual 50, 3) := by decide +kernel
theorem dX1_meet_25 : decode cX1_meet 25 = .ok (.ifCond .eq 5, 3) := by decide +kernel
theorem dX1_meet_28 : decode cX1_meet 28 = .ok (.iload_n 3, 1) := by decide +kernel
theorem dX1_meet_29 : decode cX1_meet 29 = .ok (.ireturn, 1) := by decide +kernel
theorem dX1_meet_30 : decode cX1_meet 30 = .ok (.iinc 3 1, 3) := by decide +kernel
theorem dX1_meet_33 : decode cX1_meet 33 = .ok (.goto (-31), 3) := by decide +kernel
theorem dX1_meet_36 : decode cX1_meet 36 = .ok (.aload_n 0, 1) := by decide +kernel
theorem dX1_meet_37 : decode cX1_meet 37 = .ok (.getfield 23, 3) := by decide +kernel
theorem dX1_meet_40 : decode cX1_meet 40 = .ok (.iconst 1, 1) := by decide +kernel
theorem dX1_meet_41 : decode cX1_meet 41 = .ok (.isub, 1) := by decide +kernel
theorem dX1_meet_42 : decode cX1_meet 42 = .ok (.ireturn, 1) := by decide +kernel
set_option maxRecDepth 20000 in
theorem ggX1_isFiner_X1_partition : GoodIn wsX1_isFiner wsX1_partition := goodIn_r _ [6, 7, 8, 9, 10, 5, 11, 12, 19, 20, 21] (by decide +kernel) (by decide +kernel)
set_option maxRecDepth 20000 in
theorem gX1_isFiner_X1_partition : GoodIn wsX1_isFiner (wsV RX1 38 RX1 yX1_partition wsX1_partition) := goodIn_app (goodIn_of _ (by decide +kernel)) ggX1_isFiner_X1_partition
set_option maxRecDepth 20000 in
theorem ggX1_isFiner_X1_least : GoodIn wsX1_isFiner wsX1_least := goodIn_r _ [15] (by decide +kernel) (by decide +kernel)
set_option maxRecDepth 20000 in
theorem gX1_isFiner_X1_least : GoodIn wsX1_isFiner (va_wsS RX1 42 yX1_least wsX1_least) := goodIn_app (goodIn_of _ (by decide +kernel)) ggX1_isFiner_X1_least
set_option maxRecDepth 20000 in
theorem ggX1_isFiner_X1_together : GoodIn wsX1_isFiner wsX1_together := goodIn_r _ [18, 13, 14, 5, 15] (by decide +kernel) (by decide +kernel)
set_option maxRecDepth 20000 in
theorem gX1_isFiner_X1_together : GoodIn wsX1_isFiner (va_wsS RX1 46 yX1_together wsX1_together) := goodIn_app (goodIn_of _ (by decide +kernel)) ggX1_isFiner_X1_together
theorem dX1_isFiner_0 : decode cX1_isFiner 0 = .ok (.iconst 0, 1) := by decide +kernel
theorem dX1_isFiner_1 : decode cX1_isFiner 1 = .ok (.istore_n 3, 1) := by decide +kernel
theorem dX1_isFiner_2 : decode cX1_isFiner 2 = .ok (.iload_n 3, 1) := by decide +kernel
theorem dX1_isFiner_3 : decode cX1_isFiner 3 = .ok (.aload_n 0, 1) := by decide +kernel
theorem dX1_isFiner_4 : decode cX1_isFiner 4 = .ok (.getfield 22, 3) := by decide +kernel
theorem dX1_isFiner_7 : decode cX1_isFiner 7 = .ok (.if_icmp .ge 32, 3) := by decide +kernel
theorem dX1_isFiner_10 : decode cX1_isFiner 10 = .ok (.aload_n 0, 1) := by decide +kernel
theorem dX1_isFiner_11 : decode cX1_isFiner 11 = .ok (.iload_n 2, 1) := by decide +kernel
theorem dX1_isFiner_12 : decode cX1_isFiner 12 = .ok (.invokevirtual 38, 3) := by decide +kernel
theorem dX1_isFiner_15 : decode cX1_isFiner 15 = .ok (.iload_n 3, 1) := by decide +kernel
theorem dX1_isFiner_16 : decode cX1_isFiner 16 = .ok (.aload_n 0, 1) := by decide +kernel
theorem dX1_isFiner_17 : decode cX1_isFiner 17 = .ok (.iload_n 1, 1) := by decide +kernel
theorem dX1_isFiner_18 : decode cX1_isFiner 18 = .ok (.invokevirtual 38, 3) := by decide +kernel
theorem dX1_isFiner_21 : decode cX1_isFiner 21 = .ok (.iload_n 3, 1) := by decide +kernel
theorem dX1_isFiner_22 : decode cX1_isFiner 22 = .ok (.invokestatic 42, 3) := by decide +kernel
theorem dX1_isFiner_25 : decode cX1_isFiner 25 = .ok (.invokestatic 46, 3) := by decide +kernel
theorem dX1_isFiner_28 : decode cX1_isFiner 28 = .ok (.ifCond .ne 5, 3) := by decide +kernel
theorem dX1_isFiner_31 : decode cX1_isFiner 31 = .ok (.iconst 0, 1) := by decide +kernel
theorem dX1_isFiner_32 : decode cX1_isFiner 32 = .ok (.ireturn, 1) := by decide +kernel
theorem dX1_isFiner_33 : decode cX1_isFiner 33 = .ok (.iinc 3 1, 3) := by decide +kernel
theorem dX1_isFiner_36 : decode cX1_isFiner 36 = .ok (.goto (-34), 3) := by decide +kernel
theorem dX1_isFiner_39 : decode cX1_isFiner 39 = .ok (.iconst 1, 1) := by decide +kernel
theorem dX1_isFiner_40 : decode cX1_isFiner 40 = .ok (.ireturn, 1) := by decide +kernel
set_option maxRecDepth 20000 in
theorem ggX1_permute_X1_isLinked : GoodIn wsX1_permute wsX1_isLinked := goodIn_r _ [6, 1, 7, 8, 9, 5, 10, 11, 12, 13, 14, 15, 16, 17, 18, 19, 20, 21, 22, 23, 24, 25] (by decide +kernel) (by decide +kernel)
set_option maxRecDepth 20000 in
theorem gX1_permute_X1_isLinked : GoodIn wsX1_permute (wsV RX1 53 RX1 yX1_isLinked wsX1_isLinked) := goodIn_app (goodIn_of _ (by decide +kernel)) ggX1_permute_X1_isLinked
theorem dX1_permute_0 : decode cX1_permute 0 = .ok (.iconst 0, 1) := by decide +kernel
theorem dX1_permute_1 : decode cX1_permute 1 = .ok (.istore_n 3, 1) := by decide +kernel
theorem dX1_permute_2 : decode cX1_permute 2 = .ok (.iload_n 3, 1) := by decide +kernel
theorem dX1_permute_3 : decode cX1_permute 3 = .ok (.aload_n 0, 1) := by decide +kernel
theorem dX1_permute_4 : decode cX1_permute 4 = .ok (.getfield 22, 3) := by decide +kernel
theorem dX1_permute_7 : decode cX1_permute 7 = .ok (.if_icmp .ge 53, 3) := by decide +kernel
theorem dX1_permute_10 : decode cX1_permute 10 = .ok (.iconst 0, 1) := by decide +kernel
theorem dX1_permute_11 : decode cX1_permute 11 = .ok (.istore 4, 2) := by decide +kernel
theorem dX1_permute_13 : decode cX1_permute 13 = .ok (.iload 4, 2) := by decide +kernel
theorem dX1_permute_15 : decode cX1_permute 15 = .ok (.aload_n 0, 1) := by decide +kernel
theorem dX1_permute_16 : decode cX1_permute 16 = .ok (.getfield 22, 3) := by decide +kernel
theorem dX1_permute_19 : decode cX1_permute 19 = .ok (.if_icmp .ge 35, 3) := by decide +kernel
theorem dX1_permute_22 : decode cX1_permute 22 = .ok (.aload_n 0, 1) := by decide +kernel
theorem dX1_permute_23 : decode cX1_permute 23 = .ok (.iload_n 1, 1) := by decide +kernel
theorem dX1_permute_24 : decode cX1_permute 24 = .ok (.iload_n 2, 1) := by decide +kernel
theorem dX1_permute_25 : decode cX1_permute 25 = .ok (.iload_n 3, 1) := by decide +kernel
theorem dX1_permute_26 : decode cX1_permute 26 = .ok (.iload 4, 2) := by decide +kernel
theorem dX1_permute_28 : decode cX1_permute 28 = .ok (.invokevirtual 53, 3) := by decide +kernel
theorem dX1_permute_31 : decode cX1_permute 31 = .ok (.ifCond .eq 17, 3) := by decide +kernel
theorem dX1_permute_34 : decode cX1_permute 34 = .ok (.aload_n 0, 1) := by decide +kernel
theorem dX1_permute_35 : decode cX1_permute 35 = .ok (.iload_n 2, 1) := by decide +kernel
theorem dX1_permute_36 : decode cX1_permute 36 = .ok (.iload_n 1, 1) := by decide +kernel
theorem dX1_permute_37 : decode cX1_permute 37 = .ok (.iload_n 3, 1) := by decide +kernel
theorem dX1_permute_38 : decode cX1_permute 38 = .ok (.iload 4, 2) := by decide +kernel
theorem dX1_permute_40 : decode cX1_permute 40 = .ok (.invokevirtual 53, 3) := by decide +kernel
theorem dX1_permute_43 : decode cX1_permute 43 = .ok (.ifCond .ne 5, 3) := by decide +kernel
theorem dX1_permute_46 : decode cX1_permute 46 = .ok (.iconst 0, 1) := by decide +kernel
theorem dX1_permute_47 : decode cX1_permute 47 = .ok (.ireturn, 1) := by decide +kernel
theorem dX1_permute_48 : decode cX1_permute 48 = .ok (.iinc 4 1, 3) := by decide +kernel
theorem dX1_permute_51 : decode cX1_permute 51 = .ok (.goto (-38), 3) := by decide +kernel
theorem dX1_permute_54 : decode cX1_permute 54 = .ok (.iinc 3 1, 3) := by decide +kernel
theorem dX1_permute_57 : decode cX1_permute 57 = .ok (.goto (-55), 3) := by decide +kernel
theorem dX1_permute_60 : decode cX1_permute 60 = .ok (.iconst 1, 1) := by decide +kernel
theorem dX1_permute_61 : decode cX1_permute 61 = .ok (.ireturn, 1) := by decide +kernel
set_option maxRecDepth 20000 in
theorem ggX1_isLinked_X1_partition : GoodIn wsX1_isLinked wsX1_partition := goodIn_r _ [6, 7, 8, 9, 10, 5, 11, 12, 19, 20, 21] (by decide +kernel) (by decide +kernel)
set_option maxRecDepth 20000 in
theorem gX1_isLinked_X1_partition : GoodIn wsX1_isLinked (wsV RX1 38 RX1 yX1_partition wsX1_partition) := goodIn_app (goodIn_of _ (by decide +kernel)) ggX1_isLinked_X1_partition
set_option maxRecDepth 20000 in
theorem ggX1_isLinked_X1_together : GoodIn wsX1_isLinked wsX1_together := goodIn_r _ [15, 16, 17, 5, 18] (by decide +kernel) (by decide +kernel)
set_option maxRecDepth 20000 in
theorem gX1_isLinked_X1_together : GoodIn wsX1_isLinked (va_wsS RX1 46 yX1_together wsX1_together) := goodIn_app (goodIn_of _ (by decide +kernel)) ggX1_isLinked_X1_together
theorem dX1_isLinked_0 : decode cX1_isLinked 0 = .ok (.iconst 0, 1) := by decide +kernel
theorem dX1_isLinked_1 : decode cX1_isLinked 1 = .ok (.istore 5, 2) := by decide +kernel
theorem dX1_isLinked_3 : decode cX1_isLinked 3 = .ok (.iload 5, 2) := by decide +kernel
theorem dX1_isLinked_5 : decode cX1_isLinked 5 = .ok (.aload_n 0, 1) := by decide +kernel
theorem dX1_isLinked_6 : decode cX1_isLinked 6 = .ok (.getfield 22, 3) := by decide +kernel
theorem dX1_isLinked_9 : decode cX1_isLinked 9 = .ok (.if_icmp .ge 40, 3) := by decide +kernel
theorem dX1_isLinked_12 : decode cX1_isLinked 12 = .ok (.aload_n 0, 1) := by decide +kernel
theorem dX1_isLinked_13 : decode cX1_isLinked 13 = .ok (.iload_n 1, 1) := by decide +kernel
theorem dX1_isLinked_14 : decode cX1_isLinked 14 = .ok (.invokevirtual 38, 3) := by decide +kernel
theorem dX1_isLinked_17 : decode cX1_isLinked 17 = .ok (.iload_n 3, 1) := by decide +kernel
theorem dX1_isLinked_18 : decode cX1_isLinked 18 = .ok (.iload 5, 2) := by decide +kernel
theorem dX1_isLinked_20 : decode cX1_isLinked 20 = .ok (.invokestatic 46, 3) := by decide +kernel
theorem dX1_isLinked_23 : decode cX1_isLinked 23 = .ok (.ifCond .eq 20, 3) := by decide +kernel
theorem dX1_isLinked_26 : decode cX1_isLinked 26 = .ok (.aload_n 0, 1) := by decide +kernel
theorem dX1_isLinked_27 : decode cX1_isLinked 27 = .ok (.iload_n 2, 1) := by decide +kernel
theorem dX1_isLinked_28 : decode cX1_isLinked 28 = .ok (.invokevirtual 38, 3) := by decide +kernel
theorem dX1_isLinked_31 : decode cX1_isLinked 31 = .ok (.iload 5, 2) := by decide +kernel
theorem dX1_isLinked_33 : decode cX1_isLinked 33 = .ok (.iload 4, 2) := by decide +kernel
theorem dX1_isLinked_35 : decode cX1_isLinked 35 = .ok (.invokestatic 46, 3) := by decide +kernel
theorem dX1_isLinked_38 : decode cX1_isLinked 38 = .ok (.ifCond .eq 5, 3) := by decide +kernel
theorem dX1_isLinked_41 : decode cX1_isLinked 41 = .ok (.iconst 1, 1) := by decide +kernel
theorem dX1_isLinked_42 : decode cX1_isLinked 42 = .ok (.ireturn, 1) := by decide +kernel
theorem dX1_isLinked_43 : decode cX1_isLinked 43 = .ok (.iinc 5 1, 3) := by decide +kernel
theorem dX1_isLinked_46 : decode cX1_isLinked 46 = .ok (.goto (-43), 3) := by decide +kernel
theorem dX1_isLinked_49 : decode cX1_isLinked 49 = .ok (.iconst 0, 1) := by decide +kernel
theorem dX1_isLinked_50 : decode cX1_isLinked 50 = .ok (.ireturn, 1) := by decide +kernel
theorem dX1_least_0 : decode cX1_least 0 = .ok (.iload_n 0, 1) := by decide +kernel
theorem dX1_least_1 : decode cX1_least 1 = .ok (.bipush 12, 2) := by decide +kernel
theorem dX1_least_3 : decode cX1_least 3 = .ok (.iconst 4, 1) := by decide +kernel
theorem dX1_least_4 : decode cX1_least 4 = .ok (.iload_n 1, 1) := by decide +kernel
theorem dX1_least_5 : decode cX1_least 5 = .ok (.imul, 1) := by decide +kernel
theorem dX1_least_6 : decode cX1_least 6 = .ok (.isub, 1) := by decide +kernel
theorem dX1_least_7 : decode cX1_least 7 = .ok (.ishr, 1) := by decide +kernel
theorem dX1_least_8 : decode cX1_least 8 = .ok (.iconst 3, 1) := by decide +kernel
theorem dX1_least_9 : decode cX1_least 9 = .ok (.iand, 1) := by decide +kernel
theorem dX1_least_10 : decode cX1_least 10 = .ok (.ireturn, 1) := by decide +kernel
set_option maxRecDepth 20000 in
theorem ggX1_together_X1_least : GoodIn wsX1_together wsX1_least := goodIn_r _ [4] (by decide +kernel) (by decide +kernel)
set_option maxRecDepth 20000 in
theorem gX1_together_X1_least : GoodIn wsX1_together (va_wsS RX1 42 yX1_least wsX1_least) := goodIn_app (goodIn_of _ (by decide +kernel)) ggX1_together_X1_least
theorem dX1_together_0 : decode cX1_together 0 = .ok (.iload_n 0, 1) := by decide +kernel
theorem dX1_together_1 : decode cX1_together 1 = .ok (.iload_n 1, 1) := by decide +kernel
theorem dX1_together_2 : decode cX1_together 2 = .ok (.invokestatic 42, 3) := by decide +kernel
theorem dX1_together_5 : decode cX1_together 5 = .ok (.iload_n 0, 1) := by decide +kernel
theorem dX1_together_6 : decode cX1_together 6 = .ok (.iload_n 2, 1) := by decide +kernel
theorem dX1_together_7 : decode cX1_together 7 = .ok (.invokestatic 42, 3) := by decide +kernel
theorem dX1_together_10 : decode cX1_together 10 = .ok (.if_icmp .ne 7, 3) := by decide +kernel
theorem dX1_together_13 : decode cX1_together 13 = .ok (.iconst 1, 1) := by decide +kernel
theorem dX1_together_14 : decode cX1_together 14 = .ok (.goto 4, 3) := by decide +kernel
theorem dX1_together_17 : decode cX1_together 17 = .ok (.iconst 0, 1) := by decide +kernel
theorem dX1_together_18 : decode cX1_together 18 = .ok (.ireturn, 1) := by decide +kernel
set_option maxRecDepth 20000 in
theorem ggX1_isOfFirst_X1_least : GoodIn wsX1_isOfFirst wsX1_least := goodIn_r _ [4] (by decide +kernel) (by decide +kernel)
set_option maxRecDepth 20000 in
theorem gX1_isOfFirst_X1_least : GoodIn wsX1_isOfFirst (va_wsS RX1 42 yX1_least wsX1_least) := goodIn_app (goodIn_of _ (by decide +kernel)) ggX1_isOfFirst_X1_least
theorem dX1_isOfFirst_0 : decode cX1_isOfFirst 0 = .ok (.iload_n 0, 1) := by decide +kernel
theorem dX1_isOfFirst_1 : decode cX1_isOfFirst 1 = .ok (.istore_n 2, 1) := by decide +kernel
theorem dX1_isOfFirst_2 : decode cX1_isOfFirst 2 = .ok (.iload_n 2, 1) := by decide +kernel
theorem dX1_isOfFirst_3 : decode cX1_isOfFirst 3 = .ok (.iconst 4, 1) := by decide +kernel
theorem dX1_isOfFirst_4 : decode cX1_isOfFirst 4 = .ok (.if_icmp .ge 20, 3) := by decide +kernel
theorem dX1_isOfFirst_7 : decode cX1_isOfFirst 7 = .ok (.iload_n 1, 1) := by decide +kernel
theorem dX1_isOfFirst_8 : decode cX1_isOfFirst 8 = .ok (.iload_n 2, 1) := by decide +kernel
theorem dX1_isOfFirst_9 : decode cX1_isOfFirst 9 = .ok (.invokestatic 42, 3) := by decide +kernel
theorem dX1_isOfFirst_12 : decode cX1_isOfFirst 12 = .ok (.iload_n 2, 1) := by decide +kernel
theorem dX1_isOfFirst_13 : decode cX1_isOfFirst 13 = .ok (.if_icmp .eq 5, 3) := by decide +kernel
theorem dX1_isOfFirst_16 : decode cX1_isOfFirst 16 = .ok (.iconst 0, 1) := by decide +kernel
theorem dX1_isOfFirst_17 : decode cX1_isOfFirst 17 = .ok (.ireturn, 1) := by decide +kernel
theorem dX1_isOfFirst_18 : decode cX1_isOfFirst 18 = .ok (.iinc 2 1, 3) := by decide +kernel
theorem dX1_isOfFirst_21 : decode cX1_isOfFirst 21 = .ok (.goto (-19), 3) := by decide +kernel
theorem dX1_isOfFirst_24 : decode cX1_isOfFirst 24 = .ok (.iconst 1, 1) := by decide +kernel
theorem dX1_isOfFirst_25 : decode cX1_isOfFirst 25 = .ok (.ireturn, 1) := by decide +kernel
set_option maxRecDepth 20000 in
theorem ggX1_goesAlong_X1_least : GoodIn wsX1_goesAlong wsX1_least := goodIn_r _ [5] (by decide +kernel) (by decide +kernel)
set_option maxRecDepth 20000 in
theorem gX1_goesAlong_X1_least : GoodIn wsX1_goesAlong (va_wsS RX1 42 yX1_least wsX1_least) := goodIn_app (goodIn_of _ (by decide +kernel)) ggX1_goesAlong_X1_least
set_option maxRecDepth 20000 in
theorem ggX1_goesAlong_X6_one : GoodIn wsX1_goesAlong wsX6_one := goodIn_r _ [10, 11, 12, 13, 9, 14, 25, 26] (by decide +kernel) (by decide +kernel)
set_option maxRecDepth 20000 in
theorem gX1_goesAlong_X6_one : GoodIn wsX1_goesAlong (wsV RX1 57 RX6 yX6_one wsX6_one) := goodIn_app (goodIn_of _ (by decide +kernel)) ggX1_goesAlong_X6_one
set_option maxRecDepth 20000 in
theorem ggX1_goesAlong_X1_together : GoodIn wsX1_goesAlong wsX1_together := goodIn_r _ [17, 2, 3, 4, 5] (by decide +kernel) (by decide +kernel)
set_option maxRecDepth 20000 in
theorem gX1_goesAlong_X1_together : GoodIn wsX1_goesAlong (va_wsS RX1 46 yX1_together wsX1_together) := goodIn_app (goodIn_of _ (by decide +kernel)) ggX1_goesAlong_X1_together
set_option maxRecDepth 20000 in
theorem ggX1_goesAlong_X6_two : GoodIn wsX1_goesAlong wsX6_two := goodIn_r _ [21, 11, 22, 23, 9, 24, 25, 26] (by decide +kernel) (by decide +kernel)
set_option maxRecDepth 20000 in
theorem gX1_goesAlong_X6_two : GoodIn wsX1_goesAlong (wsV RX1 60 RX6 yX6_two wsX6_two) := goodIn_app (goodIn_of _ (by decide +kernel)) ggX1_goesAlong_X6_two
theorem dX1_goesAlong_0 : decode cX1_goesAlong 0 = .ok (.iconst 0, 1) := by decide +kernel
theorem dX1_goesAlong_1 : decode cX1_goesAlong 1 = .ok (.istore_n 2, 1) := by decide +kernel
theorem dX1_goesAlong_2 : decode cX1_goesAlong 2 = .ok (.iload_n 2, 1) := by decide +kernel
theorem dX1_goesAlong_3 : decode cX1_goesAlong 3 = .ok (.aload_n 0, 1) := by decide +kernel
theorem dX1_goesAlong_4 : decode cX1_goesAlong 4 = .ok (.getfield 16, 3) := by decide +kernel
theorem dX1_goesAlong_7 : decode cX1_goesAlong 7 = .ok (.if_icmp .ge 96, 3) := by decide +kernel
theorem dX1_goesAlong_10 : decode cX1_goesAlong 10 = .ok (.iload_n 1, 1) := by decide +kernel
theorem dX1_goesAlong_11 : decode cX1_goesAlong 11 = .ok (.iload_n 2, 1) := by decide +kernel
theorem dX1_goesAlong_12 : decode cX1_goesAlong 12 = .ok (.invokestatic 42, 3) := by decide +kernel
theorem dX1_goesAlong_15 : decode cX1_goesAlong 15 = .ok (.istore_n 3, 1) := by decide +kernel
theorem dX1_goesAlong_16 : decode cX1_goesAlong 16 = .ok (.iload_n 1, 1) := by decide +kernel
theorem dX1_goesAlong_17 : decode cX1_goesAlong 17 = .ok (.aload_n 0, 1) := by decide +kernel
theorem dX1_goesAlong_18 : decode cX1_goesAlong 18 = .ok (.iload_n 2, 1) := by decide +kernel
theorem dX1_goesAlong_19 : decode cX1_goesAlong 19 = .ok (.invokevirtual 57, 3) := by decide +kernel
theorem dX1_goesAlong_22 : decode cX1_goesAlong 22 = .ok (.aload_n 0, 1) := by decide +kernel
theorem dX1_goesAlong_23 : decode cX1_goesAlong 23 = .ok (.iload_n 3, 1) := by decide +kernel
theorem dX1_goesAlong_24 : decode cX1_goesAlong 24 = .ok (.invokevirtual 57, 3) := by decide +kernel
theorem dX1_goesAlong_27 : decode cX1_goesAlong 27 = .ok (.invokestatic 46, 3) := by decide +kernel
theorem dX1_goesAlong_30 : decode cX1_goesAlong 30 = .ok (.ifCond .ne 5, 3) := by decide +kernel
theorem dX1_goesAlong_33 : decode cX1_goesAlong 33 = .ok (.iconst 0, 1) := by decide +kernel
theorem dX1_goesAlong_34 : decode cX1_goesAlong 34 = .ok (.ireturn, 1) := by decide +kernel
theorem dX1_goesAlong_35 : decode cX1_goesAlong 35 = .ok (.iconst 0, 1) := by decide +kernel
theorem dX1_goesAlong_36 : decode cX1_goesAlong 36 = .ok (.istore 4, 2) := by decide +kernel
theorem dX1_goesAlong_38 : decode cX1_goesAlong 38 = .ok (.iload 4, 2) := by decide +kernel
theorem dX1_goesAlong_40 : decode cX1_goesAlong 40 = .ok (.aload_n 0, 1) := by decide +kernel
theorem dX1_goesAlong_41 : decode cX1_goesAlong 41 = .ok (.getfield 16, 3) := by decide +kernel
theorem dX1_goesAlong_44 : decode cX1_goesAlong 44 = .ok (.if_icmp .ge 53, 3) := by decide +kernel
theorem dX1_goesAlong_47 : decode cX1_goesAlong 47 = .ok (.iload_n 1, 1) := by decide +kernel
theorem dX1_goesAlong_48 : decode cX1_goesAlong 48 = .ok (.aload_n 0, 1) := by decide +kernel
theorem dX1_goesAlong_49 : decode cX1_goesAlong 49 = .ok (.iload_n 2, 1) := by decide +kernel
theorem dX1_goesAlong_50 : decode cX1_goesAlong 50 = .ok (.iload 4, 2) := by decide +kernel
theorem dX1_goesAlong_52 : decode cX1_goesAlong 52 = .ok (.invokevirtual 60, 3) := by decide +kernel
theorem dX1_goesAlong_55 : decode cX1_goesAlong 55 = .ok (.aload_n 0, 1) := by decide +kernel
theorem dX1_goesAlong_56 : decode cX1_goesAlong 56 = .ok (.iload_n 3, 1) := by decide +kernel
theorem dX1_goesAlong_57 : decode cX1_goesAlong 57 = .ok (.iload 4, 2) := by decide +kernel
theorem dX1_goesAlong_59 : decode cX1_goesAlong 59 = .ok (.invokevirtual 60, 3) := by decide +kernel
theorem dX1_goesAlong_62 : decode cX1_goesAlong 62 = .ok (.invokestatic 46, 3) := by decide +kernel
theorem dX1_goesAlong_65 : decode cX1_goesAlong 65 = .ok (.ifCond .eq 24, 3) := by decide +kernel
theorem dX1_goesAlong_68 : decode cX1_goesAlong 68 = .ok (.iload_n 1, 1) := by decide +kernel
theorem dX1_goesAlong_69 : decode cX1_goesAlong 69 = .ok (.aload_n 0, 1) := by decide +kernel
theorem dX1_goesAlong_70 : decode cX1_goesAlong 70 = .ok (.iload 4, 2) := by decide +kernel
theorem dX1_goesAlong_72 : decode cX1_goesAlong 72 = .ok (.iload_n 2, 1) := by decide +kernel
theorem dX1_goesAlong_73 : decode cX1_goesAlong 73 = .ok (.invokevirtual 60, 3) := by decide +kernel
theorem dX1_goesAlong_76 : decode cX1_goesAlong 76 = .ok (.aload_n 0, 1) := by decide +kernel
theorem dX1_goesAlong_77 : decode cX1_goesAlong 77 = .ok (.iload 4, 2) := by decide +kernel
theorem dX1_goesAlong_79 : decode cX1_goesAlong 79 = .ok (.iload_n 3, 1) := by decide +kernel
theorem dX1_goesAlong_80 : decode cX1_goesAlong 80 = .ok (.invokevirtual 60, 3) := by decide +kernel
theorem dX1_goesAlong_83 : decode cX1_goesAlong 83 = .ok (.invokestatic 46, 3) := by decide +kernel
theorem dX1_goesAlong_86 : decode cX1_goesAlong 86 = .ok (.ifCond .ne 5, 3) := by decide +kernel
theorem dX1_goesAlong_89 : decode cX1_goesAlong 89 = .ok (.iconst 0, 1) := by decide +kernel
theorem dX1_goesAlong_90 : decode cX1_goesAlong 90 = .ok (.ireturn, 1) := by decide +kernel
theorem dX1_goesAlong_91 : decode cX1_goesAlong 91 = .ok (.iinc 4 1, 3) := by decide +kernel
theorem dX1_goesAlong_94 : decode cX1_goesAlong 94 = .ok (.goto (-56), 3) := by decide +kernel
theorem dX1_goesAlong_97 : decode cX1_goesAlong 97 = .ok (.iinc 2 1, 3) := by decide +kernel
theorem dX1_goesAlong_100 : decode cX1_goesAlong 100 = .ok (.goto (-98), 3) := by decide +kernel
theorem dX1_goesAlong_103 : decode cX1_goesAlong 103 = .ok (.iconst 1, 1) := by decide +kernel
theorem dX1_goesAlong_104 : decode cX1_goesAlong 104 = .ok (.ireturn, 1) := by decide +kernel
theorem dX2_init_0 : decode cX2_init 0 = .ok (.aload_n 0, 1) := by decide +kernel
theorem dX2_init_1 : decode cX2_init 1 = .ok (.invokespecial 1, 3) := by decide +kernel
theorem dX2_init_4 : decode cX2_init 4 = .ok (.aload_n 0, 1) := by decide +kernel
theorem dX2_init_5 : decode cX2_init 5 = .ok (.bipush 12, 2) := by decide +kernel
theorem dX2_init_7 : decode cX2_init 7 = .ok (.newarray .int, 2) := by decide +kernel
theorem dX2_init_9 : decode cX2_init 9 = .ok (.putfield 9, 3) := by decide +kernel
theorem dX2_init_12 : decode cX2_init 12 = .ok (.aload_n 0, 1) := by decide +kernel
theorem dX2_init_13 : decode cX2_init 13 = .ok (.bipush 12, 2) := by decide +kernel
theorem dX2_init_15 : decode cX2_init 15 = .ok (.newarray .int, 2) := by decide +kernel
theorem dX2_init_17 : decode cX2_init 17 = .ok (.putfield 13, 3) := by decide +kernel
theorem dX2_init_20 : decode cX2_init 20 = .ok (.return_, 1) := by decide +kernel
theorem dX2_loseAll_0 : decode cX2_loseAll 0 = .ok (.aload_n 0, 1) := by decide +kernel
theorem dX2_loseAll_1 : decode cX2_loseAll 1 = .ok (.iconst 0, 1) := by decide +kernel
theorem dX2_loseAll_2 : decode cX2_loseAll 2 = .ok (.putfield 16, 3) := by decide +kernel
theorem dX2_loseAll_5 : decode cX2_loseAll 5 = .ok (.return_, 1) := by decide +kernel
set_option maxRecDepth 20000 in
theorem ggX2_note_X2_loseOldest : GoodIn wsX2_note wsX2_loseOldest := goodIn_r _ [8, 2, 9, 10, 11, 12, 3, 1, 13, 14, 15] (by decide +kernel) (by decide +kernel)
set_option maxRecDepth 20000 in
theorem gX2_note_X2_loseOldest : GoodIn wsX2_note (wsV RX2 20 RX2 yX2_loseOldest wsX2_loseOldest) := goodIn_app (goodIn_of _ (by decide +kernel)) ggX2_note_X2_loseOldest
theorem dX2_note_0 : decode cX2_note 0 = .ok (.aload_n 0, 1) := by decide +kernel
theorem dX2_note_1 : decode cX2_note 1 = .ok (.getfield 16, 3) := by decide +kernel
theorem dX2_note_4 : decode cX2_note 4 = .ok (.bipush 12, 2) := by decide +kernel
theorem dX2_note_6 : decode cX2_note 6 = .ok (.if_icmp .lt 7, 3) := by decide +kernel
theorem dX2_note_9 : decode cX2_note 9 = .ok (.aload_n 0, 1) := by decide +kernel
theorem dX2_note_10 : decode cX2_note 10 = .ok (.invokevirtual 20, 3) := by decide +kernel
theorem dX2_note_13 : decode cX2_note 13 = .ok (.aload_n 0, 1) := by decide +kernel
theorem dX2_note_14 : decode cX2_note 14 = .ok (.getfield 9, 3) := by decide +kernel
theorem dX2_note_17 : decode cX2_note 17 = .ok (.aload_n 0, 1) := by decide +kernel
theorem dX2_note_18 : decode cX2_note 18 = .ok (.getfield 16, 3) := by decide +kernel
theorem dX2_note_21 : decode cX2_note 21 = .ok (.iload_n 1, 1) := by decide +kernel
theorem dX2_note_22 : decode cX2_note 22 = .ok (.iastore, 1) := by decide +kernel
theorem dX2_note_23 : decode cX2_note 23 = .ok (.aload_n 0, 1) := by decide +kernel
theorem dX2_note_24 : decode cX2_note 24 = .ok (.getfield 13, 3) := by decide +kernel
theorem dX2_note_27 : decode cX2_note 27 = .ok (.aload_n 0, 1) := by decide +kernel
theorem dX2_note_28 : decode cX2_note 28 = .ok (.getfield 16, 3) := by decide +kernel
theorem dX2_note_31 : decode cX2_note 31 = .ok (.iload_n 2, 1) := by decide +kernel
theorem dX2_note_32 : decode cX2_note 32 = .ok (.iastore, 1) := by decide +kernel
theorem dX2_note_33 : decode cX2_note 33 = .ok (.aload_n 0, 1) := by decide +kernel
theorem dX2_note_34 : decode cX2_note 34 = .ok (.dup, 1) := by decide +kernel
theorem dX2_note_35 : decode cX2_note 35 = .ok (.getfield 16, 3) := by decide +kernel
theorem dX2_note_38 : decode cX2_note 38 = .ok (.iconst 1, 1) := by decide +kernel
theorem dX2_note_39 : decode cX2_note 39 = .ok (.iadd, 1) := by decide +kernel
theorem dX2_note_40 : decode cX2_note 40 = .ok (.putfield 16, 3) := by decide +kernel
theorem dX2_note_43 : decode cX2_note 43 = .ok (.return_, 1) := by decide +kernel
theorem dX2_loseOldest_0 : decode cX2_loseOldest 0 = .ok (.aload_n 0, 1) := by decide +kernel
theorem dX2_loseOldest_1 : decode cX2_loseOldest 1 = .ok (.getfield 9, 3) := by decide +kernel
theorem dX2_loseOldest_4 : decode cX2_loseOldest 4 = .ok (.iconst 1, 1) := by decide +kernel
theorem dX2_loseOldest_5 : decode cX2_loseOldest 5 = .ok (.aload_n 0, 1) := by decide +kernel
theorem dX2_loseOldest_6 : decode cX2_loseOldest 6 = .ok (.getfield 9, 3) := by decide +kernel
theorem dX2_loseOldest_9 : decode cX2_loseOldest 9 = .ok (.iconst 0, 1) := by decide +kernel
theorem dX2_loseOldest_10 : decode cX2_loseOldest 10 = .ok (.bipush 11, 2) := by decide +kernel
theorem dX2_loseOldest_12 : decode cX2_loseOldest 12 = .ok (.invokestatic 23, 3) := by decide +kernel
theorem dX2_loseOldest_15 : decode cX2_loseOldest 15 = .ok (.aload_n 0, 1) := by decide +kernel
theorem dX2_loseOldest_16 : decode cX2_loseOldest 16 = .ok (.getfield 13, 3) := by decide +kernel
theorem dX2_loseOldest_19 : decode cX2_loseOldest 19 = .ok (.iconst 1, 1) := by decide +kernel
theorem dX2_loseOldest_20 : decode cX2_loseOldest 20 = .ok (.aload_n 0, 1) := by decide +kernel
theorem dX2_loseOldest_21 : decode cX2_loseOldest 21 = .ok (.getfield 13, 3) := by decide +kernel
theorem dX2_loseOldest_24 : decode cX2_loseOldest 24 = .ok (.iconst 0, 1) := by decide +kernel
theorem dX2_loseOldest_25 : decode cX2_loseOldest 25 = .ok (.bipush 11, 2) := by decide +kernel
theorem dX2_loseOldest_27 : decode cX2_loseOldest 27 = .ok (.invokestatic 23, 3) := by decide +kernel
theorem dX2_loseOldest_30 : decode cX2_loseOldest 30 = .ok (.aload_n 0, 1) := by decide +kernel
theorem dX2_loseOldest_31 : decode cX2_loseOldest 31 = .ok (.bipush 11, 2) := by decide +kernel
theorem dX2_loseOldest_33 : decode cX2_loseOldest 33 = .ok (.putfield 16, 3) := by decide +kernel
theorem dX2_loseOldest_36 : decode cX2_loseOldest 36 = .ok (.return_, 1) := by decide +kernel
set_option maxRecDepth 20000 in
theorem ggX2_takeBackIn_X6_put : GoodIn wsX2_takeBackIn wsX6_put := goodIn_r _ [8, 9, 13, 14] (by decide +kernel) (by decide +kernel)
set_option maxRecDepth 20000 in
theorem gX2_takeBackIn_X6_put : GoodIn wsX2_takeBackIn (wsV RX2 29 RX6 yX6_put wsX6_put) := goodIn_app (goodIn_of _ (by decide +kernel)) ggX2_takeBackIn_X6_put
theorem dX2_takeBackIn_0 : decode cX2_takeBackIn 0 = .ok (.aload_n 0, 1) := by decide +kernel
theorem dX2_takeBackIn_1 : decode cX2_takeBackIn 1 = .ok (.getfield 16, 3) := by decide +kernel
theorem dX2_takeBackIn_4 : decode cX2_takeBackIn 4 = .ok (.ifCond .le 35, 3) := by decide +kernel
theorem dX2_takeBackIn_7 : decode cX2_takeBackIn 7 = .ok (.aload_n 0, 1) := by decide +kernel
theorem dX2_takeBackIn_8 : decode cX2_takeBackIn 8 = .ok (.dup, 1) := by decide +kernel
theorem dX2_takeBackIn_9 : decode cX2_takeBackIn 9 = .ok (.getfield 16, 3) := by decide +kernel
theorem dX2_takeBackIn_12 : decode cX2_takeBackIn 12 = .ok (.iconst 1, 1) := by decide +kernel
theorem dX2_takeBackIn_13 : decode cX2_takeBackIn 13 = .ok (.isub, 1) := by decide +kernel
theorem dX2_takeBackIn_14 : decode cX2_takeBackIn 14 = .ok (.putfield 16, 3) := by decide +kernel
theorem dX2_takeBackIn_17 : decode cX2_takeBackIn 17 = .ok (.aload_n 1, 1) := by decide +kernel
theorem dX2_takeBackIn_18 : decode cX2_takeBackIn 18 = .ok (.aload_n 0, 1) := by decide +kernel
theorem dX2_takeBackIn_19 : decode cX2_takeBackIn 19 = .ok (.getfield 9, 3) := by decide +kernel
theorem dX2_takeBackIn_22 : decode cX2_takeBackIn 22 = .ok (.aload_n 0, 1) := by decide +kernel
theorem dX2_takeBackIn_23 : decode cX2_takeBackIn 23 = .ok (.getfield 16, 3) := by decide +kernel
theorem dX2_takeBackIn_26 : decode cX2_takeBackIn 26 = .ok (.iaload, 1) := by decide +kernel
theorem dX2_takeBackIn_27 : decode cX2_takeBackIn 27 = .ok (.aload_n 0, 1) := by decide +kernel
theorem dX2_takeBackIn_28 : decode cX2_takeBackIn 28 = .ok (.getfield 13, 3) := by decide +kernel
theorem dX2_takeBackIn_31 : decode cX2_takeBackIn 31 = .ok (.aload_n 0, 1) := by decide +kernel
theorem dX2_takeBackIn_32 : decode cX2_takeBackIn 32 = .ok (.getfield 16, 3) := by decide +kernel
theorem dX2_takeBackIn_35 : decode cX2_takeBackIn 35 = .ok (.iaload, 1) := by decide +kernel
theorem dX2_takeBackIn_36 : decode cX2_takeBackIn 36 = .ok (.invokevirtual 29, 3) := by decide +kernel
theorem dX2_takeBackIn_39 : decode cX2_takeBackIn 39 = .ok (.return_, 1) := by decide +kernel
theorem dX3_isThere_0 : decode cX3_isThere 0 = .ok (.iload_n 0, 1) := by decide +kernel
theorem dX3_isThere_1 : decode cX3_isThere 1 = .ok (.ifCond .lt 13, 3) := by decide +kernel
theorem dX3_isThere_4 : decode cX3_isThere 4 = .ok (.iload_n 0, 1) := by decide +kernel
theorem dX3_isThere_5 : decode cX3_isThere 5 = .ok (.bipush 7, 2) := by decide +kernel
theorem dX3_isThere_7 : decode cX3_isThere 7 = .ok (.if_icmp .ge 7, 3) := by decide +kernel
theorem dX3_isThere_10 : decode cX3_isThere 10 = .ok (.iconst 1, 1) := by decide +kernel
theorem dX3_isThere_11 : decode cX3_isThere 11 = .ok (.goto 4, 3) := by decide +kernel
theorem dX3_isThere_14 : decode cX3_isThere 14 = .ok (.iconst 0, 1) := by decide +kernel
theorem dX3_isThere_15 : decode cX3_isThere 15 = .ok (.ireturn, 1) := by decide +kernel
set_option maxRecDepth 20000 in
theorem ggX3_holds_X3_firstAgainst : GoodIn wsX3_holds wsX3_firstAgainst := goodIn_r _ [4, 5, 6, 7, 3, 8, 9, 10, 11, 12, 13, 14, 15, 16, 17, 18, 19, 20, 21, 22, 23, 24, 25, 26] (by decide +kernel) (by decide +kernel)
set_option maxRecDepth 20000 in
theorem gX3_holds_X3_firstAgainst : GoodIn wsX3_holds (va_wsS RX3 11 yX3_firstAgainst wsX3_firstAgainst) := goodIn_app (goodIn_of _ (by decide +kernel)) ggX3_holds_X3_firstAgainst
theorem dX3_holds_0 : decode cX3_holds 0 = .ok (.aload_n 0, 1) := by decide +kernel
theorem dX3_holds_1 : decode cX3_holds 1 = .ok (.iload_n 1, 1) := by decide +kernel
theorem dX3_holds_2 : decode cX3_holds 2 = .ok (.invokestatic 11, 3) := by decide +kernel
theorem dX3_holds_5 : decode cX3_holds 5 = .ok (.bipush (-9), 2) := by decide +kernel
theorem dX3_holds_7 : decode cX3_holds 7 = .ok (.if_icmp .ne 7, 3) := by decide +kernel
theorem dX3_holds_10 : decode cX3_holds 10 = .ok (.iconst 1, 1) := by decide +kernel
theorem dX3_holds_11 : decode cX3_holds 11 = .ok (.goto 4, 3) := by decide +kernel
theorem dX3_holds_14 : decode cX3_holds 14 = .ok (.iconst 0, 1) := by decide +kernel
theorem dX3_holds_15 : decode cX3_holds 15 = .ok (.ireturn, 1) := by decide +kernel
set_option maxRecDepth 20000 in
theorem ggX3_firstAgainst_X3_isSo : GoodIn wsX3_firstAgainst wsX3_isSo := goodIn_r _ [5, 6, 7, 8, 9, 10, 11, 12, 13, 14, 15, 16, 17, 18, 19, 20, 21, 22, 23] (by decide +kernel) (by decide +kernel)
set_option maxRecDepth 20000 in
theorem gX3_firstAgainst_X3_isSo : GoodIn wsX3_firstAgainst (va_wsS RX3 21 yX3_isSo wsX3_isSo) := goodIn_app (goodIn_of _ (by decide +kernel)) ggX3_firstAgainst_X3_isSo
theorem dX3_firstAgainst_0 : decode cX3_firstAgainst 0 = .ok (.iload_n 1, 1) := by decide +kernel
theorem dX3_firstAgainst_1 : decode cX3_firstAgainst 1 = .ok (.ifCond .eq 8, 3) := by decide +kernel
theorem dX3_firstAgainst_4 : decode cX3_firstAgainst 4 = .ok (.iload_n 1, 1) := by decide +kernel
theorem dX3_firstAgainst_5 : decode cX3_firstAgainst 5 = .ok (.iconst 3, 1) := by decide +kernel
theorem dX3_firstAgainst_6 : decode cX3_firstAgainst 6 = .ok (.if_icmp .ne 7, 3) := by decide +kernel
theorem dX3_firstAgainst_9 : decode cX3_firstAgainst 9 = .ok (.iconst 1, 1) := by decide +kernel
theorem dX3_firstAgainst_10 : decode cX3_firstAgainst 10 = .ok (.goto 7, 3) := by decide +kernel
theorem dX3_firstAgainst_13 : decode cX3_firstAgainst 13 = .ok (.aload_n 0, 1) := by decide +kernel
theorem dX3_firstAgainst_14 : decode cX3_firstAgainst 14 = .ok (.getfield 15, 3) := by decide +kernel
theorem dX3_firstAgainst_17 : decode cX3_firstAgainst 17 = .ok (.istore_n 2, 1) := by decide +kernel
theorem dX3_firstAgainst_18 : decode cX3_firstAgainst 18 = .ok (.iload_n 1, 1) := by decide +kernel
theorem dX3_firstAgainst_19 : decode cX3_firstAgainst 19 = .ok (.iconst 2, 1) := by decide +kernel
theorem dX3_firstAgainst_20 : decode cX3_firstAgainst 20 = .ok (.if_icmp .ne 10, 3) := by decide +kernel
theorem dX3_firstAgainst_23 : decode cX3_firstAgainst 23 = .ok (.aload_n 0, 1) := by decide +kernel
theorem dX3_firstAgainst_24 : decode cX3_firstAgainst 24 = .ok (.getfield 15, 3) := by decide +kernel
theorem dX3_firstAgainst_27 : decode cX3_firstAgainst 27 = .ok (.goto 4, 3) := by decide +kernel
theorem dX3_firstAgainst_30 : decode cX3_firstAgainst 30 = .ok (.iconst 1, 1) := by decide +kernel
theorem dX3_firstAgainst_31 : decode cX3_firstAgainst 31 = .ok (.istore_n 3, 1) := by decide +kernel
theorem dX3_firstAgainst_32 : decode cX3_firstAgainst 32 = .ok (.iconst 0, 1) := by decide +kernel
theorem dX3_firstAgainst_33 : decode cX3_firstAgainst 33 = .ok (.istore 4, 2) := by decide +kernel
theorem dX3_firstAgainst_35 : decode cX3_firstAgainst 35 = .ok (.iload 4, 2) := by decide +kernel
theorem dX3_firstAgainst_37 : decode cX3_firstAgainst 37 = .ok (.aload_n 0, 1) := by decide +kernel
theorem dX3_firstAgainst_38 : decode cX3_firstAgainst 38 = .ok (.getfield 15, 3) := by decide +kernel
theorem dX3_firstAgainst_41 : decode cX3_firstAgainst 41 = .ok (.if_icmp .ge 68, 3) := by decide +kernel
theorem dX3_firstAgainst_44 : decode cX3_firstAgainst 44 = .ok (.iconst 0, 1) := by decide +kernel
theorem dX3_firstAgainst_45 : decode cX3_firstAgainst 45 = .ok (.istore 5, 2) := by decide +kernel
theorem dX3_firstAgainst_47 : decode cX3_firstAgainst 47 = .ok (.iload 5, 2) := by decide +kernel
theorem dX3_firstAgainst_49 : decode cX3_firstAgainst 49 = .ok (.iload_n 2, 1) := by decide +kernel
theorem dX3_firstAgainst_50 : decode cX3_firstAgainst 50 = .ok (.if_icmp .ge 53, 3) := by decide +kernel
theorem dX3_firstAgainst_53 : decode cX3_firstAgainst 53 = .ok (.iconst 0, 1) := by decide +kernel
theorem dX3_firstAgainst_54 : decode cX3_firstAgainst 54 = .ok (.istore 6, 2) := by decide +kernel
theorem dX3_firstAgainst_56 : decode cX3_firstAgainst 56 = .ok (.iload 6, 2) := by decide +kernel
theorem dX3_firstAgainst_58 : decode cX3_firstAgainst 58 = .ok (.iload_n 3, 1) := by decide +kernel
theorem dX3_firstAgainst_59 : decode cX3_firstAgainst 59 = .ok (.if_icmp .ge 38, 3) := by decide +kernel
theorem dX3_firstAgainst_62 : decode cX3_firstAgainst 62 = .ok (.aload_n 0, 1) := by decide +kernel
theorem dX3_firstAgainst_63 : decode cX3_firstAgainst 63 = .ok (.iload_n 1, 1) := by decide +kernel
theorem dX3_firstAgainst_64 : decode cX3_firstAgainst 64 = .ok (.iload 4, 2) := by decide +kernel
theorem dX3_firstAgainst_66 : decode cX3_firstAgainst 66 = .ok (.iload 5, 2) := by decide +kernel
theorem dX3_firstAgainst_68 : decode cX3_firstAgainst 68 = .ok (.iload 6, 2) := by decide +kernel
theorem dX3_firstAgainst_70 : decode cX3_firstAgainst 70 = .ok (.invokestatic 21, 3) := by decide +kernel
theorem dX3_firstAgainst_73 : decode cX3_firstAgainst 73 = .ok (.ifCond .ne 18, 3) := by decide +kernel
theorem dX3_firstAgainst_76 : decode cX3_firstAgainst 76 = .ok (.bipush 100, 2) := by decide +kernel
theorem dX3_firstAgainst_78 : decode cX3_firstAgainst 78 = .ok (.iload 4, 2) := by decide +kernel
theorem dX3_firstAgainst_80 : decode cX3_firstAgainst 80 = .ok (.imul, 1) := by decide +kernel
theorem dX3_firstAgainst_81 : decode cX3_firstAgainst 81 = .ok (.bipush 10, 2) := by decide +kernel
theorem dX3_firstAgainst_83 : decode cX3_firstAgainst 83 = .ok (.iload 5, 2) := by decide +kernel
theorem dX3_firstAgainst_85 : decode cX3_firstAgainst 85 = .ok (.imul, 1) := by decide +kernel
theorem dX3_firstAgainst_86 : decode cX3_firstAgainst 86 = .ok (.iadd, 1) := by decide +kernel
theorem dX3_firstAgainst_87 : decode cX3_firstAgainst 87 = .ok (.iload 6, 2) := by decide +kernel
theorem dX3_firstAgainst_89 : decode cX3_firstAgainst 89 = .ok (.iadd, 1) := by decide +kernel
theorem dX3_firstAgainst_90 : decode cX3_firstAgainst 90 = .ok (.ireturn, 1) := by decide +kernel
theorem dX3_firstAgainst_91 : decode cX3_firstAgainst 91 = .ok (.iinc 6 1, 3) := by decide +kernel
theorem dX3_firstAgainst_94 : decode cX3_firstAgainst 94 = .ok (.goto (-38), 3) := by decide +kernel
theorem dX3_firstAgainst_97 : decode cX3_firstAgainst 97 = .ok (.iinc 5 1, 3) := by decide +kernel
theorem dX3_firstAgainst_100 : decode cX3_firstAgainst 100 = .ok (.goto (-53), 3) := by decide +kernel
theorem dX3_firstAgainst_103 : decode cX3_firstAgainst 103 = .ok (.iinc 4 1, 3) := by decide +kernel
theorem dX3_firstAgainst_106 : decode cX3_firstAgainst 106 = .ok (.goto (-71), 3) := by decide +kernel
theorem dX3_firstAgainst_109 : decode cX3_firstAgainst 109 = .ok (.bipush (-9), 2) := by decide +kernel
theorem dX3_firstAgainst_111 : decode cX3_firstAgainst 111 = .ok (.ireturn, 1) := by decide +kernel
set_option maxRecDepth 20000 in
theorem ggX3_isSo_X6_two : GoodIn wsX3_isSo wsX6_two := goodIn_r _ [5, 6, 7, 8, 4, 9, 17, 18] (by decide +kernel) (by decide +kernel)
set_option maxRecDepth 20000 in
theorem gX3_isSo_X6_two : GoodIn wsX3_isSo (wsV RX3 25 RX6 yX6_two wsX6_two) := goodIn_app (goodIn_of _ (by decide +kernel)) ggX3_isSo_X6_two
set_option maxRecDepth 20000 in
theorem ggX3_isSo_X6_one : GoodIn wsX3_isSo wsX6_one := goodIn_r _ [13, 6, 14, 15, 4, 16, 17, 18] (by decide +kernel) (by decide +kernel)
set_option maxRecDepth 20000 in
theorem gX3_isSo_X6_one : GoodIn wsX3_isSo (wsV RX3 29 RX6 yX6_one wsX6_one) := goodIn_app (goodIn_of _ (by decide +kernel)) ggX3_isSo_X6_one
theorem dX3_isSo_0 : decode cX3_isSo 0 = .ok (.iload_n 1, 1) := by decide +kernel
theorem dX3_isSo_1 : decode cX3_isSo 1 = .ok (.tableswitch 187 0 5 #[39, 55, 76, 109, 128, 161], 39) := by decide +kernel
theorem dX3_isSo_40 : decode cX3_isSo 40 = .ok (.aload_n 0, 1) := by decide +kernel
theorem dX3_isSo_41 : decode cX3_isSo 41 = .ok (.iload_n 2, 1) := by decide +kernel
theorem dX3_isSo_42 : decode cX3_isSo 42 = .ok (.iload_n 2, 1) := by decide +kernel
theorem dX3_isSo_43 : decode cX3_isSo 43 = .ok (.invokevirtual 25, 3) := by decide +kernel
theorem dX3_isSo_46 : decode cX3_isSo 46 = .ok (.iload_n 2, 1) := by decide +kernel
theorem dX3_isSo_47 : decode cX3_isSo 47 = .ok (.if_icmp .ne 7, 3) := by decide +kernel
theorem dX3_isSo_50 : decode cX3_isSo 50 = .ok (.iconst 1, 1) := by decide +kernel
theorem dX3_isSo_51 : decode cX3_isSo 51 = .ok (.goto 4, 3) := by decide +kernel
theorem dX3_isSo_54 : decode cX3_isSo 54 = .ok (.iconst 0, 1) := by decide +kernel
theorem dX3_isSo_55 : decode cX3_isSo 55 = .ok (.ireturn, 1) := by decide +kernel
theorem dX3_isSo_56 : decode cX3_isSo 56 = .ok (.aload_n 0, 1) := by decide +kernel
theorem dX3_isSo_57 : decode cX3_isSo 57 = .ok (.iload_n 2, 1) := by decide +kernel
theorem dX3_isSo_58 : decode cX3_isSo 58 = .ok (.iload_n 3, 1) := by decide +kernel
theorem dX3_isSo_59 : decode cX3_isSo 59 = .ok (.invokevirtual 25, 3) := by decide +kernel
theorem dX3_isSo_62 : decode cX3_isSo 62 = .ok (.aload_n 0, 1) := by decide +kernel
theorem dX3_isSo_63 : decode cX3_isSo 63 = .ok (.iload_n 3, 1) := by decide +kernel
theorem dX3_isSo_64 : decode cX3_isSo 64 = .ok (.iload_n 2, 1) := by decide +kernel
theorem dX3_isSo_65 : decode cX3_isSo 65 = .ok (.invokevirtual 25, 3) := by decide +kernel
theorem dX3_isSo_68 : decode cX3_isSo 68 = .ok (.if_icmp .ne 7, 3) := by decide +kernel
theorem dX3_isSo_71 : decode cX3_isSo 71 = .ok (.iconst 1, 1) := by decide +kernel
theorem dX3_isSo_72 : decode cX3_isSo 72 = .ok (.goto 4, 3) := by decide +kernel
theorem dX3_isSo_75 : decode cX3_isSo 75 = .ok (.iconst 0, 1) := by decide +kernel
theorem dX3_isSo_76 : decode cX3_isSo 76 = .ok (.ireturn, 1) := by decide +kernel
theorem dX3_isSo_77 : decode cX3_isSo 77 = .ok (.aload_n 0, 1) := by decide +kernel
theorem dX3_isSo_78 : decode cX3_isSo 78 = .ok (.aload_n 0, 1) := by decide +kernel
theorem dX3_isSo_79 : decode cX3_isSo 79 = .ok (.iload_n 2, 1) := by decide +kernel
theorem dX3_isSo_80 : decode cX3_isSo 80 = .ok (.iload_n 3, 1) := by decide +kernel
theorem dX3_isSo_81 : decode cX3_isSo 81 = .ok (.invokevirtual 25, 3) := by decide +kernel
theorem dX3_isSo_84 : decode cX3_isSo 84 = .ok (.iload 4, 2) := by decide +kernel
theorem dX3_isSo_86 : decode cX3_isSo 86 = .ok (.invokevirtual 25, 3) := by decide +kernel
theorem dX3_isSo_89 : decode cX3_isSo 89 = .ok (.aload_n 0, 1) := by decide +kernel
theorem dX3_isSo_90 : decode cX3_isSo 90 = .ok (.iload_n 2, 1) := by decide +kernel
theorem dX3_isSo_91 : decode cX3_isSo 91 = .ok (.aload_n 0, 1) := by decide +kernel
theorem dX3_isSo_92 : decode cX3_isSo 92 = .ok (.iload_n 3, 1) := by decide +kernel
theorem dX3_isSo_93 : decode cX3_isSo 93 = .ok (.iload 4, 2) := by decide +kernel
theorem dX3_isSo_95 : decode cX3_isSo 95 = .ok (.invokevirtual 25, 3) := by decide +kernel
theorem dX3_isSo_98 : decode cX3_isSo 98 = .ok (.invokevirtual 25, 3) := by decide +kernel
theorem dX3_isSo_101 : decode cX3_isSo 101 = .ok (.if_icmp .ne 7, 3) := by decide +kernel
theorem dX3_isSo_104 : decode cX3_isSo 104 = .ok (.iconst 1, 1) := by decide +kernel
theorem dX3_isSo_105 : decode cX3_isSo 105 = .ok (.goto 4, 3) := by decide +kernel
theorem dX3_isSo_108 : decode cX3_isSo 108 = .ok (.iconst 0, 1) := by decide +kernel
theorem dX3_isSo_109 : decode cX3_isSo 109 = .ok (.ireturn, 1) := by decide +kernel
theorem dX3_isSo_110 : decode cX3_isSo 110 = .ok (.aload_n 0, 1) := by decide +kernel
theorem dX3_isSo_111 : decode cX3_isSo 111 = .ok (.aload_n 0, 1) := by decide +kernel
theorem dX3_isSo_112 : decode cX3_isSo 112 = .ok (.iload_n 2, 1) := by decide +kernel
theorem dX3_isSo_113 : decode cX3_isSo 113 = .ok (.invokevirtual 29, 3) := by decide +kernel
theorem dX3_isSo_116 : decode cX3_isSo 116 = .ok (.invokevirtual 29, 3) := by decide +kernel
theorem dX3_isSo_119 : decode cX3_isSo 119 = .ok (.iload_n 2, 1) := by decide +kernel
theorem dX3_isSo_120 : decode cX3_isSo 120 = .ok (.if_icmp .ne 7, 3) := by decide +kernel
theorem dX3_isSo_123 : decode cX3_isSo 123 = .ok (.iconst 1, 1) := by decide +kernel
theorem dX3_isSo_124 : decode cX3_isSo 124 = .ok (.goto 4, 3) := by decide +kernel
theorem dX3_isSo_127 : decode cX3_isSo 127 = .ok (.iconst 0, 1) := by decide +kernel
theorem dX3_isSo_128 : decode cX3_isSo 128 = .ok (.ireturn, 1) := by decide +kernel
theorem dX3_isSo_129 : decode cX3_isSo 129 = .ok (.aload_n 0, 1) := by decide +kernel
theorem dX3_isSo_130 : decode cX3_isSo 130 = .ok (.aload_n 0, 1) := by decide +kernel
theorem dX3_isSo_131 : decode cX3_isSo 131 = .ok (.iload_n 2, 1) := by decide +kernel
theorem dX3_isSo_132 : decode cX3_isSo 132 = .ok (.iload_n 3, 1) := by decide +kernel
theorem dX3_isSo_133 : decode cX3_isSo 133 = .ok (.invokevirtual 25, 3) := by decide +kernel
theorem dX3_isSo_136 : decode cX3_isSo 136 = .ok (.invokevirtual 29, 3) := by decide +kernel
theorem dX3_isSo_139 : decode cX3_isSo 139 = .ok (.aload_n 0, 1) := by decide +kernel
theorem dX3_isSo_140 : decode cX3_isSo 140 = .ok (.aload_n 0, 1) := by decide +kernel
theorem dX3_isSo_141 : decode cX3_isSo 141 = .ok (.iload_n 3, 1) := by decide +kernel
theorem dX3_isSo_142 : decode cX3_isSo 142 = .ok (.invokevirtual 29, 3) := by decide +kernel
theorem dX3_isSo_145 : decode cX3_isSo 145 = .ok (.aload_n 0, 1) := by decide +kernel
theorem dX3_isSo_146 : decode cX3_isSo 146 = .ok (.iload_n 2, 1) := by decide +kernel
theorem dX3_isSo_147 : decode cX3_isSo 147 = .ok (.invokevirtual 29, 3) := by decide +kernel
theorem dX3_isSo_150 : decode cX3_isSo 150 = .ok (.invokevirtual 25, 3) := by decide +kernel
theorem dX3_isSo_153 : decode cX3_isSo 153 = .ok (.if_icmp .ne 7, 3) := by decide +kernel
theorem dX3_isSo_156 : decode cX3_isSo 156 = .ok (.iconst 1, 1) := by decide +kernel
theorem dX3_isSo_157 : decode cX3_isSo 157 = .ok (.goto 4, 3) := by decide +kernel
theorem dX3_isSo_160 : decode cX3_isSo 160 = .ok (.iconst 0, 1) := by decide +kernel
theorem dX3_isSo_161 : decode cX3_isSo 161 = .ok (.ireturn, 1) := by decide +kernel
theorem dX3_isSo_162 : decode cX3_isSo 162 = .ok (.aload_n 0, 1) := by decide +kernel
theorem dX3_isSo_163 : decode cX3_isSo 163 = .ok (.iload_n 2, 1) := by decide +kernel
theorem dX3_isSo_164 : decode cX3_isSo 164 = .ok (.aload_n 0, 1) := by decide +kernel
theorem dX3_isSo_165 : decode cX3_isSo 165 = .ok (.iload_n 2, 1) := by decide +kernel
theorem dX3_isSo_166 : decode cX3_isSo 166 = .ok (.iload_n 3, 1) := by decide +kernel
theorem dX3_isSo_167 : decode cX3_isSo 167 = .ok (.invokevirtual 25, 3) := by decide +kernel
theorem dX3_isSo_170 : decode cX3_isSo 170 = .ok (.invokevirtual 25, 3) := by decide +kernel
theorem dX3_isSo_173 : decode cX3_isSo 173 = .ok (.aload_n 0, 1) := by decide +kernel
theorem dX3_isSo_174 : decode cX3_isSo 174 = .ok (.iload_n 2, 1) := by decide +kernel
theorem dX3_isSo_175 : decode cX3_isSo 175 = .ok (.iload_n 3, 1) := by decide +kernel
theorem dX3_isSo_176 : decode cX3_isSo 176 = .ok (.invokevirtual 25, 3) := by decide +kernel
theorem dX3_isSo_179 : decode cX3_isSo 179 = .ok (.if_icmp .ne 7, 3) := by decide +kernel
theorem dX3_isSo_182 : decode cX3_isSo 182 = .ok (.iconst 1, 1) := by decide +kernel
theorem dX3_isSo_183 : decode cX3_isSo 183 = .ok (.goto 4, 3) := by decide +kernel
theorem dX3_isSo_186 : decode cX3_isSo 186 = .ok (.iconst 0, 1) := by decide +kernel
theorem dX3_isSo_187 : decode cX3_isSo 187 = .ok (.ireturn, 1) := by decide +kernel
theorem dX3_isSo_188 : decode cX3_isSo 188 = .ok (.aload_n 0, 1) := by decide +kernel
theorem dX3_isSo_189 : decode cX3_isSo 189 = .ok (.iload_n 2, 1) := by decide +kernel
theorem dX3_isSo_190 : decode cX3_isSo 190 = .ok (.aload_n 0, 1) := by decide +kernel
theorem dX3_isSo_191 : decode cX3_isSo 191 = .ok (.iload_n 2, 1) := by decide +kernel
theorem dX3_isSo_192 : decode cX3_isSo 192 = .ok (.invokevirtual 29, 3) := by decide +kernel
theorem dX3_isSo_195 : decode cX3_isSo 195 = .ok (.invokevirtual 25, 3) := by decide +kernel
theorem dX3_isSo_198 : decode cX3_isSo 198 = .ok (.aload_n 0, 1) := by decide +kernel
theorem dX3_isSo_199 : decode cX3_isSo 199 = .ok (.iload_n 3, 1) := by decide +kernel
theorem dX3_isSo_200 : decode cX3_isSo 200 = .ok (.aload_n 0, 1) := by decide +kernel
theorem dX3_isSo_201 : decode cX3_isSo 201 = .ok (.iload_n 3, 1) := by decide +kernel
theorem dX3_isSo_202 : decode cX3_isSo 202 = .ok (.invokevirtual 29, 3) := by decide +kernel
theorem dX3_isSo_205 : decode cX3_isSo 205 = .ok (.invokevirtual 25, 3) := by decide +kernel
theorem dX3_isSo_208 : decode cX3_isSo 208 = .ok (.if_icmp .ne 7, 3) := by decide +kernel
theorem dX3_isSo_211 : decode cX3_isSo 211 = .ok (.iconst 1, 1) := by decide +kernel
theorem dX3_isSo_212 : decode cX3_isSo 212 = .ok (.goto 4, 3) := by decide +kernel
theorem dX3_isSo_215 : decode cX3_isSo 215 = .ok (.iconst 0, 1) := by decide +kernel
theorem dX3_isSo_216 : decode cX3_isSo 216 = .ok (.ireturn, 1) := by decide +kernel
set_option maxRecDepth 20000 in
theorem ggX3_thatHold_X3_holds : GoodIn wsX3_thatHold wsX3_holds := goodIn_r _ [4, 5, 6, 3, 7, 8, 9, 10, 11, 12, 13, 14, 15, 16, 17, 18, 19, 20, 21, 22, 23, 24, 25, 26, 27, 28, 29] (by decide +kernel) (by decide +kernel)
set_option maxRecDepth 20000 in
theorem gX3_thatHold_X3_holds : GoodIn wsX3_thatHold (va_wsS RX3 33 yX3_holds wsX3_holds) := goodIn_app (goodIn_of _ (by decide +kernel)) ggX3_thatHold_X3_holds
theorem dX3_thatHold_0 : decode cX3_thatHold 0 = .ok (.iconst 0, 1) := by decide +kernel
theorem dX3_thatHold_1 : decode cX3_thatHold 1 = .ok (.istore_n 1, 1) := by decide +kernel
theorem dX3_thatHold_2 : decode cX3_thatHold 2 = .ok (.iconst 0, 1) := by decide +kernel
theorem dX3_thatHold_3 : decode cX3_thatHold 3 = .ok (.istore_n 2, 1) := by decide +kernel
theorem dX3_thatHold_4 : decode cX3_thatHold 4 = .ok (.iload_n 2, 1) := by decide +kernel
theorem dX3_thatHold_5 : decode cX3_thatHold 5 = .ok (.bipush 7, 2) := by decide +kernel
theorem dX3_thatHold_7 : decode cX3_thatHold 7 = .ok (.if_icmp .ge 23, 3) := by decide +kernel
theorem dX3_thatHold_10 : decode cX3_thatHold 10 = .ok (.aload_n 0, 1) := by decide +kernel
theorem dX3_thatHold_11 : decode cX3_thatHold 11 = .ok (.iload_n 2, 1) := by decide +kernel
theorem dX3_thatHold_12 : decode cX3_thatHold 12 = .ok (.invokestatic 33, 3) := by decide +kernel
theorem dX3_thatHold_15 : decode cX3_thatHold 15 = .ok (.ifCond .eq 9, 3) := by decide +kernel
theorem dX3_thatHold_18 : decode cX3_thatHold 18 = .ok (.iload_n 1, 1) := by decide +kernel
theorem dX3_thatHold_19 : decode cX3_thatHold 19 = .ok (.iconst 1, 1) := by decide +kernel
theorem dX3_thatHold_20 : decode cX3_thatHold 20 = .ok (.iload_n 2, 1) := by decide +kernel
theorem dX3_thatHold_21 : decode cX3_thatHold 21 = .ok (.ishl, 1) := by decide +kernel
theorem dX3_thatHold_22 : decode cX3_thatHold 22 = .ok (.ior, 1) := by decide +kernel
theorem dX3_thatHold_23 : decode cX3_thatHold 23 = .ok (.istore_n 1, 1) := by decide +kernel
theorem dX3_thatHold_24 : decode cX3_thatHold 24 = .ok (.iinc 2 1, 3) := by decide +kernel
theorem dX3_thatHold_27 : decode cX3_thatHold 27 = .ok (.goto (-23), 3) := by decide +kernel
theorem dX3_thatHold_30 : decode cX3_thatHold 30 = .ok (.iload_n 1, 1) := by decide +kernel
theorem dX3_thatHold_31 : decode cX3_thatHold 31 = .ok (.ireturn, 1) := by decide +kernel
set_option maxRecDepth 20000 in
theorem ggX3_leastChange_X6_placeOfTwo : GoodIn wsX3_leastChange wsX6_placeOfTwo := goodIn_r _ [5] (by decide +kernel) (by decide +kernel)
set_option maxRecDepth 20000 in
theorem gX3_leastChange_X6_placeOfTwo : GoodIn wsX3_leastChange (va_wsS RX3 37 yX6_placeOfTwo wsX6_placeOfTwo) := goodIn_app (goodIn_of _ (by decide +kernel)) ggX3_leastChange_X6_placeOfTwo
set_option maxRecDepth 20000 in
theorem ggX3_leastChange_X3_leastValue : GoodIn wsX3_leastChange wsX3_leastValue := goodIn_r _ [9, 1, 10, 11, 12, 4, 13, 14, 15, 16, 17, 18, 19, 20, 8, 21, 22, 23, 24, 25, 26, 27, 28, 29, 30, 31, 32, 3, 5, 33, 34, 35, 36, 37, 38, 39, 40, 41] (by decide +kernel) (by decide +kernel)
set_option maxRecDepth 20000 in
theorem gX3_leastChange_X3_leastValue : GoodIn wsX3_leastChange (va_wsS RX3 40 yX3_leastValue wsX3_leastValue) := goodIn_app (goodIn_of _ (by decide +kernel)) ggX3_leastChange_X3_leastValue
theorem dX3_leastChange_0 : decode cX3_leastChange 0 = .ok (.iconst 0, 1) := by decide +kernel
theorem dX3_leastChange_1 : decode cX3_leastChange 1 = .ok (.istore_n 2, 1) := by decide +kernel
theorem dX3_leastChange_2 : decode cX3_leastChange 2 = .ok (.iload_n 2, 1) := by decide +kernel
theorem dX3_leastChange_3 : decode cX3_leastChange 3 = .ok (.aload_n 0, 1) := by decide +kernel
theorem dX3_leastChange_4 : decode cX3_leastChange 4 = .ok (.getfield 15, 3) := by decide +kernel
theorem dX3_leastChange_7 : decode cX3_leastChange 7 = .ok (.if_icmp .ge 57, 3) := by decide +kernel
theorem dX3_leastChange_10 : decode cX3_leastChange 10 = .ok (.iconst 0, 1) := by decide +kernel
theorem dX3_leastChange_11 : decode cX3_leastChange 11 = .ok (.istore_n 3, 1) := by decide +kernel
theorem dX3_leastChange_12 : decode cX3_leastChange 12 = .ok (.iload_n 3, 1) := by decide +kernel
theorem dX3_leastChange_13 : decode cX3_leastChange 13 = .ok (.aload_n 0, 1) := by decide +kernel
theorem dX3_leastChange_14 : decode cX3_leastChange 14 = .ok (.getfield 15, 3) := by decide +kernel
theorem dX3_leastChange_17 : decode cX3_leastChange 17 = .ok (.if_icmp .ge 41, 3) := by decide +kernel
theorem dX3_leastChange_20 : decode cX3_leastChange 20 = .ok (.aload_n 0, 1) := by decide +kernel
theorem dX3_leastChange_21 : decode cX3_leastChange 21 = .ok (.iload_n 1, 1) := by decide +kernel
theorem dX3_leastChange_22 : decode cX3_leastChange 22 = .ok (.iload_n 2, 1) := by decide +kernel
theorem dX3_leastChange_23 : decode cX3_leastChange 23 = .ok (.iload_n 3, 1) := by decide +kernel
theorem dX3_leastChange_24 : decode cX3_leastChange 24 = .ok (.invokestatic 37, 3) := by decide +kernel
theorem dX3_leastChange_27 : decode cX3_leastChange 27 = .ok (.invokestatic 40, 3) := by decide +kernel
theorem dX3_leastChange_30 : decode cX3_leastChange 30 = .ok (.istore 4, 2) := by decide +kernel
theorem dX3_leastChange_32 : decode cX3_leastChange 32 = .ok (.iload 4, 2) := by decide +kernel
theorem dX3_leastChange_34 : decode cX3_leastChange 34 = .ok (.bipush (-9), 2) := by decide +kernel
theorem dX3_leastChange_36 : decode cX3_leastChange 36 = .ok (.if_icmp .eq 16, 3) := by decide +kernel
theorem dX3_leastChange_39 : decode cX3_leastChange 39 = .ok (.bipush 100, 2) := by decide +kernel
theorem dX3_leastChange_41 : decode cX3_leastChange 41 = .ok (.iload_n 2, 1) := by decide +kernel
theorem dX3_leastChange_42 : decode cX3_leastChange 42 = .ok (.imul, 1) := by decide +kernel
theorem dX3_leastChange_43 : decode cX3_leastChange 43 = .ok (.bipush 10, 2) := by decide +kernel
theorem dX3_leastChange_45 : decode cX3_leastChange 45 = .ok (.iload_n 3, 1) := by decide +kernel
theorem dX3_leastChange_46 : decode cX3_leastChange 46 = .ok (.imul, 1) := by decide +kernel
theorem dX3_leastChange_47 : decode cX3_leastChange 47 = .ok (.iadd, 1) := by decide +kernel
theorem dX3_leastChange_48 : decode cX3_leastChange 48 = .ok (.iload 4, 2) := by decide +kernel
theorem dX3_leastChange_50 : decode cX3_leastChange 50 = .ok (.iadd, 1) := by decide +kernel
theorem dX3_leastChange_51 : decode cX3_leastChange 51 = .ok (.ireturn, 1) := by decide +kernel
theorem dX3_leastChange_52 : decode cX3_leastChange 52 = .ok (.iinc 3 1, 3) := by decide +kernel
theorem dX3_leastChange_55 : decode cX3_leastChange 55 = .ok (.goto (-43), 3) := by decide +kernel
theorem dX3_leastChange_58 : decode cX3_leastChange 58 = .ok (.iinc 2 1, 3) := by decide +kernel
theorem dX3_leastChange_61 : decode cX3_leastChange 61 = .ok (.goto (-59), 3) := by decide +kernel
theorem dX3_leastChange_64 : decode cX3_leastChange 64 = .ok (.bipush (-9), 2) := by decide +kernel
theorem dX3_leastChange_66 : decode cX3_leastChange 66 = .ok (.ireturn, 1) := by decide +kernel
set_option maxRecDepth 20000 in
theorem ggX3_leastValue_X6_at : GoodIn wsX3_leastValue wsX6_at := goodIn_r _ [6, 7, 36, 37] (by decide +kernel) (by decide +kernel)
set_option maxRecDepth 20000 in
theorem gX3_leastValue_X6_at : GoodIn wsX3_leastValue (wsV RX3 44 RX6 yX6_at wsX6_at) := goodIn_app (goodIn_of _ (by decide +kernel)) ggX3_leastValue_X6_at
set_option maxRecDepth 20000 in
theorem ggX3_leastValue_X6_put : GoodIn wsX3_leastValue wsX6_put := goodIn_r _ [11, 7, 36, 37] (by decide +kernel) (by decide +kernel)
set_option maxRecDepth 20000 in
theorem gX3_leastValue_X6_put : GoodIn wsX3_leastValue (wsV RX3 47 RX6 yX6_put wsX6_put) := goodIn_app (goodIn_of _ (by decide +kernel)) ggX3_leastValue_X6_put
set_option maxRecDepth 20000 in
theorem ggX3_leastValue_X3_holds : GoodIn wsX3_leastValue wsX3_holds := goodIn_r _ [15, 16, 17, 14, 18, 1, 19, 20, 21, 22, 23, 24, 5, 25, 7, 26, 27, 28, 29, 30, 31, 32, 33, 34, 35, 36, 37] (by decide +kernel) (by decide +kernel)
set_option maxRecDepth 20000 in
theorem gX3_leastValue_X3_holds : GoodIn wsX3_leastValue (va_wsS RX3 33 yX3_holds wsX3_holds) := goodIn_app (goodIn_of _ (by decide +kernel)) ggX3_leastValue_X3_holds
theorem dX3_leastValue_0 : decode cX3_leastValue 0 = .ok (.aload_n 0, 1) := by decide +kernel
theorem dX3_leastValue_1 : decode cX3_leastValue 1 = .ok (.iload_n 2, 1) := by decide +kernel
theorem dX3_leastValue_2 : decode cX3_leastValue 2 = .ok (.invokevirtual 44, 3) := by decide +kernel
theorem dX3_leastValue_5 : decode cX3_leastValue 5 = .ok (.istore_n 3, 1) := by decide +kernel
theorem dX3_leastValue_6 : decode cX3_leastValue 6 = .ok (.bipush (-9), 2) := by decide +kernel
theorem dX3_leastValue_8 : decode cX3_leastValue 8 = .ok (.istore 4, 2) := by decide +kernel
theorem dX3_leastValue_10 : decode cX3_leastValue 10 = .ok (.iconst 0, 1) := by decide +kernel
theorem dX3_leastValue_11 : decode cX3_leastValue 11 = .ok (.istore 5, 2) := by decide +kernel
theorem dX3_leastValue_13 : decode cX3_leastValue 13 = .ok (.iload 5, 2) := by decide +kernel
theorem dX3_leastValue_15 : decode cX3_leastValue 15 = .ok (.aload_n 0, 1) := by decide +kernel
theorem dX3_leastValue_16 : decode cX3_leastValue 16 = .ok (.getfield 15, 3) := by decide +kernel
theorem dX3_leastValue_19 : decode cX3_leastValue 19 = .ok (.if_icmp .ge 35, 3) := by decide +kernel
theorem dX3_leastValue_22 : decode cX3_leastValue 22 = .ok (.iload 4, 2) := by decide +kernel
theorem dX3_leastValue_24 : decode cX3_leastValue 24 = .ok (.bipush (-9), 2) := by decide +kernel
theorem dX3_leastValue_26 : decode cX3_leastValue 26 = .ok (.if_icmp .ne 28, 3) := by decide +kernel
theorem dX3_leastValue_29 : decode cX3_leastValue 29 = .ok (.aload_n 0, 1) := by decide +kernel
theorem dX3_leastValue_30 : decode cX3_leastValue 30 = .ok (.iload_n 2, 1) := by decide +kernel
theorem dX3_leastValue_31 : decode cX3_leastValue 31 = .ok (.iload 5, 2) := by decide +kernel
theorem dX3_leastValue_33 : decode cX3_leastValue 33 = .ok (.invokevirtual 47, 3) := by decide +kernel
theorem dX3_leastValue_36 : decode cX3_leastValue 36 = .ok (.aload_n 0, 1) := by decide +kernel
theorem dX3_leastValue_37 : decode cX3_leastValue 37 = .ok (.iload_n 1, 1) := by decide +kernel
theorem dX3_leastValue_38 : decode cX3_leastValue 38 = .ok (.invokestatic 33, 3) := by decide +kernel
theorem dX3_leastValue_41 : decode cX3_leastValue 41 = .ok (.ifCond .eq 7, 3) := by decide +kernel
theorem dX3_leastValue_44 : decode cX3_leastValue 44 = .ok (.iload 5, 2) := by decide +kernel
theorem dX3_leastValue_46 : decode cX3_leastValue 46 = .ok (.istore 4, 2) := by decide +kernel
theorem dX3_leastValue_48 : decode cX3_leastValue 48 = .ok (.iinc 5 1, 3) := by decide +kernel
theorem dX3_leastValue_51 : decode cX3_leastValue 51 = .ok (.goto (-38), 3) := by decide +kernel
theorem dX3_leastValue_54 : decode cX3_leastValue 54 = .ok (.aload_n 0, 1) := by decide +kernel
theorem dX3_leastValue_55 : decode cX3_leastValue 55 = .ok (.iload_n 2, 1) := by decide +kernel
theorem dX3_leastValue_56 : decode cX3_leastValue 56 = .ok (.iload_n 3, 1) := by decide +kernel
theorem dX3_leastValue_57 : decode cX3_leastValue 57 = .ok (.invokevirtual 47, 3) := by decide +kernel
theorem dX3_leastValue_60 : decode cX3_leastValue 60 = .ok (.iload 4, 2) := by decide +kernel
theorem dX3_leastValue_62 : decode cX3_leastValue 62 = .ok (.ireturn, 1) := by decide +kernel
set_option maxRecDepth 20000 in
theorem ggX4_howMany_X4_isInside : GoodIn wsX4_howMany wsX4_isInside := goodIn_r _ [5, 1, 6, 7, 4, 8, 9, 10, 11, 12, 13, 14, 40, 41] (by decide +kernel) (by decide +kernel)
set_option maxRecDepth 20000 in
theorem gX4_howMany_X4_isInside : GoodIn wsX4_howMany (va_wsS RX4 13 yX4_isInside wsX4_isInside) := goodIn_app (goodIn_of _ (by decide +kernel)) ggX4_howMany_X4_isInside
set_option maxRecDepth 20000 in
theorem ggX4_howMany_X4_isOnto : GoodIn wsX4_howMany wsX4_isOnto := goodIn_r _ [17, 1, 6, 7, 4, 8, 18, 19, 20, 12, 21, 14, 40, 41] (by decide +kernel) (by decide +kernel)
set_option maxRecDepth 20000 in
theorem gX4_howMany_X4_isOnto : GoodIn wsX4_howMany (va_wsS RX4 19 yX4_isOnto wsX4_isOnto) := goodIn_app (goodIn_of _ (by decide +kernel)) ggX4_howMany_X4_isOnto
set_option maxRecDepth 20000 in
theorem ggX4_howMany_X4_goesAlong : GoodIn wsX4_howMany wsX4_goesAlong := goodIn_r _ [24, 1, 25, 26, 27, 12, 28, 29, 30, 31, 32, 6, 7, 4, 8, 33, 34, 35, 36, 37, 38, 39, 40, 41] (by decide +kernel) (by decide +kernel)
set_option maxRecDepth 20000 in
theorem gX4_howMany_X4_goesAlong : GoodIn wsX4_howMany (va_wsS RX4 22 yX4_goesAlong wsX4_goesAlong) := goodIn_app (goodIn_of _ (by decide +kernel)) ggX4_howMany_X4_goesAlong
theorem dX4_howMany_0 : decode cX4_howMany 0 = .ok (.iconst 0, 1) := by decide +kernel
theorem dX4_howMany_1 : decode cX4_howMany 1 = .ok (.istore_n 2, 1) := by decide +kernel
theorem dX4_howMany_2 : decode cX4_howMany 2 = .ok (.iconst 0, 1) := by decide +kernel
theorem dX4_howMany_3 : decode cX4_howMany 3 = .ok (.istore_n 3, 1) := by decide +kernel
theorem dX4_howMany_4 : decode cX4_howMany 4 = .ok (.iload_n 3, 1) := by decide +kernel
theorem dX4_howMany_5 : decode cX4_howMany 5 = .ok (.iconst 1, 1) := by decide +kernel
theorem dX4_howMany_6 : decode cX4_howMany 6 = .ok (.iconst 2, 1) := by decide +kernel
theorem dX4_howMany_7 : decode cX4_howMany 7 = .ok (.aload_n 0, 1) := by decide +kernel
theorem dX4_howMany_8 : decode cX4_howMany 8 = .ok (.getfield 7, 3) := by decide +kernel
theorem dX4_howMany_11 : decode cX4_howMany 11 = .ok (.imul, 1) := by decide +kernel
theorem dX4_howMany_12 : decode cX4_howMany 12 = .ok (.ishl, 1) := by decide +kernel
theorem dX4_howMany_13 : decode cX4_howMany 13 = .ok (.if_icmp .ge 40, 3) := by decide +kernel
theorem dX4_howMany_16 : decode cX4_howMany 16 = .ok (.aload_n 0, 1) := by decide +kernel
theorem dX4_howMany_17 : decode cX4_howMany 17 = .ok (.iload_n 3, 1) := by decide +kernel
theorem dX4_howMany_18 : decode cX4_howMany 18 = .ok (.invokestatic 13, 3) := by decide +kernel
theorem dX4_howMany_21 : decode cX4_howMany 21 = .ok (.ifCond .eq 26, 3) := by decide +kernel
theorem dX4_howMany_24 : decode cX4_howMany 24 = .ok (.iload_n 1, 1) := by decide +kernel
theorem dX4_howMany_25 : decode cX4_howMany 25 = .ok (.ifCond .eq 11, 3) := by decide +kernel
theorem dX4_howMany_28 : decode cX4_howMany 28 = .ok (.aload_n 0, 1) := by decide +kernel
theorem dX4_howMany_29 : decode cX4_howMany 29 = .ok (.iload_n 3, 1) := by decide +kernel
theorem dX4_howMany_30 : decode cX4_howMany 30 = .ok (.invokestatic 19, 3) := by decide +kernel
theorem dX4_howMany_33 : decode cX4_howMany 33 = .ok (.ifCond .eq 14, 3) := by decide +kernel
theorem dX4_howMany_36 : decode cX4_howMany 36 = .ok (.aload_n 0, 1) := by decide +kernel
theorem dX4_howMany_37 : decode cX4_howMany 37 = .ok (.iload_n 3, 1) := by decide +kernel
theorem dX4_howMany_38 : decode cX4_howMany 38 = .ok (.invokestatic 22, 3) := by decide +kernel
theorem dX4_howMany_41 : decode cX4_howMany 41 = .ok (.ifCond .eq 6, 3) := by decide +kernel
theorem dX4_howMany_44 : decode cX4_howMany 44 = .ok (.iinc 2 1, 3) := by decide +kernel
theorem dX4_howMany_47 : decode cX4_howMany 47 = .ok (.iinc 3 1, 3) := by decide +kernel
theorem dX4_howMany_50 : decode cX4_howMany 50 = .ok (.goto (-46), 3) := by decide +kernel
theorem dX4_howMany_53 : decode cX4_howMany 53 = .ok (.iload_n 2, 1) := by decide +kernel
theorem dX4_howMany_54 : decode cX4_howMany 54 = .ok (.ireturn, 1) := by decide +kernel
theorem dX4_of_0 : decode cX4_of 0 = .ok (.iload_n 0, 1) := by decide +kernel
theorem dX4_of_1 : decode cX4_of 1 = .ok (.iconst 2, 1) := by decide +kernel
theorem dX4_of_2 : decode cX4_of 2 = .ok (.iload_n 1, 1) := by decide +kernel
theorem dX4_of_3 : decode cX4_of 3 = .ok (.imul, 1) := by decide +kernel
theorem dX4_of_4 : decode cX4_of 4 = .ok (.ishr, 1) := by decide +kernel
theorem dX4_of_5 : decode cX4_of 5 = .ok (.iconst 3, 1) := by decide +kernel
theorem dX4_of_6 : decode cX4_of 6 = .ok (.iand, 1) := by decide +kernel
theorem dX4_of_7 : decode cX4_of 7 = .ok (.ireturn, 1) := by decide +kernel
set_option maxRecDepth 20000 in
theorem ggX4_isInside_X4_of : GoodIn wsX4_isInside wsX4_of := goodIn_r _ [5] (by decide +kernel) (by decide +kernel)
set_option maxRecDepth 20000 in
theorem gX4_isInside_X4_of : GoodIn wsX4_isInside (va_wsS RX4 25 yX4_of wsX4_of) := goodIn_app (goodIn_of _ (by decide +kernel)) ggX4_isInside_X4_of
set_option maxRecDepth 20000 in
theorem ggX4_isInside_X6_has : GoodIn wsX4_isInside wsX6_has := goodIn_r _ [10, 11, 12, 13] (by decide +kernel) (by decide +kernel)
set_option maxRecDepth 20000 in
theorem gX4_isInside_X6_has : GoodIn wsX4_isInside (wsV RX4 29 RX6 yX6_has wsX6_has) := goodIn_app (goodIn_of _ (by decide +kernel)) ggX4_isInside_X6_has
theorem dX4_isInside_0 : decode cX4_isInside 0 = .ok (.iconst 0, 1) := by decide +kernel
theorem dX4_isInside_1 : decode cX4_isInside 1 = .ok (.istore_n 2, 1) := by decide +kernel
theorem dX4_isInside_2 : decode cX4_isInside 2 = .ok (.iload_n 2, 1) := by decide +kernel
theorem dX4_isInside_3 : decode cX4_isInside 3 = .ok (.aload_n 0, 1) := by decide +kernel
theorem dX4_isInside_4 : decode cX4_isInside 4 = .ok (.getfield 7, 3) := by decide +kernel
theorem dX4_isInside_7 : decode cX4_isInside 7 = .ok (.if_icmp .ge 23, 3) := by decide +kernel
theorem dX4_isInside_10 : decode cX4_isInside 10 = .ok (.aload_n 0, 1) := by decide +kernel
theorem dX4_isInside_11 : decode cX4_isInside 11 = .ok (.iload_n 1, 1) := by decide +kernel
theorem dX4_isInside_12 : decode cX4_isInside 12 = .ok (.iload_n 2, 1) := by decide +kernel
theorem dX4_isInside_13 : decode cX4_isInside 13 = .ok (.invokestatic 25, 3) := by decide +kernel
theorem dX4_isInside_16 : decode cX4_isInside 16 = .ok (.invokevirtual 29, 3) := by decide +kernel
theorem dX4_isInside_19 : decode cX4_isInside 19 = .ok (.ifCond .ne 5, 3) := by decide +kernel
theorem dX4_isInside_22 : decode cX4_isInside 22 = .ok (.iconst 0, 1) := by decide +kernel
theorem dX4_isInside_23 : decode cX4_isInside 23 = .ok (.ireturn, 1) := by decide +kernel
theorem dX4_isInside_24 : decode cX4_isInside 24 = .ok (.iinc 2 1, 3) := by decide +kernel
theorem dX4_isInside_27 : decode cX4_isInside 27 = .ok (.goto (-25), 3) := by decide +kernel
theorem dX4_isInside_30 : decode cX4_isInside 30 = .ok (.iconst 1, 1) := by decide +kernel
theorem dX4_isInside_31 : decode cX4_isInside 31 = .ok (.ireturn, 1) := by decide +kernel
set_option maxRecDepth 20000 in
theorem ggX4_isOnto_X4_of : GoodIn wsX4_isOnto wsX4_of := goodIn_r _ [5] (by decide +kernel) (by decide +kernel)
set_option maxRecDepth 20000 in
theorem gX4_isOnto_X4_of : GoodIn wsX4_isOnto (va_wsS RX4 25 yX4_of wsX4_of) := goodIn_app (goodIn_of _ (by decide +kernel)) ggX4_isOnto_X4_of
set_option maxRecDepth 20000 in
theorem ggX4_isOnto_X6_allElements : GoodIn wsX4_isOnto wsX6_allElements := goodIn_r _ [10, 11, 12, 13] (by decide +kernel) (by decide +kernel)
set_option maxRecDepth 20000 in
theorem gX4_isOnto_X6_allElements : GoodIn wsX4_isOnto (wsV RX4 33 RX6 yX6_allElements wsX6_allElements) := goodIn_app (goodIn_of _ (by decide +kernel)) ggX4_isOnto_X6_allElements
theorem dX4_isOnto_0 : decode cX4_isOnto 0 = .ok (.iconst 0, 1) := by decide +kernel
theorem dX4_isOnto_1 : decode cX4_isOnto 1 = .ok (.istore_n 2, 1) := by decide +kernel
theorem dX4_isOnto_2 : decode cX4_isOnto 2 = .ok (.iconst 0, 1) := by decide +kernel
theorem dX4_isOnto_3 : decode cX4_isOnto 3 = .ok (.istore_n 3, 1) := by decide +kernel
theorem dX4_isOnto_4 : decode cX4_isOnto 4 = .ok (.iload_n 3, 1) := by decide +kernel
theorem dX4_isOnto_5 : decode cX4_isOnto 5 = .ok (.aload_n 0, 1) := by decide +kernel
theorem dX4_isOnto_6 : decode cX4_isOnto 6 = .ok (.getfield 7, 3) := by decide +kernel
theorem dX4_isOnto_9 : decode cX4_isOnto 9 = .ok (.if_icmp .ge 19, 3) := by decide +kernel
theorem dX4_isOnto_12 : decode cX4_isOnto 12 = .ok (.iload_n 2, 1) := by decide +kernel
theorem dX4_isOnto_13 : decode cX4_isOnto 13 = .ok (.iconst 1, 1) := by decide +kernel
theorem dX4_isOnto_14 : decode cX4_isOnto 14 = .ok (.iload_n 1, 1) := by decide +kernel
theorem dX4_isOnto_15 : decode cX4_isOnto 15 = .ok (.iload_n 3, 1) := by decide +kernel
theorem dX4_isOnto_16 : decode cX4_isOnto 16 = .ok (.invokestatic 25, 3) := by decide +kernel
theorem dX4_isOnto_19 : decode cX4_isOnto 19 = .ok (.ishl, 1) := by decide +kernel
theorem dX4_isOnto_20 : decode cX4_isOnto 20 = .ok (.ior, 1) := by decide +kernel
theorem dX4_isOnto_21 : decode cX4_isOnto 21 = .ok (.istore_n 2, 1) := by decide +kernel
theorem dX4_isOnto_22 : decode cX4_isOnto 22 = .ok (.iinc 3 1, 3) := by decide +kernel
theorem dX4_isOnto_25 : decode cX4_isOnto 25 = .ok (.goto (-21), 3) := by decide +kernel
theorem dX4_isOnto_28 : decode cX4_isOnto 28 = .ok (.iload_n 2, 1) := by decide +kernel
theorem dX4_isOnto_29 : decode cX4_isOnto 29 = .ok (.aload_n 0, 1) := by decide +kernel
theorem dX4_isOnto_30 : decode cX4_isOnto 30 = .ok (.invokevirtual 33, 3) := by decide +kernel
theorem dX4_isOnto_33 : decode cX4_isOnto 33 = .ok (.if_icmp .ne 7, 3) := by decide +kernel
theorem dX4_isOnto_36 : decode cX4_isOnto 36 = .ok (.iconst 1, 1) := by decide +kernel
theorem dX4_isOnto_37 : decode cX4_isOnto 37 = .ok (.goto 4, 3) := by decide +kernel
theorem dX4_isOnto_40 : decode cX4_isOnto 40 = .ok (.iconst 0, 1) := by decide +kernel
theorem dX4_isOnto_41 : decode cX4_isOnto 41 = .ok (.ireturn, 1) := by decide +kernel
set_option maxRecDepth 20000 in
theorem ggX4_goesAlong_X6_one : GoodIn wsX4_goesAlong wsX6_one := goodIn_r _ [6, 7, 8, 9, 5, 10, 22, 23] (by decide +kernel) (by decide +kernel)
set_option maxRecDepth 20000 in
theorem gX4_goesAlong_X6_one : GoodIn wsX4_goesAlong (wsV RX4 37 RX6 yX6_one wsX6_one) := goodIn_app (goodIn_of _ (by decide +kernel)) ggX4_goesAlong_X6_one
set_option maxRecDepth 20000 in
theorem ggX4_goesAlong_X4_of : GoodIn wsX4_goesAlong wsX4_of := goodIn_r _ [14] (by decide +kernel) (by decide +kernel)
set_option maxRecDepth 20000 in
theorem gX4_goesAlong_X4_of : GoodIn wsX4_goesAlong (va_wsS RX4 25 yX4_of wsX4_of) := goodIn_app (goodIn_of _ (by decide +kernel)) ggX4_goesAlong_X4_of
set_option maxRecDepth 20000 in
theorem ggX4_goesAlong_X6_two : GoodIn wsX4_goesAlong wsX6_two := goodIn_r _ [18, 7, 19, 20, 5, 21, 22, 23] (by decide +kernel) (by decide +kernel)
set_option maxRecDepth 20000 in
theorem gX4_goesAlong_X6_two : GoodIn wsX4_goesAlong (wsV RX4 41 RX6 yX6_two wsX6_two) := goodIn_app (goodIn_of _ (by decide +kernel)) ggX4_goesAlong_X6_two
theorem dX4_goesAlong_0 : decode cX4_goesAlong 0 = .ok (.iconst 0, 1) := by decide +kernel
theorem dX4_goesAlong_1 : decode cX4_goesAlong 1 = .ok (.istore_n 2, 1) := by decide +kernel
theorem dX4_goesAlong_2 : decode cX4_goesAlong 2 = .ok (.iload_n 2, 1) := by decide +kernel
theorem dX4_goesAlong_3 : decode cX4_goesAlong 3 = .ok (.aload_n 0, 1) := by decide +kernel
theorem dX4_goesAlong_4 : decode cX4_goesAlong 4 = .ok (.getfield 7, 3) := by decide +kernel
theorem dX4_goesAlong_7 : decode cX4_goesAlong 7 = .ok (.if_icmp .ge 77, 3) := by decide +kernel
theorem dX4_goesAlong_10 : decode cX4_goesAlong 10 = .ok (.iload_n 1, 1) := by decide +kernel
theorem dX4_goesAlong_11 : decode cX4_goesAlong 11 = .ok (.aload_n 0, 1) := by decide +kernel
theorem dX4_goesAlong_12 : decode cX4_goesAlong 12 = .ok (.iload_n 2, 1) := by decide +kernel
theorem dX4_goesAlong_13 : decode cX4_goesAlong 13 = .ok (.invokevirtual 37, 3) := by decide +kernel
theorem dX4_goesAlong_16 : decode cX4_goesAlong 16 = .ok (.invokestatic 25, 3) := by decide +kernel
theorem dX4_goesAlong_19 : decode cX4_goesAlong 19 = .ok (.aload_n 0, 1) := by decide +kernel
theorem dX4_goesAlong_20 : decode cX4_goesAlong 20 = .ok (.iload_n 1, 1) := by decide +kernel
theorem dX4_goesAlong_21 : decode cX4_goesAlong 21 = .ok (.iload_n 2, 1) := by decide +kernel
theorem dX4_goesAlong_22 : decode cX4_goesAlong 22 = .ok (.invokestatic 25, 3) := by decide +kernel
theorem dX4_goesAlong_25 : decode cX4_goesAlong 25 = .ok (.invokevirtual 37, 3) := by decide +kernel
theorem dX4_goesAlong_28 : decode cX4_goesAlong 28 = .ok (.if_icmp .eq 5, 3) := by decide +kernel
theorem dX4_goesAlong_31 : decode cX4_goesAlong 31 = .ok (.iconst 0, 1) := by decide +kernel
theorem dX4_goesAlong_32 : decode cX4_goesAlong 32 = .ok (.ireturn, 1) := by decide +kernel
theorem dX4_goesAlong_33 : decode cX4_goesAlong 33 = .ok (.iconst 0, 1) := by decide +kernel
theorem dX4_goesAlong_34 : decode cX4_goesAlong 34 = .ok (.istore_n 3, 1) := by decide +kernel
theorem dX4_goesAlong_35 : decode cX4_goesAlong 35 = .ok (.iload_n 3, 1) := by decide +kernel
theorem dX4_goesAlong_36 : decode cX4_goesAlong 36 = .ok (.aload_n 0, 1) := by decide +kernel
theorem dX4_goesAlong_37 : decode cX4_goesAlong 37 = .ok (.getfield 7, 3) := by decide +kernel
theorem dX4_goesAlong_40 : decode cX4_goesAlong 40 = .ok (.if_icmp .ge 38, 3) := by decide +kernel
theorem dX4_goesAlong_43 : decode cX4_goesAlong 43 = .ok (.iload_n 1, 1) := by decide +kernel
theorem dX4_goesAlong_44 : decode cX4_goesAlong 44 = .ok (.aload_n 0, 1) := by decide +kernel
theorem dX4_goesAlong_45 : decode cX4_goesAlong 45 = .ok (.iload_n 2, 1) := by decide +kernel
theorem dX4_goesAlong_46 : decode cX4_goesAlong 46 = .ok (.iload_n 3, 1) := by decide +kernel
theorem dX4_goesAlong_47 : decode cX4_goesAlong 47 = .ok (.invokevirtual 41, 3) := by decide +kernel
theorem dX4_goesAlong_50 : decode cX4_goesAlong 50 = .ok (.invokestatic 25, 3) := by decide +kernel
theorem dX4_goesAlong_53 : decode cX4_goesAlong 53 = .ok (.aload_n 0, 1) := by decide +kernel
theorem dX4_goesAlong_54 : decode cX4_goesAlong 54 = .ok (.iload_n 1, 1) := by decide +kernel
theorem dX4_goesAlong_55 : decode cX4_goesAlong 55 = .ok (.iload_n 2, 1) := by decide +kernel
theorem dX4_goesAlong_56 : decode cX4_goesAlong 56 = .ok (.invokestatic 25, 3) := by decide +kernel
theorem dX4_goesAlong_59 : decode cX4_goesAlong 59 = .ok (.iload_n 1, 1) := by decide +kernel
theorem dX4_goesAlong_60 : decode cX4_goesAlong 60 = .ok (.iload_n 3, 1) := by decide +kernel
theorem dX4_goesAlong_61 : decode cX4_goesAlong 61 = .ok (.invokestatic 25, 3) := by decide +kernel
theorem dX4_goesAlong_64 : decode cX4_goesAlong 64 = .ok (.invokevirtual 41, 3) := by decide +kernel
theorem dX4_goesAlong_67 : decode cX4_goesAlong 67 = .ok (.if_icmp .eq 5, 3) := by decide +kernel
theorem dX4_goesAlong_70 : decode cX4_goesAlong 70 = .ok (.iconst 0, 1) := by decide +kernel
theorem dX4_goesAlong_71 : decode cX4_goesAlong 71 = .ok (.ireturn, 1) := by decide +kernel
theorem dX4_goesAlong_72 : decode cX4_goesAlong 72 = .ok (.iinc 3 1, 3) := by decide +kernel
theorem dX4_goesAlong_75 : decode cX4_goesAlong 75 = .ok (.goto (-40), 3) := by decide +kernel
theorem dX4_goesAlong_78 : decode cX4_goesAlong 78 = .ok (.iinc 2 1, 3) := by decide +kernel
theorem dX4_goesAlong_81 : decode cX4_goesAlong 81 = .ok (.goto (-79), 3) := by decide +kernel
theorem dX4_goesAlong_84 : decode cX4_goesAlong 84 = .ok (.iconst 1, 1) := by decide +kernel
theorem dX4_goesAlong_85 : decode cX4_goesAlong 85 = .ok (.ireturn, 1) := by decide +kernel
end
section
set_option maxRecDepth 20000 in
theorem ggX5_init_X6_init : GoodIn wsX5_init wsX6_init := goodIn_r _ [9, 10, 2, 3, 11, 12, 13, 14] (by decide +kernel) (by decide +kernel)
set_option maxRecDepth 20000 in
theorem gX5_init_X6_init_n9 : GoodIn wsX5_init (wsX6_init) := ggX5_init_X6_init
theorem dX5_init_0 : decode cX5_init 0 = .ok (.aload_n 0, 1) := by decide +kernel
theorem dX5_init_1 : decode cX5_init 1 = .ok (.invokespecial 1, 3) := by decide +kernel
theorem dX5_init_4 : decode cX5_init 4 = .ok (.aload_n 0, 1) := by decide +kernel
theorem dX5_init_5 : decode cX5_init 5 = .ok (.new 7, 3) := by decide +kernel
theorem dX5_init_8 : decode cX5_init 8 = .ok (.dup, 1) := by decide +kernel
theorem dX5_init_9 : decode cX5_init 9 = .ok (.invokespecial 9, 3) := by decide +kernel
theorem dX5_init_12 : decode cX5_init 12 = .ok (.putfield 10, 3) := by decide +kernel
theorem dX5_init_15 : decode cX5_init 15 = .ok (.return_, 1) := by decide +kernel
set_option maxRecDepth 20000 in
theorem ggX5_faultOf_X6_startOver : GoodIn wsX5_faultOf wsX6_startOver := goodIn_r _ [8, 9, 10, 11, 12, 7, 13, 14, 15, 16, 70, 71] (by decide +kernel) (by decide +kernel)
set_option maxRecDepth 20000 in
theorem gX5_faultOf_X6_startOver : GoodIn wsX5_faultOf (wsV RX5 16 RX6 yX6_startOver wsX6_startOver) := goodIn_app (goodIn_of _ (by decide +kernel)) ggX5_faultOf_X6_startOver
set_option maxRecDepth 20000 in
theorem ggX5_faultOf_X5_takes : GoodIn wsX5_faultOf wsX5_takes := goodIn_r _ [21, 3, 22, 23, 24, 20, 25, 2, 26, 27, 28, 29, 30, 31, 32, 33, 34, 1, 35, 36, 37, 38, 39, 40, 41, 42, 43, 4, 5, 6, 7, 8, 9, 10, 11, 12, 13, 14, 15, 16, 44, 45, 46, 47, 48, 49, 50, 51, 52, 53, 54, 55, 56, 57, 58, 59, 60, 61, 62, 63, 64, 65, 66, 67, 68, 69, 70, 71] (by decide +kernel) (by decide +kernel)
set_option maxRecDepth 20000 in
theorem gX5_faultOf_X5_takes : GoodIn wsX5_faultOf (wsV RX5 27 RX5 yX5_takes wsX5_takes) := goodIn_app (goodIn_of _ (by decide +kernel)) ggX5_faultOf_X5_takes
theorem dX5_faultOf_0 : decode cX5_faultOf 0 = .ok (.aload_n 0, 1) := by decide +kernel
theorem dX5_faultOf_1 : decode cX5_faultOf 1 = .ok (.getfield 10, 3) := by decide +kernel
theorem dX5_faultOf_4 : decode cX5_faultOf 4 = .ok (.iconst 2, 1) := by decide +kernel
theorem dX5_faultOf_5 : decode cX5_faultOf 5 = .ok (.invokevirtual 16, 3) := by decide +kernel
theorem dX5_faultOf_8 : decode cX5_faultOf 8 = .ok (.aload_n 0, 1) := by decide +kernel
theorem dX5_faultOf_9 : decode cX5_faultOf 9 = .ok (.iconst 0, 1) := by decide +kernel
theorem dX5_faultOf_10 : decode cX5_faultOf 10 = .ok (.putfield 20, 3) := by decide +kernel
theorem dX5_faultOf_13 : decode cX5_faultOf 13 = .ok (.aload_n 0, 1) := by decide +kernel
theorem dX5_faultOf_14 : decode cX5_faultOf 14 = .ok (.iconst 0, 1) := by decide +kernel
theorem dX5_faultOf_15 : decode cX5_faultOf 15 = .ok (.putfield 24, 3) := by decide +kernel
theorem dX5_faultOf_18 : decode cX5_faultOf 18 = .ok (.iconst 0, 1) := by decide +kernel
theorem dX5_faultOf_19 : decode cX5_faultOf 19 = .ok (.istore_n 3, 1) := by decide +kernel
theorem dX5_faultOf_20 : decode cX5_faultOf 20 = .ok (.iload_n 3, 1) := by decide +kernel
theorem dX5_faultOf_21 : decode cX5_faultOf 21 = .ok (.iload_n 2, 1) := by decide +kernel
theorem dX5_faultOf_22 : decode cX5_faultOf 22 = .ok (.if_icmp .ge 35, 3) := by decide +kernel
theorem dX5_faultOf_25 : decode cX5_faultOf 25 = .ok (.iload_n 3, 1) := by decide +kernel
theorem dX5_faultOf_26 : decode cX5_faultOf 26 = .ok (.aload_n 1, 1) := by decide +kernel
theorem dX5_faultOf_27 : decode cX5_faultOf 27 = .ok (.arraylength, 1) := by decide +kernel
theorem dX5_faultOf_28 : decode cX5_faultOf 28 = .ok (.if_icmp .ge 29, 3) := by decide +kernel
theorem dX5_faultOf_31 : decode cX5_faultOf 31 = .ok (.aload_n 1, 1) := by decide +kernel
theorem dX5_faultOf_32 : decode cX5_faultOf 32 = .ok (.iload_n 3, 1) := by decide +kernel
theorem dX5_faultOf_33 : decode cX5_faultOf 33 = .ok (.iaload, 1) := by decide +kernel
theorem dX5_faultOf_34 : decode cX5_faultOf 34 = .ok (.bipush 32, 2) := by decide +kernel
theorem dX5_faultOf_36 : decode cX5_faultOf 36 = .ok (.if_icmp .eq 15, 3) := by decide +kernel
theorem dX5_faultOf_39 : decode cX5_faultOf 39 = .ok (.aload_n 0, 1) := by decide +kernel
theorem dX5_faultOf_40 : decode cX5_faultOf 40 = .ok (.aload_n 1, 1) := by decide +kernel
theorem dX5_faultOf_41 : decode cX5_faultOf 41 = .ok (.iload_n 3, 1) := by decide +kernel
theorem dX5_faultOf_42 : decode cX5_faultOf 42 = .ok (.iaload, 1) := by decide +kernel
theorem dX5_faultOf_43 : decode cX5_faultOf 43 = .ok (.invokevirtual 27, 3) := by decide +kernel
theorem dX5_faultOf_46 : decode cX5_faultOf 46 = .ok (.ifCond .ne 5, 3) := by decide +kernel
theorem dX5_faultOf_49 : decode cX5_faultOf 49 = .ok (.iload_n 3, 1) := by decide +kernel
theorem dX5_faultOf_50 : decode cX5_faultOf 50 = .ok (.ireturn, 1) := by decide +kernel
theorem dX5_faultOf_51 : decode cX5_faultOf 51 = .ok (.iinc 3 1, 3) := by decide +kernel
theorem dX5_faultOf_54 : decode cX5_faultOf 54 = .ok (.goto (-34), 3) := by decide +kernel
theorem dX5_faultOf_57 : decode cX5_faultOf 57 = .ok (.aload_n 0, 1) := by decide +kernel
theorem dX5_faultOf_58 : decode cX5_faultOf 58 = .ok (.getfield 24, 3) := by decide +kernel
theorem dX5_faultOf_61 : decode cX5_faultOf 61 = .ok (.ifCond .ne 7, 3) := by decide +kernel
theorem dX5_faultOf_64 : decode cX5_faultOf 64 = .ok (.iconst (-1), 1) := by decide +kernel
theorem dX5_faultOf_65 : decode cX5_faultOf 65 = .ok (.goto 4, 3) := by decide +kernel
theorem dX5_faultOf_68 : decode cX5_faultOf 68 = .ok (.iload_n 2, 1) := by decide +kernel
theorem dX5_faultOf_69 : decode cX5_faultOf 69 = .ok (.ireturn, 1) := by decide +kernel
set_option maxRecDepth 20000 in
theorem ggX5_takes_X5_opens : GoodIn wsX5_takes wsX5_opens := goodIn_r _ [6, 7, 1, 8, 62, 63, 64, 65] (by decide +kernel) (by decide +kernel)
set_option maxRecDepth 20000 in
theorem gX5_takes_X5_opens : GoodIn wsX5_takes (wsV RX5 31 RX5 yX5_opens wsX5_opens) := goodIn_app (goodIn_of _ (by decide +kernel)) ggX5_takes_X5_opens
set_option maxRecDepth 20000 in
theorem ggX5_takes_X5_ends : GoodIn wsX5_takes wsX5_ends := goodIn_r _ [12, 8, 7, 1, 13, 14, 15, 5, 16, 17, 18, 62, 63, 64, 65, 66, 67] (by decide +kernel) (by decide +kernel)
set_option maxRecDepth 20000 in
theorem gX5_takes_X5_ends : GoodIn wsX5_takes (wsV RX5 34 RX5 yX5_ends wsX5_ends) := goodIn_app (goodIn_of _ (by decide +kernel)) ggX5_takes_X5_ends
set_option maxRecDepth 20000 in
theorem ggX5_takes_X5_takesFigure : GoodIn wsX5_takes wsX5_takesFigure := goodIn_r _ [22, 8, 1, 13, 14, 15, 5, 16, 17, 18, 23, 24, 25, 26, 27, 28, 29, 30, 31, 32, 33, 34, 35, 36, 37, 38, 39, 40, 41, 42, 43, 44, 45, 46, 47, 48, 49, 50, 51, 52, 53, 54, 55, 56, 57, 58, 59, 60, 61, 62, 63, 64, 65, 66, 67] (by decide +kernel) (by decide +kernel)
set_option maxRecDepth 20000 in
theorem gX5_takes_X5_takesFigure : GoodIn wsX5_takes (wsV RX5 38 RX5 yX5_takesFigure wsX5_takesFigure) := goodIn_app (goodIn_of _ (by decide +kernel)) ggX5_takes_X5_takesFigure
theorem dX5_takes_0 : decode cX5_takes 0 = .ok (.aload_n 0, 1) := by decide +kernel
theorem dX5_takes_1 : decode cX5_takes 1 = .ok (.getfield 24, 3) := by decide +kernel
theorem dX5_takes_4 : decode cX5_takes 4 = .ok (.ifCond .ne 9, 3) := by decide +kernel
theorem dX5_takes_7 : decode cX5_takes 7 = .ok (.aload_n 0, 1) := by decide +kernel
theorem dX5_takes_8 : decode cX5_takes 8 = .ok (.iload_n 1, 1) := by decide +kernel
theorem dX5_takes_9 : decode cX5_takes 9 = .ok (.invokevirtual 31, 3) := by decide +kernel
theorem dX5_takes_12 : decode cX5_takes 12 = .ok (.ireturn, 1) := by decide +kernel
theorem dX5_takes_13 : decode cX5_takes 13 = .ok (.iload_n 1, 1) := by decide +kernel
theorem dX5_takes_14 : decode cX5_takes 14 = .ok (.bipush 59, 2) := by decide +kernel
theorem dX5_takes_16 : decode cX5_takes 16 = .ok (.if_icmp .ne 8, 3) := by decide +kernel
theorem dX5_takes_19 : decode cX5_takes 19 = .ok (.aload_n 0, 1) := by decide +kernel
theorem dX5_takes_20 : decode cX5_takes 20 = .ok (.invokevirtual 34, 3) := by decide +kernel
theorem dX5_takes_23 : decode cX5_takes 23 = .ok (.ireturn, 1) := by decide +kernel
theorem dX5_takes_24 : decode cX5_takes 24 = .ok (.iload_n 1, 1) := by decide +kernel
theorem dX5_takes_25 : decode cX5_takes 25 = .ok (.bipush 48, 2) := by decide +kernel
theorem dX5_takes_27 : decode cX5_takes 27 = .ok (.if_icmp .lt 24, 3) := by decide +kernel
theorem dX5_takes_30 : decode cX5_takes 30 = .ok (.iload_n 1, 1) := by decide +kernel
theorem dX5_takes_31 : decode cX5_takes 31 = .ok (.bipush 57, 2) := by decide +kernel
theorem dX5_takes_33 : decode cX5_takes 33 = .ok (.if_icmp .gt 18, 3) := by decide +kernel
theorem dX5_takes_36 : decode cX5_takes 36 = .ok (.aload_n 0, 1) := by decide +kernel
theorem dX5_takes_37 : decode cX5_takes 37 = .ok (.iload_n 1, 1) := by decide +kernel
theorem dX5_takes_38 : decode cX5_takes 38 = .ok (.bipush 48, 2) := by decide +kernel
theorem dX5_takes_40 : decode cX5_takes 40 = .ok (.isub, 1) := by decide +kernel
theorem dX5_takes_41 : decode cX5_takes 41 = .ok (.invokevirtual 38, 3) := by decide +kernel
theorem dX5_takes_44 : decode cX5_takes 44 = .ok (.ifCond .eq 7, 3) := by decide +kernel
theorem dX5_takes_47 : decode cX5_takes 47 = .ok (.iconst 1, 1) := by decide +kernel
theorem dX5_takes_48 : decode cX5_takes 48 = .ok (.goto 4, 3) := by decide +kernel
theorem dX5_takes_51 : decode cX5_takes 51 = .ok (.iconst 0, 1) := by decide +kernel
theorem dX5_takes_52 : decode cX5_takes 52 = .ok (.ireturn, 1) := by decide +kernel
theorem dX5_opens_0 : decode cX5_opens 0 = .ok (.iload_n 1, 1) := by decide +kernel
theorem dX5_opens_1 : decode cX5_opens 1 = .ok (.bipush 102, 2) := by decide +kernel
theorem dX5_opens_3 : decode cX5_opens 3 = .ok (.if_icmp .eq 22, 3) := by decide +kernel
theorem dX5_opens_6 : decode cX5_opens 6 = .ok (.iload_n 1, 1) := by decide +kernel
theorem dX5_opens_7 : decode cX5_opens 7 = .ok (.bipush 103, 2) := by decide +kernel
theorem dX5_opens_9 : decode cX5_opens 9 = .ok (.if_icmp .eq 16, 3) := by decide +kernel
theorem dX5_opens_12 : decode cX5_opens 12 = .ok (.iload_n 1, 1) := by decide +kernel
theorem dX5_opens_13 : decode cX5_opens 13 = .ok (.bipush 110, 2) := by decide +kernel
theorem dX5_opens_15 : decode cX5_opens 15 = .ok (.if_icmp .ne 14, 3) := by decide +kernel
theorem dX5_opens_18 : decode cX5_opens 18 = .ok (.aload_n 0, 1) := by decide +kernel
theorem dX5_opens_19 : decode cX5_opens 19 = .ok (.getfield 20, 3) := by decide +kernel
theorem dX5_opens_22 : decode cX5_opens 22 = .ok (.ifCond .ne 7, 3) := by decide +kernel
theorem dX5_opens_25 : decode cX5_opens 25 = .ok (.iconst 1, 1) := by decide +kernel
theorem dX5_opens_26 : decode cX5_opens 26 = .ok (.goto 4, 3) := by decide +kernel
theorem dX5_opens_29 : decode cX5_opens 29 = .ok (.iconst 0, 1) := by decide +kernel
theorem dX5_opens_30 : decode cX5_opens 30 = .ok (.istore_n 2, 1) := by decide +kernel
theorem dX5_opens_31 : decode cX5_opens 31 = .ok (.iload_n 2, 1) := by decide +kernel
theorem dX5_opens_32 : decode cX5_opens 32 = .ok (.ifCond .eq 13, 3) := by decide +kernel
theorem dX5_opens_35 : decode cX5_opens 35 = .ok (.aload_n 0, 1) := by decide +kernel
theorem dX5_opens_36 : decode cX5_opens 36 = .ok (.iload_n 1, 1) := by decide +kernel
theorem dX5_opens_37 : decode cX5_opens 37 = .ok (.putfield 24, 3) := by decide +kernel
theorem dX5_opens_40 : decode cX5_opens 40 = .ok (.aload_n 0, 1) := by decide +kernel
theorem dX5_opens_41 : decode cX5_opens 41 = .ok (.iconst 0, 1) := by decide +kernel
theorem dX5_opens_42 : decode cX5_opens 42 = .ok (.putfield 41, 3) := by decide +kernel
theorem dX5_opens_45 : decode cX5_opens 45 = .ok (.iload_n 2, 1) := by decide +kernel
theorem dX5_opens_46 : decode cX5_opens 46 = .ok (.ireturn, 1) := by decide +kernel
set_option maxRecDepth 20000 in
theorem ggX5_ends_X5_figuresDue : GoodIn wsX5_ends wsX5_figuresDue := goodIn_r _ [8, 3, 9, 10, 11, 12, 13, 14, 15, 16] (by decide +kernel) (by decide +kernel)
set_option maxRecDepth 20000 in
theorem gX5_ends_X5_figuresDue : GoodIn wsX5_ends (wsV RX5 44 RX5 yX5_figuresDue wsX5_figuresDue) := goodIn_app (goodIn_of _ (by decide +kernel)) ggX5_ends_X5_figuresDue
theorem dX5_ends_0 : decode cX5_ends 0 = .ok (.aload_n 0, 1) := by decide +kernel
theorem dX5_ends_1 : decode cX5_ends 1 = .ok (.getfield 41, 3) := by decide +kernel
theorem dX5_ends_4 : decode cX5_ends 4 = .ok (.aload_n 0, 1) := by decide +kernel
theorem dX5_ends_5 : decode cX5_ends 5 = .ok (.invokevirtual 44, 3) := by decide +kernel
theorem dX5_ends_8 : decode cX5_ends 8 = .ok (.if_icmp .ge 5, 3) := by decide +kernel
theorem dX5_ends_11 : decode cX5_ends 11 = .ok (.iconst 0, 1) := by decide +kernel
theorem dX5_ends_12 : decode cX5_ends 12 = .ok (.ireturn, 1) := by decide +kernel
theorem dX5_ends_13 : decode cX5_ends 13 = .ok (.aload_n 0, 1) := by decide +kernel
theorem dX5_ends_14 : decode cX5_ends 14 = .ok (.dup, 1) := by decide +kernel
theorem dX5_ends_15 : decode cX5_ends 15 = .ok (.getfield 20, 3) := by decide +kernel
theorem dX5_ends_18 : decode cX5_ends 18 = .ok (.iconst 1, 1) := by decide +kernel
theorem dX5_ends_19 : decode cX5_ends 19 = .ok (.iadd, 1) := by decide +kernel
theorem dX5_ends_20 : decode cX5_ends 20 = .ok (.putfield 20, 3) := by decide +kernel
theorem dX5_ends_23 : decode cX5_ends 23 = .ok (.aload_n 0, 1) := by decide +kernel
theorem dX5_ends_24 : decode cX5_ends 24 = .ok (.iconst 0, 1) := by decide +kernel
theorem dX5_ends_25 : decode cX5_ends 25 = .ok (.putfield 24, 3) := by decide +kernel
theorem dX5_ends_28 : decode cX5_ends 28 = .ok (.iconst 1, 1) := by decide +kernel
theorem dX5_ends_29 : decode cX5_ends 29 = .ok (.ireturn, 1) := by decide +kernel
theorem dX5_figuresDue_0 : decode cX5_figuresDue 0 = .ok (.aload_n 0, 1) := by decide +kernel
theorem dX5_figuresDue_1 : decode cX5_figuresDue 1 = .ok (.getfield 24, 3) := by decide +kernel
theorem dX5_figuresDue_4 : decode cX5_figuresDue 4 = .ok (.lookupswitch 52 #[(102, 28), (103, 44)], 28) := by decide +kernel
theorem dX5_figuresDue_32 : decode cX5_figuresDue 32 = .ok (.aload_n 0, 1) := by decide +kernel
theorem dX5_figuresDue_33 : decode cX5_figuresDue 33 = .ok (.getfield 10, 3) := by decide +kernel
theorem dX5_figuresDue_36 : decode cX5_figuresDue 36 = .ok (.getfield 48, 3) := by decide +kernel
theorem dX5_figuresDue_39 : decode cX5_figuresDue 39 = .ok (.aload_n 0, 1) := by decide +kernel
theorem dX5_figuresDue_40 : decode cX5_figuresDue 40 = .ok (.getfield 10, 3) := by decide +kernel
theorem dX5_figuresDue_43 : decode cX5_figuresDue 43 = .ok (.getfield 48, 3) := by decide +kernel
theorem dX5_figuresDue_46 : decode cX5_figuresDue 46 = .ok (.imul, 1) := by decide +kernel
theorem dX5_figuresDue_47 : decode cX5_figuresDue 47 = .ok (.ireturn, 1) := by decide +kernel
theorem dX5_figuresDue_48 : decode cX5_figuresDue 48 = .ok (.aload_n 0, 1) := by decide +kernel
theorem dX5_figuresDue_49 : decode cX5_figuresDue 49 = .ok (.getfield 10, 3) := by decide +kernel
theorem dX5_figuresDue_52 : decode cX5_figuresDue 52 = .ok (.getfield 48, 3) := by decide +kernel
theorem dX5_figuresDue_55 : decode cX5_figuresDue 55 = .ok (.ireturn, 1) := by decide +kernel
theorem dX5_figuresDue_56 : decode cX5_figuresDue 56 = .ok (.iconst 1, 1) := by decide +kernel
theorem dX5_figuresDue_57 : decode cX5_figuresDue 57 = .ok (.ireturn, 1) := by decide +kernel
set_option maxRecDepth 20000 in
theorem ggX5_takesFigure_X5_figuresDue : GoodIn wsX5_takesFigure wsX5_figuresDue := goodIn_r _ [7, 2, 8, 9, 49, 50, 51, 52, 53, 54] (by decide +kernel) (by decide +kernel)
set_option maxRecDepth 20000 in
theorem gX5_takesFigure_X5_figuresDue : GoodIn wsX5_takesFigure (wsV RX5 44 RX5 yX5_figuresDue wsX5_figuresDue) := goodIn_app (goodIn_of _ (by decide +kernel)) ggX5_takesFigure_X5_figuresDue
set_option maxRecDepth 20000 in
theorem ggX5_takesFigure_X5_takesSize : GoodIn wsX5_takesFigure wsX5_takesSize := goodIn_r _ [13, 8, 14, 15, 16, 17, 18, 19, 20, 21, 22, 23, 24, 25, 26, 49, 50, 51, 52, 53, 54] (by decide +kernel) (by decide +kernel)
set_option maxRecDepth 20000 in
theorem gX5_takesFigure_X5_takesSize : GoodIn wsX5_takesFigure (wsV RX5 51 RX5 yX5_takesSize wsX5_takesSize) := goodIn_app (goodIn_of _ (by decide +kernel)) ggX5_takesFigure_X5_takesSize
set_option maxRecDepth 20000 in
theorem ggX5_takesFigure_X5_takesValue : GoodIn wsX5_takesFigure wsX5_takesValue := goodIn_r _ [30, 8, 2, 1, 31, 32, 33, 17, 34, 19, 35, 25, 26, 36, 37, 38, 6, 39, 9, 40, 41, 42, 43, 44, 22, 23, 45, 46, 47, 48, 20, 49, 50, 51, 52, 53, 54] (by decide +kernel) (by decide +kernel)
set_option maxRecDepth 20000 in
theorem gX5_takesFigure_X5_takesValue : GoodIn wsX5_takesFigure (wsV RX5 54 RX5 yX5_takesValue wsX5_takesValue) := goodIn_app (goodIn_of _ (by decide +kernel)) ggX5_takesFigure_X5_takesValue
theorem dX5_takesFigure_0 : decode cX5_takesFigure 0 = .ok (.aload_n 0, 1) := by decide +kernel
theorem dX5_takesFigure_1 : decode cX5_takesFigure 1 = .ok (.getfield 41, 3) := by decide +kernel
theorem dX5_takesFigure_4 : decode cX5_takesFigure 4 = .ok (.aload_n 0, 1) := by decide +kernel
theorem dX5_takesFigure_5 : decode cX5_takesFigure 5 = .ok (.invokevirtual 44, 3) := by decide +kernel
theorem dX5_takesFigure_8 : decode cX5_takesFigure 8 = .ok (.if_icmp .lt 5, 3) := by decide +kernel
theorem dX5_takesFigure_11 : decode cX5_takesFigure 11 = .ok (.iconst 0, 1) := by decide +kernel
theorem dX5_takesFigure_12 : decode cX5_takesFigure 12 = .ok (.ireturn, 1) := by decide +kernel
theorem dX5_takesFigure_13 : decode cX5_takesFigure 13 = .ok (.aload_n 0, 1) := by decide +kernel
theorem dX5_takesFigure_14 : decode cX5_takesFigure 14 = .ok (.getfield 24, 3) := by decide +kernel
theorem dX5_takesFigure_17 : decode cX5_takesFigure 17 = .ok (.bipush 110, 2) := by decide +kernel
theorem dX5_takesFigure_19 : decode cX5_takesFigure 19 = .ok (.if_icmp .ne 11, 3) := by decide +kernel
theorem dX5_takesFigure_22 : decode cX5_takesFigure 22 = .ok (.aload_n 0, 1) := by decide +kernel
theorem dX5_takesFigure_23 : decode cX5_takesFigure 23 = .ok (.iload_n 1, 1) := by decide +kernel
theorem dX5_takesFigure_24 : decode cX5_takesFigure 24 = .ok (.invokevirtual 51, 3) := by decide +kernel
theorem dX5_takesFigure_27 : decode cX5_takesFigure 27 = .ok (.goto 8, 3) := by decide +kernel
theorem dX5_takesFigure_30 : decode cX5_takesFigure 30 = .ok (.aload_n 0, 1) := by decide +kernel
theorem dX5_takesFigure_31 : decode cX5_takesFigure 31 = .ok (.iload_n 1, 1) := by decide +kernel
theorem dX5_takesFigure_32 : decode cX5_takesFigure 32 = .ok (.invokevirtual 54, 3) := by decide +kernel
theorem dX5_takesFigure_35 : decode cX5_takesFigure 35 = .ok (.istore_n 2, 1) := by decide +kernel
theorem dX5_takesFigure_36 : decode cX5_takesFigure 36 = .ok (.iload_n 2, 1) := by decide +kernel
theorem dX5_takesFigure_37 : decode cX5_takesFigure 37 = .ok (.ifCond .eq 13, 3) := by decide +kernel
theorem dX5_takesFigure_40 : decode cX5_takesFigure 40 = .ok (.aload_n 0, 1) := by decide +kernel
theorem dX5_takesFigure_41 : decode cX5_takesFigure 41 = .ok (.dup, 1) := by decide +kernel
theorem dX5_takesFigure_42 : decode cX5_takesFigure 42 = .ok (.getfield 41, 3) := by decide +kernel
theorem dX5_takesFigure_45 : decode cX5_takesFigure 45 = .ok (.iconst 1, 1) := by decide +kernel
theorem dX5_takesFigure_46 : decode cX5_takesFigure 46 = .ok (.iadd, 1) := by decide +kernel
theorem dX5_takesFigure_47 : decode cX5_takesFigure 47 = .ok (.putfield 41, 3) := by decide +kernel
theorem dX5_takesFigure_50 : decode cX5_takesFigure 50 = .ok (.iload_n 2, 1) := by decide +kernel
theorem dX5_takesFigure_51 : decode cX5_takesFigure 51 = .ok (.ireturn, 1) := by decide +kernel
set_option maxRecDepth 20000 in
theorem ggX5_takesSize_X6_startOver : GoodIn wsX5_takesSize wsX6_startOver := goodIn_r _ [6, 7, 8, 9, 10, 5, 11, 12, 13, 14, 19, 20] (by decide +kernel) (by decide +kernel)
set_option maxRecDepth 20000 in
theorem gX5_takesSize_X6_startOver : GoodIn wsX5_takesSize (wsV RX5 16 RX6 yX6_startOver wsX6_startOver) := goodIn_app (goodIn_of _ (by decide +kernel)) ggX5_takesSize_X6_startOver
theorem dX5_takesSize_0 : decode cX5_takesSize 0 = .ok (.iload_n 1, 1) := by decide +kernel
theorem dX5_takesSize_1 : decode cX5_takesSize 1 = .ok (.iconst 1, 1) := by decide +kernel
theorem dX5_takesSize_2 : decode cX5_takesSize 2 = .ok (.if_icmp .lt 8, 3) := by decide +kernel
theorem dX5_takesSize_5 : decode cX5_takesSize 5 = .ok (.iload_n 1, 1) := by decide +kernel
theorem dX5_takesSize_6 : decode cX5_takesSize 6 = .ok (.iconst 4, 1) := by decide +kernel
theorem dX5_takesSize_7 : decode cX5_takesSize 7 = .ok (.if_icmp .le 5, 3) := by decide +kernel
theorem dX5_takesSize_10 : decode cX5_takesSize 10 = .ok (.iconst 0, 1) := by decide +kernel
theorem dX5_takesSize_11 : decode cX5_takesSize 11 = .ok (.ireturn, 1) := by decide +kernel
theorem dX5_takesSize_12 : decode cX5_takesSize 12 = .ok (.aload_n 0, 1) := by decide +kernel
theorem dX5_takesSize_13 : decode cX5_takesSize 13 = .ok (.getfield 10, 3) := by decide +kernel
theorem dX5_takesSize_16 : decode cX5_takesSize 16 = .ok (.iload_n 1, 1) := by decide +kernel
theorem dX5_takesSize_17 : decode cX5_takesSize 17 = .ok (.invokevirtual 16, 3) := by decide +kernel
theorem dX5_takesSize_20 : decode cX5_takesSize 20 = .ok (.iconst 1, 1) := by decide +kernel
theorem dX5_takesSize_21 : decode cX5_takesSize 21 = .ok (.ireturn, 1) := by decide +kernel
set_option maxRecDepth 20000 in
theorem ggX5_takesValue_X6_has : GoodIn wsX5_takesValue wsX6_has := goodIn_r _ [8, 9, 35, 36] (by decide +kernel) (by decide +kernel)
set_option maxRecDepth 20000 in
theorem gX5_takesValue_X6_has : GoodIn wsX5_takesValue (wsV RX5 57 RX6 yX6_has wsX6_has) := goodIn_app (goodIn_of _ (by decide +kernel)) ggX5_takesValue_X6_has
set_option maxRecDepth 20000 in
theorem ggX5_takesValue_X6_placeOfOne : GoodIn wsX5_takesValue wsX6_placeOfOne := goodIn_r _ [12] (by decide +kernel) (by decide +kernel)
set_option maxRecDepth 20000 in
theorem gX5_takesValue_X6_placeOfOne : GoodIn wsX5_takesValue (va_wsS RX5 60 yX6_placeOfOne wsX6_placeOfOne) := goodIn_app (goodIn_of _ (by decide +kernel)) ggX5_takesValue_X6_placeOfOne
set_option maxRecDepth 20000 in
theorem ggX5_takesValue_X5_placeOfFigure : GoodIn wsX5_takesValue wsX5_placeOfFigure := goodIn_r _ [17, 1, 18, 19, 20, 21, 22, 3, 23, 24, 7, 25, 31, 32, 33, 34, 35, 36] (by decide +kernel) (by decide +kernel)
set_option maxRecDepth 20000 in
theorem gX5_takesValue_X5_placeOfFigure : GoodIn wsX5_takesValue (wsV RX5 64 RX5 yX5_placeOfFigure wsX5_placeOfFigure) := goodIn_app (goodIn_of _ (by decide +kernel)) ggX5_takesValue_X5_placeOfFigure
set_option maxRecDepth 20000 in
theorem ggX5_takesValue_X6_put : GoodIn wsX5_takesValue wsX6_put := goodIn_r _ [29, 30, 35, 36] (by decide +kernel) (by decide +kernel)
set_option maxRecDepth 20000 in
theorem gX5_takesValue_X6_put : GoodIn wsX5_takesValue (wsV RX5 67 RX6 yX6_put wsX6_put) := goodIn_app (goodIn_of _ (by decide +kernel)) ggX5_takesValue_X6_put
theorem dX5_takesValue_0 : decode cX5_takesValue 0 = .ok (.aload_n 0, 1) := by decide +kernel
theorem dX5_takesValue_1 : decode cX5_takesValue 1 = .ok (.getfield 10, 3) := by decide +kernel
theorem dX5_takesValue_4 : decode cX5_takesValue 4 = .ok (.iload_n 1, 1) := by decide +kernel
theorem dX5_takesValue_5 : decode cX5_takesValue 5 = .ok (.invokevirtual 57, 3) := by decide +kernel
theorem dX5_takesValue_8 : decode cX5_takesValue 8 = .ok (.ifCond .ne 5, 3) := by decide +kernel
theorem dX5_takesValue_11 : decode cX5_takesValue 11 = .ok (.iconst 0, 1) := by decide +kernel
theorem dX5_takesValue_12 : decode cX5_takesValue 12 = .ok (.ireturn, 1) := by decide +kernel
theorem dX5_takesValue_13 : decode cX5_takesValue 13 = .ok (.aload_n 0, 1) := by decide +kernel
theorem dX5_takesValue_14 : decode cX5_takesValue 14 = .ok (.getfield 10, 3) := by decide +kernel
theorem dX5_takesValue_17 : decode cX5_takesValue 17 = .ok (.aload_n 0, 1) := by decide +kernel
theorem dX5_takesValue_18 : decode cX5_takesValue 18 = .ok (.getfield 24, 3) := by decide +kernel
theorem dX5_takesValue_21 : decode cX5_takesValue 21 = .ok (.bipush 103, 2) := by decide +kernel
theorem dX5_takesValue_23 : decode cX5_takesValue 23 = .ok (.if_icmp .ne 13, 3) := by decide +kernel
theorem dX5_takesValue_26 : decode cX5_takesValue 26 = .ok (.aload_n 0, 1) := by decide +kernel
theorem dX5_takesValue_27 : decode cX5_takesValue 27 = .ok (.getfield 41, 3) := by decide +kernel
theorem dX5_takesValue_30 : decode cX5_takesValue 30 = .ok (.invokestatic 60, 3) := by decide +kernel
theorem dX5_takesValue_33 : decode cX5_takesValue 33 = .ok (.goto 7, 3) := by decide +kernel
theorem dX5_takesValue_36 : decode cX5_takesValue 36 = .ok (.aload_n 0, 1) := by decide +kernel
theorem dX5_takesValue_37 : decode cX5_takesValue 37 = .ok (.invokevirtual 64, 3) := by decide +kernel
theorem dX5_takesValue_40 : decode cX5_takesValue 40 = .ok (.iload_n 1, 1) := by decide +kernel
theorem dX5_takesValue_41 : decode cX5_takesValue 41 = .ok (.invokevirtual 67, 3) := by decide +kernel
theorem dX5_takesValue_44 : decode cX5_takesValue 44 = .ok (.iconst 1, 1) := by decide +kernel
theorem dX5_takesValue_45 : decode cX5_takesValue 45 = .ok (.ireturn, 1) := by decide +kernel
set_option maxRecDepth 20000 in
theorem ggX5_placeOfFigure_X6_placeOfTwo : GoodIn wsX5_placeOfFigure wsX6_placeOfTwo := goodIn_r _ [11] (by decide +kernel) (by decide +kernel)
set_option maxRecDepth 20000 in
theorem gX5_placeOfFigure_X6_placeOfTwo : GoodIn wsX5_placeOfFigure (va_wsS RX5 77 yX6_placeOfTwo wsX6_placeOfTwo) := goodIn_app (goodIn_of _ (by decide +kernel)) ggX5_placeOfFigure_X6_placeOfTwo
theorem dX5_placeOfFigure_0 : decode cX5_placeOfFigure 0 = .ok (.iconst 1, 1) := by decide +kernel
theorem dX5_placeOfFigure_1 : decode cX5_placeOfFigure 1 = .ok (.aload_n 0, 1) := by decide +kernel
theorem dX5_placeOfFigure_2 : decode cX5_placeOfFigure 2 = .ok (.getfield 10, 3) := by decide +kernel
theorem dX5_placeOfFigure_5 : decode cX5_placeOfFigure 5 = .ok (.getfield 48, 3) := by decide +kernel
theorem dX5_placeOfFigure_8 : decode cX5_placeOfFigure 8 = .ok (.invokestatic 71, 3) := by decide +kernel
theorem dX5_placeOfFigure_11 : decode cX5_placeOfFigure 11 = .ok (.istore_n 1, 1) := by decide +kernel
theorem dX5_placeOfFigure_12 : decode cX5_placeOfFigure 12 = .ok (.aload_n 0, 1) := by decide +kernel
theorem dX5_placeOfFigure_13 : decode cX5_placeOfFigure 13 = .ok (.getfield 41, 3) := by decide +kernel
theorem dX5_placeOfFigure_16 : decode cX5_placeOfFigure 16 = .ok (.iload_n 1, 1) := by decide +kernel
theorem dX5_placeOfFigure_17 : decode cX5_placeOfFigure 17 = .ok (.idiv, 1) := by decide +kernel
theorem dX5_placeOfFigure_18 : decode cX5_placeOfFigure 18 = .ok (.aload_n 0, 1) := by decide +kernel
theorem dX5_placeOfFigure_19 : decode cX5_placeOfFigure 19 = .ok (.getfield 41, 3) := by decide +kernel
theorem dX5_placeOfFigure_22 : decode cX5_placeOfFigure 22 = .ok (.iload_n 1, 1) := by decide +kernel
theorem dX5_placeOfFigure_23 : decode cX5_placeOfFigure 23 = .ok (.irem, 1) := by decide +kernel
theorem dX5_placeOfFigure_24 : decode cX5_placeOfFigure 24 = .ok (.invokestatic 77, 3) := by decide +kernel
theorem dX5_placeOfFigure_27 : decode cX5_placeOfFigure 27 = .ok (.ireturn, 1) := by decide +kernel
theorem dX6_init_0 : decode cX6_init 0 = .ok (.aload_n 0, 1) := by decide +kernel
theorem dX6_init_1 : decode cX6_init 1 = .ok (.invokespecial 3, 3) := by decide +kernel
theorem dX6_init_4 : decode cX6_init 4 = .ok (.aload_n 0, 1) := by decide +kernel
theorem dX6_init_5 : decode cX6_init 5 = .ok (.bipush 20, 2) := by decide +kernel
theorem dX6_init_7 : decode cX6_init 7 = .ok (.newarray .int, 2) := by decide +kernel
theorem dX6_init_9 : decode cX6_init 9 = .ok (.putfield 9, 3) := by decide +kernel
theorem dX6_init_12 : decode cX6_init 12 = .ok (.return_, 1) := by decide +kernel
theorem dX6_placeOfTwo_0 : decode cX6_placeOfTwo 0 = .ok (.iload_n 0, 1) := by decide +kernel
theorem dX6_placeOfTwo_1 : decode cX6_placeOfTwo 1 = .ok (.iconst 3, 1) := by decide +kernel
theorem dX6_placeOfTwo_2 : decode cX6_placeOfTwo 2 = .ok (.iand, 1) := by decide +kernel
theorem dX6_placeOfTwo_3 : decode cX6_placeOfTwo 3 = .ok (.iconst 2, 1) := by decide +kernel
theorem dX6_placeOfTwo_4 : decode cX6_placeOfTwo 4 = .ok (.ishl, 1) := by decide +kernel
theorem dX6_placeOfTwo_5 : decode cX6_placeOfTwo 5 = .ok (.iload_n 1, 1) := by decide +kernel
theorem dX6_placeOfTwo_6 : decode cX6_placeOfTwo 6 = .ok (.iconst 3, 1) := by decide +kernel
theorem dX6_placeOfTwo_7 : decode cX6_placeOfTwo 7 = .ok (.iand, 1) := by decide +kernel
theorem dX6_placeOfTwo_8 : decode cX6_placeOfTwo 8 = .ok (.ior, 1) := by decide +kernel
theorem dX6_placeOfTwo_9 : decode cX6_placeOfTwo 9 = .ok (.ireturn, 1) := by decide +kernel
theorem dX6_placeOfOne_0 : decode cX6_placeOfOne 0 = .ok (.bipush 16, 2) := by decide +kernel
theorem dX6_placeOfOne_2 : decode cX6_placeOfOne 2 = .ok (.iload_n 0, 1) := by decide +kernel
theorem dX6_placeOfOne_3 : decode cX6_placeOfOne 3 = .ok (.iconst 3, 1) := by decide +kernel
theorem dX6_placeOfOne_4 : decode cX6_placeOfOne 4 = .ok (.iand, 1) := by decide +kernel
theorem dX6_placeOfOne_5 : decode cX6_placeOfOne 5 = .ok (.ior, 1) := by decide +kernel
theorem dX6_placeOfOne_6 : decode cX6_placeOfOne 6 = .ok (.ireturn, 1) := by decide +kernel
set_option maxRecDepth 20000 in
theorem ggX6_startOver_X6_placeOfTwo : GoodIn wsX6_startOver wsX6_placeOfTwo := goodIn_r _ [6] (by decide +kernel) (by decide +kernel)
set_option maxRecDepth 20000 in
theorem gX6_startOver_X6_placeOfTwo : GoodIn wsX6_startOver (va_wsS RX6 17 yX6_placeOfTwo wsX6_placeOfTwo) := goodIn_app (goodIn_of _ (by decide +kernel)) ggX6_startOver_X6_placeOfTwo
set_option maxRecDepth 20000 in
theorem ggX6_startOver_X6_placeOfOne : GoodIn wsX6_startOver wsX6_placeOfOne := goodIn_r _ [9] (by decide +kernel) (by decide +kernel)
set_option maxRecDepth 20000 in
theorem gX6_startOver_X6_placeOfOne : GoodIn wsX6_startOver (va_wsS RX6 21 yX6_placeOfOne wsX6_placeOfOne) := goodIn_app (goodIn_of _ (by decide +kernel)) ggX6_startOver_X6_placeOfOne
theorem dX6_startOver_0 : decode cX6_startOver 0 = .ok (.aload_n 0, 1) := by decide +kernel
theorem dX6_startOver_1 : decode cX6_startOver 1 = .ok (.iload_n 1, 1) := by decide +kernel
theorem dX6_startOver_2 : decode cX6_startOver 2 = .ok (.putfield 13, 3) := by decide +kernel
theorem dX6_startOver_5 : decode cX6_startOver 5 = .ok (.iconst 0, 1) := by decide +kernel
theorem dX6_startOver_6 : decode cX6_startOver 6 = .ok (.istore_n 2, 1) := by decide +kernel
theorem dX6_startOver_7 : decode cX6_startOver 7 = .ok (.iload_n 2, 1) := by decide +kernel
theorem dX6_startOver_8 : decode cX6_startOver 8 = .ok (.iconst 4, 1) := by decide +kernel
theorem dX6_startOver_9 : decode cX6_startOver 9 = .ok (.if_icmp .ge 43, 3) := by decide +kernel
theorem dX6_startOver_12 : decode cX6_startOver 12 = .ok (.iconst 0, 1) := by decide +kernel
theorem dX6_startOver_13 : decode cX6_startOver 13 = .ok (.istore_n 3, 1) := by decide +kernel
theorem dX6_startOver_14 : decode cX6_startOver 14 = .ok (.iload_n 3, 1) := by decide +kernel
theorem dX6_startOver_15 : decode cX6_startOver 15 = .ok (.iconst 4, 1) := by decide +kernel
theorem dX6_startOver_16 : decode cX6_startOver 16 = .ok (.if_icmp .ge 20, 3) := by decide +kernel
theorem dX6_startOver_19 : decode cX6_startOver 19 = .ok (.aload_n 0, 1) := by decide +kernel
theorem dX6_startOver_20 : decode cX6_startOver 20 = .ok (.getfield 9, 3) := by decide +kernel
theorem dX6_startOver_23 : decode cX6_startOver 23 = .ok (.iload_n 2, 1) := by decide +kernel
theorem dX6_startOver_24 : decode cX6_startOver 24 = .ok (.iload_n 3, 1) := by decide +kernel
theorem dX6_startOver_25 : decode cX6_startOver 25 = .ok (.invokestatic 17, 3) := by decide +kernel
theorem dX6_startOver_28 : decode cX6_startOver 28 = .ok (.iload_n 2, 1) := by decide +kernel
theorem dX6_startOver_29 : decode cX6_startOver 29 = .ok (.iastore, 1) := by decide +kernel
theorem dX6_startOver_30 : decode cX6_startOver 30 = .ok (.iinc 3 1, 3) := by decide +kernel
theorem dX6_startOver_33 : decode cX6_startOver 33 = .ok (.goto (-19), 3) := by decide +kernel
theorem dX6_startOver_36 : decode cX6_startOver 36 = .ok (.aload_n 0, 1) := by decide +kernel
theorem dX6_startOver_37 : decode cX6_startOver 37 = .ok (.getfield 9, 3) := by decide +kernel
theorem dX6_startOver_40 : decode cX6_startOver 40 = .ok (.iload_n 2, 1) := by decide +kernel
theorem dX6_startOver_41 : decode cX6_startOver 41 = .ok (.invokestatic 21, 3) := by decide +kernel
theorem dX6_startOver_44 : decode cX6_startOver 44 = .ok (.iload_n 2, 1) := by decide +kernel
theorem dX6_startOver_45 : decode cX6_startOver 45 = .ok (.iastore, 1) := by decide +kernel
theorem dX6_startOver_46 : decode cX6_startOver 46 = .ok (.iinc 2 1, 3) := by decide +kernel
theorem dX6_startOver_49 : decode cX6_startOver 49 = .ok (.goto (-42), 3) := by decide +kernel
theorem dX6_startOver_52 : decode cX6_startOver 52 = .ok (.return_, 1) := by decide +kernel
theorem dX6_has_0 : decode cX6_has 0 = .ok (.iload_n 1, 1) := by decide +kernel
theorem dX6_has_1 : decode cX6_has 1 = .ok (.ifCond .lt 15, 3) := by decide +kernel
theorem dX6_has_4 : decode cX6_has 4 = .ok (.iload_n 1, 1) := by decide +kernel
theorem dX6_has_5 : decode cX6_has 5 = .ok (.aload_n 0, 1) := by decide +kernel
theorem dX6_has_6 : decode cX6_has 6 = .ok (.getfield 13, 3) := by decide +kernel
theorem dX6_has_9 : decode cX6_has 9 = .ok (.if_icmp .ge 7, 3) := by decide +kernel
theorem dX6_has_12 : decode cX6_has 12 = .ok (.iconst 1, 1) := by decide +kernel
theorem dX6_has_13 : decode cX6_has 13 = .ok (.goto 4, 3) := by decide +kernel
theorem dX6_has_16 : decode cX6_has 16 = .ok (.iconst 0, 1) := by decide +kernel
theorem dX6_has_17 : decode cX6_has 17 = .ok (.ireturn, 1) := by decide +kernel
theorem dX6_allElements_0 : decode cX6_allElements 0 = .ok (.iconst 1, 1) := by decide +kernel
theorem dX6_allElements_1 : decode cX6_allElements 1 = .ok (.aload_n 0, 1) := by decide +kernel
theorem dX6_allElements_2 : decode cX6_allElements 2 = .ok (.getfield 13, 3) := by decide +kernel
theorem dX6_allElements_5 : decode cX6_allElements 5 = .ok (.ishl, 1) := by decide +kernel
theorem dX6_allElements_6 : decode cX6_allElements 6 = .ok (.iconst 1, 1) := by decide +kernel
theorem dX6_allElements_7 : decode cX6_allElements 7 = .ok (.isub, 1) := by decide +kernel
theorem dX6_allElements_8 : decode cX6_allElements 8 = .ok (.ireturn, 1) := by decide +kernel
set_option maxRecDepth 20000 in
theorem ggX6_two_X6_placeOfTwo : GoodIn wsX6_two wsX6_placeOfTwo := goodIn_r _ [5] (by decide +kernel) (by decide +kernel)
set_option maxRecDepth 20000 in
theorem gX6_two_X6_placeOfTwo : GoodIn wsX6_two (va_wsS RX6 17 yX6_placeOfTwo wsX6_placeOfTwo) := goodIn_app (goodIn_of _ (by decide +kernel)) ggX6_two_X6_placeOfTwo
theorem dX6_two_0 : decode cX6_two 0 = .ok (.aload_n 0, 1) := by decide +kernel
theorem dX6_two_1 : decode cX6_two 1 = .ok (.getfield 9, 3) := by decide +kernel
theorem dX6_two_4 : decode cX6_two 4 = .ok (.iload_n 1, 1) := by decide +kernel
theorem dX6_two_5 : decode cX6_two 5 = .ok (.iload_n 2, 1) := by decide +kernel
theorem dX6_two_6 : decode cX6_two 6 = .ok (.invokestatic 17, 3) := by decide +kernel
theorem dX6_two_9 : decode cX6_two 9 = .ok (.iaload, 1) := by decide +kernel
theorem dX6_two_10 : decode cX6_two 10 = .ok (.ireturn, 1) := by decide +kernel
set_option maxRecDepth 20000 in
theorem ggX6_one_X6_placeOfOne : GoodIn wsX6_one wsX6_placeOfOne := goodIn_r _ [5] (by decide +kernel) (by decide +kernel)
set_option maxRecDepth 20000 in
theorem gX6_one_X6_placeOfOne : GoodIn wsX6_one (va_wsS RX6 21 yX6_placeOfOne wsX6_placeOfOne) := goodIn_app (goodIn_of _ (by decide +kernel)) ggX6_one_X6_placeOfOne
theorem dX6_one_0 : decode cX6_one 0 = .ok (.aload_n 0, 1) := by decide +kernel
theorem dX6_one_1 : decode cX6_one 1 = .ok (.getfield 9, 3) := by decide +kernel
theorem dX6_one_4 : decode cX6_one 4 = .ok (.iload_n 1, 1) := by decide +kernel
theorem dX6_one_5 : decode cX6_one 5 = .ok (.invokestatic 21, 3) := by decide +kernel
theorem dX6_one_8 : decode cX6_one 8 = .ok (.iaload, 1) := by decide +kernel
theorem dX6_one_9 : decode cX6_one 9 = .ok (.ireturn, 1) := by decide +kernel
theorem dX6_at_0 : decode cX6_at 0 = .ok (.iload_n 1, 1) := by decide +kernel
theorem dX6_at_1 : decode cX6_at 1 = .ok (.ifCond .lt 18, 3) := by decide +kernel
theorem dX6_at_4 : decode cX6_at 4 = .ok (.iload_n 1, 1) := by decide +kernel
theorem dX6_at_5 : decode cX6_at 5 = .ok (.bipush 20, 2) := by decide +kernel
theorem dX6_at_7 : decode cX6_at 7 = .ok (.if_icmp .ge 12, 3) := by decide +kernel
theorem dX6_at_10 : decode cX6_at 10 = .ok (.aload_n 0, 1) := by decide +kernel
theorem dX6_at_11 : decode cX6_at 11 = .ok (.getfield 9, 3) := by decide +kernel
theorem dX6_at_14 : decode cX6_at 14 = .ok (.iload_n 1, 1) := by decide +kernel
theorem dX6_at_15 : decode cX6_at 15 = .ok (.iaload, 1) := by decide +kernel
theorem dX6_at_16 : decode cX6_at 16 = .ok (.goto 4, 3) := by decide +kernel
theorem dX6_at_19 : decode cX6_at 19 = .ok (.iconst 0, 1) := by decide +kernel
theorem dX6_at_20 : decode cX6_at 20 = .ok (.ireturn, 1) := by decide +kernel
theorem dX6_put_0 : decode cX6_put 0 = .ok (.iload_n 1, 1) := by decide +kernel
theorem dX6_put_1 : decode cX6_put 1 = .ok (.ifCond .lt 16, 3) := by decide +kernel
theorem dX6_put_4 : decode cX6_put 4 = .ok (.iload_n 1, 1) := by decide +kernel
theorem dX6_put_5 : decode cX6_put 5 = .ok (.bipush 20, 2) := by decide +kernel
theorem dX6_put_7 : decode cX6_put 7 = .ok (.if_icmp .ge 10, 3) := by decide +kernel
theorem dX6_put_10 : decode cX6_put 10 = .ok (.aload_n 0, 1) := by decide +kernel
theorem dX6_put_11 : decode cX6_put 11 = .ok (.getfield 9, 3) := by decide +kernel
theorem dX6_put_14 : decode cX6_put 14 = .ok (.iload_n 1, 1) := by decide +kernel
theorem dX6_put_15 : decode cX6_put 15 = .ok (.iload_n 2, 1) := by decide +kernel
theorem dX6_put_16 : decode cX6_put 16 = .ok (.iastore, 1) := by decide +kernel
theorem dX6_put_17 : decode cX6_put 17 = .ok (.return_, 1) := by decide +kernel
theorem dX6_copyFrom_0 : decode cX6_copyFrom 0 = .ok (.aload_n 0, 1) := by decide +kernel
theorem dX6_copyFrom_1 : decode cX6_copyFrom 1 = .ok (.aload_n 1, 1) := by decide +kernel
theorem dX6_copyFrom_2 : decode cX6_copyFrom 2 = .ok (.getfield 13, 3) := by decide +kernel
theorem dX6_copyFrom_5 : decode cX6_copyFrom 5 = .ok (.putfield 13, 3) := by decide +kernel
theorem dX6_copyFrom_8 : decode cX6_copyFrom 8 = .ok (.aload_n 1, 1) := by decide +kernel
theorem dX6_copyFrom_9 : decode cX6_copyFrom 9 = .ok (.getfield 9, 3) := by decide +kernel
theorem dX6_copyFrom_12 : decode cX6_copyFrom 12 = .ok (.iconst 0, 1) := by decide +kernel
theorem dX6_copyFrom_13 : decode cX6_copyFrom 13 = .ok (.aload_n 0, 1) := by decide +kernel
theorem dX6_copyFrom_14 : decode cX6_copyFrom 14 = .ok (.getfield 9, 3) := by decide +kernel
theorem dX6_copyFrom_17 : decode cX6_copyFrom 17 = .ok (.iconst 0, 1) := by decide +kernel
theorem dX6_copyFrom_18 : decode cX6_copyFrom 18 = .ok (.bipush 20, 2) := by decide +kernel
theorem dX6_copyFrom_20 : decode cX6_copyFrom 20 = .ok (.invokestatic 25, 3) := by decide +kernel
theorem dX6_copyFrom_23 : decode cX6_copyFrom 23 = .ok (.return_, 1) := by decide +kernel
theorem dX7_init_0 : decode cX7_init 0 = .ok (.aload_n 0, 1) := by decide +kernel
theorem dX7_init_1 : decode cX7_init 1 = .ok (.invokespecial 3, 3) := by decide +kernel
theorem dX7_init_4 : decode cX7_init 4 = .ok (.aload_n 0, 1) := by decide +kernel
theorem dX7_init_5 : decode cX7_init 5 = .ok (.sipush 200, 3) := by decide +kernel
theorem dX7_init_8 : decode cX7_init 8 = .ok (.newarray .long, 2) := by decide +kernel
theorem dX7_init_10 : decode cX7_init 10 = .ok (.putfield 9, 3) := by decide +kernel
theorem dX7_init_13 : decode cX7_init 13 = .ok (.aload_n 0, 1) := by decide +kernel
theorem dX7_init_14 : decode cX7_init 14 = .ok (.sipush 512, 3) := by decide +kernel
theorem dX7_init_17 : decode cX7_init 17 = .ok (.newarray .int, 2) := by decide +kernel
theorem dX7_init_19 : decode cX7_init 19 = .ok (.putfield 13, 3) := by decide +kernel
theorem dX7_init_22 : decode cX7_init 22 = .ok (.aload_n 0, 1) := by decide +kernel
theorem dX7_init_23 : decode cX7_init 23 = .ok (.iconst 4, 1) := by decide +kernel
theorem dX7_init_24 : decode cX7_init 24 = .ok (.newarray .int, 2) := by decide +kernel
theorem dX7_init_26 : decode cX7_init 26 = .ok (.putfield 19, 3) := by decide +kernel
theorem dX7_init_29 : decode cX7_init 29 = .ok (.aload_n 0, 1) := by decide +kernel
theorem dX7_init_30 : decode cX7_init 30 = .ok (.iconst 4, 1) := by decide +kernel
theorem dX7_init_31 : decode cX7_init 31 = .ok (.newarray .int, 2) := by decide +kernel
theorem dX7_init_33 : decode cX7_init 33 = .ok (.putfield 22, 3) := by decide +kernel
theorem dX7_init_36 : decode cX7_init 36 = .ok (.return_, 1) := by decide +kernel
set_option maxRecDepth 20000 in
theorem ggX7_makeFree_X7_startOver : GoodIn wsX7_makeFree wsX7_startOver := goodIn_r _ [8, 9, 10, 11, 12, 13, 14, 3, 15, 16, 17, 18, 19, 86, 87, 88, 89, 90, 91, 92, 93, 94, 95, 96, 97] (by decide +kernel) (by decide +kernel)
set_option maxRecDepth 20000 in
theorem gX7_makeFree_X7_startOver : GoodIn wsX7_makeFree (wsV RX7 25 RX7 yX7_startOver wsX7_startOver) := goodIn_app (goodIn_of _ (by decide +kernel)) ggX7_makeFree_X7_startOver
set_option maxRecDepth 20000 in
theorem ggX7_makeFree_X7_addWay : GoodIn wsX7_makeFree wsX7_addWay := goodIn_r _ [23, 12, 13, 14, 3, 15, 24, 25, 26, 7, 27, 28, 29, 30, 86, 87, 88, 89, 90, 91, 92, 93, 94, 95, 96, 97] (by decide +kernel) (by decide +kernel)
set_option maxRecDepth 20000 in
theorem gX7_makeFree_X7_addWay : GoodIn wsX7_makeFree (wsV RX7 32 RX7 yX7_addWay wsX7_addWay) := goodIn_app (goodIn_of _ (by decide +kernel)) ggX7_makeFree_X7_addWay
set_option maxRecDepth 20000 in
theorem ggX7_makeFree_X7_grow : GoodIn wsX7_makeFree wsX7_grow := goodIn_r _ [34, 12, 13, 14, 9, 11, 3, 35, 10, 36, 37, 38, 7, 39, 40, 41, 42, 43, 44, 45, 46, 47, 48, 49, 50, 51, 52, 53, 1, 54, 55, 56, 57, 58, 59, 15, 60, 61, 62, 63, 64, 65, 66, 67, 68, 69, 70, 71, 72, 73, 74, 75, 76, 77, 78, 79, 28, 29, 30, 80, 81, 82, 83, 86, 87, 88, 89, 90, 91, 92, 93, 94, 95, 96, 97, 84, 85] (by decide +kernel) (by decide +kernel)
set_option maxRecDepth 20000 in
theorem gX7_makeFree_X7_grow : GoodIn wsX7_makeFree (wsV RX7 42 RX7 yX7_grow wsX7_grow) := goodIn_app (goodIn_of _ (by decide +kernel)) ggX7_makeFree_X7_grow
theorem dX7_makeFree_0 : decode cX7_makeFree 0 = .ok (.aload_n 0, 1) := by decide +kernel
theorem dX7_makeFree_1 : decode cX7_makeFree 1 = .ok (.invokevirtual 25, 3) := by decide +kernel
theorem dX7_makeFree_4 : decode cX7_makeFree 4 = .ok (.iconst 0, 1) := by decide +kernel
theorem dX7_makeFree_5 : decode cX7_makeFree 5 = .ok (.istore_n 3, 1) := by decide +kernel
theorem dX7_makeFree_6 : decode cX7_makeFree 6 = .ok (.iload_n 3, 1) := by decide +kernel
theorem dX7_makeFree_7 : decode cX7_makeFree 7 = .ok (.aload_n 1, 1) := by decide +kernel
theorem dX7_makeFree_8 : decode cX7_makeFree 8 = .ok (.getfield 28, 3) := by decide +kernel
theorem dX7_makeFree_11 : decode cX7_makeFree 11 = .ok (.if_icmp .ge 36, 3) := by decide +kernel
theorem dX7_makeFree_14 : decode cX7_makeFree 14 = .ok (.iconst 0, 1) := by decide +kernel
theorem dX7_makeFree_15 : decode cX7_makeFree 15 = .ok (.istore 4, 2) := by decide +kernel
theorem dX7_makeFree_17 : decode cX7_makeFree 17 = .ok (.iload 4, 2) := by decide +kernel
theorem dX7_makeFree_19 : decode cX7_makeFree 19 = .ok (.aload_n 1, 1) := by decide +kernel
theorem dX7_makeFree_20 : decode cX7_makeFree 20 = .ok (.getfield 28, 3) := by decide +kernel
theorem dX7_makeFree_23 : decode cX7_makeFree 23 = .ok (.if_icmp .ge 18, 3) := by decide +kernel
theorem dX7_makeFree_26 : decode cX7_makeFree 26 = .ok (.aload_n 0, 1) := by decide +kernel
theorem dX7_makeFree_27 : decode cX7_makeFree 27 = .ok (.iload_n 3, 1) := by decide +kernel
theorem dX7_makeFree_28 : decode cX7_makeFree 28 = .ok (.iload 4, 2) := by decide +kernel
theorem dX7_makeFree_30 : decode cX7_makeFree 30 = .ok (.iconst 0, 1) := by decide +kernel
theorem dX7_makeFree_31 : decode cX7_makeFree 31 = .ok (.iconst 0, 1) := by decide +kernel
theorem dX7_makeFree_32 : decode cX7_makeFree 32 = .ok (.invokevirtual 32, 3) := by decide +kernel
theorem dX7_makeFree_35 : decode cX7_makeFree 35 = .ok (.iinc 4 1, 3) := by decide +kernel
theorem dX7_makeFree_38 : decode cX7_makeFree 38 = .ok (.goto (-21), 3) := by decide +kernel
theorem dX7_makeFree_41 : decode cX7_makeFree 41 = .ok (.iinc 3 1, 3) := by decide +kernel
theorem dX7_makeFree_44 : decode cX7_makeFree 44 = .ok (.goto (-38), 3) := by decide +kernel
theorem dX7_makeFree_47 : decode cX7_makeFree 47 = .ok (.aload_n 0, 1) := by decide +kernel
theorem dX7_makeFree_48 : decode cX7_makeFree 48 = .ok (.ldc2_w 36, 3) := by decide +kernel
theorem dX7_makeFree_51 : decode cX7_makeFree 51 = .ok (.putfield 38, 3) := by decide +kernel
theorem dX7_makeFree_54 : decode cX7_makeFree 54 = .ok (.aload_n 0, 1) := by decide +kernel
theorem dX7_makeFree_55 : decode cX7_makeFree 55 = .ok (.aload_n 1, 1) := by decide +kernel
theorem dX7_makeFree_56 : decode cX7_makeFree 56 = .ok (.iload_n 2, 1) := by decide +kernel
theorem dX7_makeFree_57 : decode cX7_makeFree 57 = .ok (.invokevirtual 42, 3) := by decide +kernel
theorem dX7_makeFree_60 : decode cX7_makeFree 60 = .ok (.ireturn, 1) := by decide +kernel
set_option maxRecDepth 20000 in
theorem ggX7_seekMaltsev_X7_startOver : GoodIn wsX7_seekMaltsev wsX7_startOver := goodIn_r _ [6, 7, 8, 9, 10, 11, 12, 13, 14, 15, 16, 17, 18, 85, 86, 87, 88, 89, 90, 91, 92, 93, 94, 95, 96] (by decide +kernel) (by decide +kernel)
set_option maxRecDepth 20000 in
theorem gX7_seekMaltsev_X7_startOver : GoodIn wsX7_seekMaltsev (wsV RX7 25 RX7 yX7_startOver wsX7_startOver) := goodIn_app (goodIn_of _ (by decide +kernel)) ggX7_seekMaltsev_X7_startOver
set_option maxRecDepth 20000 in
theorem ggX7_seekMaltsev_X7_addWay : GoodIn wsX7_seekMaltsev wsX7_addWay := goodIn_r _ [22, 10, 11, 12, 13, 14, 23, 24, 25, 5, 26, 27, 28, 29, 85, 86, 87, 88, 89, 90, 91, 92, 93, 94, 95, 96] (by decide +kernel) (by decide +kernel)
set_option maxRecDepth 20000 in
theorem gX7_seekMaltsev_X7_addWay : GoodIn wsX7_seekMaltsev (wsV RX7 32 RX7 yX7_addWay wsX7_addWay) := goodIn_app (goodIn_of _ (by decide +kernel)) ggX7_seekMaltsev_X7_addWay
set_option maxRecDepth 20000 in
theorem ggX7_seekMaltsev_X7_grow : GoodIn wsX7_seekMaltsev wsX7_grow := goodIn_r _ [33, 10, 11, 12, 7, 9, 13, 34, 8, 35, 36, 37, 5, 38, 39, 40, 41, 42, 43, 44, 45, 46, 47, 48, 49, 50, 51, 52, 1, 53, 54, 55, 56, 57, 58, 14, 59, 60, 61, 62, 63, 64, 65, 66, 67, 68, 69, 70, 71, 72, 73, 74, 75, 76, 77, 78, 27, 28, 29, 79, 80, 81, 82, 85, 86, 87, 88, 89, 90, 91, 92, 93, 94, 95, 96, 83, 84] (by decide +kernel) (by decide +kernel)
set_option maxRecDepth 20000 in
theorem gX7_seekMaltsev_X7_grow : GoodIn wsX7_seekMaltsev (wsV RX7 42 RX7 yX7_grow wsX7_grow) := goodIn_app (goodIn_of _ (by decide +kernel)) ggX7_seekMaltsev_X7_grow
theorem dX7_seekMaltsev_0 : decode cX7_seekMaltsev 0 = .ok (.aload_n 0, 1) := by decide +kernel
theorem dX7_seekMaltsev_1 : decode cX7_seekMaltsev 1 = .ok (.invokevirtual 25, 3) := by decide +kernel
theorem dX7_seekMaltsev_4 : decode cX7_seekMaltsev 4 = .ok (.iconst 0, 1) := by decide +kernel
theorem dX7_seekMaltsev_5 : decode cX7_seekMaltsev 5 = .ok (.istore_n 2, 1) := by decide +kernel
theorem dX7_seekMaltsev_6 : decode cX7_seekMaltsev 6 = .ok (.iload_n 2, 1) := by decide +kernel
theorem dX7_seekMaltsev_7 : decode cX7_seekMaltsev 7 = .ok (.aload_n 1, 1) := by decide +kernel
theorem dX7_seekMaltsev_8 : decode cX7_seekMaltsev 8 = .ok (.getfield 28, 3) := by decide +kernel
theorem dX7_seekMaltsev_11 : decode cX7_seekMaltsev 11 = .ok (.if_icmp .ge 41, 3) := by decide +kernel
theorem dX7_seekMaltsev_14 : decode cX7_seekMaltsev 14 = .ok (.iconst 0, 1) := by decide +kernel
theorem dX7_seekMaltsev_15 : decode cX7_seekMaltsev 15 = .ok (.istore_n 3, 1) := by decide +kernel
theorem dX7_seekMaltsev_16 : decode cX7_seekMaltsev 16 = .ok (.iload_n 3, 1) := by decide +kernel
theorem dX7_seekMaltsev_17 : decode cX7_seekMaltsev 17 = .ok (.aload_n 1, 1) := by decide +kernel
theorem dX7_seekMaltsev_18 : decode cX7_seekMaltsev 18 = .ok (.getfield 28, 3) := by decide +kernel
theorem dX7_seekMaltsev_21 : decode cX7_seekMaltsev 21 = .ok (.if_icmp .ge 25, 3) := by decide +kernel
theorem dX7_seekMaltsev_24 : decode cX7_seekMaltsev 24 = .ok (.aload_n 0, 1) := by decide +kernel
theorem dX7_seekMaltsev_25 : decode cX7_seekMaltsev 25 = .ok (.iload_n 2, 1) := by decide +kernel
theorem dX7_seekMaltsev_26 : decode cX7_seekMaltsev 26 = .ok (.iload_n 3, 1) := by decide +kernel
theorem dX7_seekMaltsev_27 : decode cX7_seekMaltsev 27 = .ok (.iload_n 3, 1) := by decide +kernel
theorem dX7_seekMaltsev_28 : decode cX7_seekMaltsev 28 = .ok (.iload_n 2, 1) := by decide +kernel
theorem dX7_seekMaltsev_29 : decode cX7_seekMaltsev 29 = .ok (.invokevirtual 32, 3) := by decide +kernel
theorem dX7_seekMaltsev_32 : decode cX7_seekMaltsev 32 = .ok (.aload_n 0, 1) := by decide +kernel
theorem dX7_seekMaltsev_33 : decode cX7_seekMaltsev 33 = .ok (.iload_n 2, 1) := by decide +kernel
theorem dX7_seekMaltsev_34 : decode cX7_seekMaltsev 34 = .ok (.iload_n 2, 1) := by decide +kernel
theorem dX7_seekMaltsev_35 : decode cX7_seekMaltsev 35 = .ok (.iload_n 3, 1) := by decide +kernel
theorem dX7_seekMaltsev_36 : decode cX7_seekMaltsev 36 = .ok (.iload_n 3, 1) := by decide +kernel
theorem dX7_seekMaltsev_37 : decode cX7_seekMaltsev 37 = .ok (.invokevirtual 32, 3) := by decide +kernel
theorem dX7_seekMaltsev_40 : decode cX7_seekMaltsev 40 = .ok (.iinc 3 1, 3) := by decide +kernel
theorem dX7_seekMaltsev_43 : decode cX7_seekMaltsev 43 = .ok (.goto (-27), 3) := by decide +kernel
theorem dX7_seekMaltsev_46 : decode cX7_seekMaltsev 46 = .ok (.iinc 2 1, 3) := by decide +kernel
theorem dX7_seekMaltsev_49 : decode cX7_seekMaltsev 49 = .ok (.goto (-43), 3) := by decide +kernel
theorem dX7_seekMaltsev_52 : decode cX7_seekMaltsev 52 = .ok (.aload_n 0, 1) := by decide +kernel
theorem dX7_seekMaltsev_53 : decode cX7_seekMaltsev 53 = .ok (.aload_n 1, 1) := by decide +kernel
theorem dX7_seekMaltsev_54 : decode cX7_seekMaltsev 54 = .ok (.iconst 3, 1) := by decide +kernel
theorem dX7_seekMaltsev_55 : decode cX7_seekMaltsev 55 = .ok (.invokevirtual 42, 3) := by decide +kernel
theorem dX7_seekMaltsev_58 : decode cX7_seekMaltsev 58 = .ok (.ireturn, 1) := by decide +kernel
set_option maxRecDepth 20000 in
theorem ggX7_seekMajority_X7_startOver : GoodIn wsX7_seekMajority wsX7_startOver := goodIn_r _ [6, 7, 8, 9, 10, 11, 12, 13, 14, 15, 16, 17, 18, 85, 86, 87, 88, 89, 90, 91, 92, 93, 94, 95, 96] (by decide +kernel) (by decide +kernel)
set_option maxRecDepth 20000 in
theorem gX7_seekMajority_X7_startOver : GoodIn wsX7_seekMajority (wsV RX7 25 RX7 yX7_startOver wsX7_startOver) := goodIn_app (goodIn_of _ (by decide +kernel)) ggX7_seekMajority_X7_startOver
set_option maxRecDepth 20000 in
theorem ggX7_seekMajority_X7_addWay : GoodIn wsX7_seekMajority wsX7_addWay := goodIn_r _ [22, 10, 11, 12, 13, 14, 23, 24, 25, 5, 26, 27, 28, 29, 85, 86, 87, 88, 89, 90, 91, 92, 93, 94, 95, 96] (by decide +kernel) (by decide +kernel)
set_option maxRecDepth 20000 in
theorem gX7_seekMajority_X7_addWay : GoodIn wsX7_seekMajority (wsV RX7 32 RX7 yX7_addWay wsX7_addWay) := goodIn_app (goodIn_of _ (by decide +kernel)) ggX7_seekMajority_X7_addWay
set_option maxRecDepth 20000 in
theorem ggX7_seekMajority_X7_grow : GoodIn wsX7_seekMajority wsX7_grow := goodIn_r _ [33, 10, 11, 12, 7, 9, 13, 34, 8, 35, 36, 37, 5, 38, 39, 40, 41, 42, 43, 44, 45, 46, 47, 48, 49, 50, 51, 52, 1, 53, 54, 55, 56, 57, 58, 14, 59, 60, 61, 62, 63, 64, 65, 66, 67, 68, 69, 70, 71, 72, 73, 74, 75, 76, 77, 78, 27, 28, 29, 79, 80, 81, 82, 85, 86, 87, 88, 89, 90, 91, 92, 93, 94, 95, 96, 83, 84] (by decide +kernel) (by decide +kernel)
set_option maxRecDepth 20000 in
theorem gX7_seekMajority_X7_grow : GoodIn wsX7_seekMajority (wsV RX7 42 RX7 yX7_grow wsX7_grow) := goodIn_app (goodIn_of _ (by decide +kernel)) ggX7_seekMajority_X7_grow
theorem dX7_seekMajority_0 : decode cX7_seekMajority 0 = .ok (.aload_n 0, 1) := by decide +kernel
theorem dX7_seekMajority_1 : decode cX7_seekMajority 1 = .ok (.invokevirtual 25, 3) := by decide +kernel
theorem dX7_seekMajority_4 : decode cX7_seekMajority 4 = .ok (.iconst 0, 1) := by decide +kernel
theorem dX7_seekMajority_5 : decode cX7_seekMajority 5 = .ok (.istore_n 2, 1) := by decide +kernel
theorem dX7_seekMajority_6 : decode cX7_seekMajority 6 = .ok (.iload_n 2, 1) := by decide +kernel
theorem dX7_seekMajority_7 : decode cX7_seekMajority 7 = .ok (.aload_n 1, 1) := by decide +kernel
theorem dX7_seekMajority_8 : decode cX7_seekMajority 8 = .ok (.getfield 28, 3) := by decide +kernel
theorem dX7_seekMajority_11 : decode cX7_seekMajority 11 = .ok (.if_icmp .ge 49, 3) := by decide +kernel
theorem dX7_seekMajority_14 : decode cX7_seekMajority 14 = .ok (.iconst 0, 1) := by decide +kernel
theorem dX7_seekMajority_15 : decode cX7_seekMajority 15 = .ok (.istore_n 3, 1) := by decide +kernel
theorem dX7_seekMajority_16 : decode cX7_seekMajority 16 = .ok (.iload_n 3, 1) := by decide +kernel
theorem dX7_seekMajority_17 : decode cX7_seekMajority 17 = .ok (.aload_n 1, 1) := by decide +kernel
theorem dX7_seekMajority_18 : decode cX7_seekMajority 18 = .ok (.getfield 28, 3) := by decide +kernel
theorem dX7_seekMajority_21 : decode cX7_seekMajority 21 = .ok (.if_icmp .ge 33, 3) := by decide +kernel
theorem dX7_seekMajority_24 : decode cX7_seekMajority 24 = .ok (.aload_n 0, 1) := by decide +kernel
theorem dX7_seekMajority_25 : decode cX7_seekMajority 25 = .ok (.iload_n 2, 1) := by decide +kernel
theorem dX7_seekMajority_26 : decode cX7_seekMajority 26 = .ok (.iload_n 2, 1) := by decide +kernel
theorem dX7_seekMajority_27 : decode cX7_seekMajority 27 = .ok (.iload_n 3, 1) := by decide +kernel
theorem dX7_seekMajority_28 : decode cX7_seekMajority 28 = .ok (.iload_n 2, 1) := by decide +kernel
theorem dX7_seekMajority_29 : decode cX7_seekMajority 29 = .ok (.invokevirtual 32, 3) := by decide +kernel
theorem dX7_seekMajority_32 : decode cX7_seekMajority 32 = .ok (.aload_n 0, 1) := by decide +kernel
theorem dX7_seekMajority_33 : decode cX7_seekMajority 33 = .ok (.iload_n 2, 1) := by decide +kernel
theorem dX7_seekMajority_34 : decode cX7_seekMajority 34 = .ok (.iload_n 3, 1) := by decide +kernel
theorem dX7_seekMajority_35 : decode cX7_seekMajority 35 = .ok (.iload_n 2, 1) := by decide +kernel
theorem dX7_seekMajority_36 : decode cX7_seekMajority 36 = .ok (.iload_n 2, 1) := by decide +kernel
theorem dX7_seekMajority_37 : decode cX7_seekMajority 37 = .ok (.invokevirtual 32, 3) := by decide +kernel
theorem dX7_seekMajority_40 : decode cX7_seekMajority 40 = .ok (.aload_n 0, 1) := by decide +kernel
theorem dX7_seekMajority_41 : decode cX7_seekMajority 41 = .ok (.iload_n 3, 1) := by decide +kernel
theorem dX7_seekMajority_42 : decode cX7_seekMajority 42 = .ok (.iload_n 2, 1) := by decide +kernel
theorem dX7_seekMajority_43 : decode cX7_seekMajority 43 = .ok (.iload_n 2, 1) := by decide +kernel
theorem dX7_seekMajority_44 : decode cX7_seekMajority 44 = .ok (.iload_n 2, 1) := by decide +kernel
theorem dX7_seekMajority_45 : decode cX7_seekMajority 45 = .ok (.invokevirtual 32, 3) := by decide +kernel
theorem dX7_seekMajority_48 : decode cX7_seekMajority 48 = .ok (.iinc 3 1, 3) := by decide +kernel
theorem dX7_seekMajority_51 : decode cX7_seekMajority 51 = .ok (.goto (-35), 3) := by decide +kernel
theorem dX7_seekMajority_54 : decode cX7_seekMajority 54 = .ok (.iinc 2 1, 3) := by decide +kernel
theorem dX7_seekMajority_57 : decode cX7_seekMajority 57 = .ok (.goto (-51), 3) := by decide +kernel
theorem dX7_seekMajority_60 : decode cX7_seekMajority 60 = .ok (.aload_n 0, 1) := by decide +kernel
theorem dX7_seekMajority_61 : decode cX7_seekMajority 61 = .ok (.aload_n 1, 1) := by decide +kernel
theorem dX7_seekMajority_62 : decode cX7_seekMajority 62 = .ok (.iconst 3, 1) := by decide +kernel
theorem dX7_seekMajority_63 : decode cX7_seekMajority 63 = .ok (.invokevirtual 42, 3) := by decide +kernel
theorem dX7_seekMajority_66 : decode cX7_seekMajority 66 = .ok (.ireturn, 1) := by decide +kernel
set_option maxRecDepth 20000 in
theorem ggX7_startOver_J7_fill_53178 : GoodIn wsX7_startOver wsJ7_fill_53178 := goodIn_r _ [12] (by decide +kernel) (by decide +kernel)
set_option maxRecDepth 20000 in
theorem gX7_startOver_J7_fill_53178 : GoodIn wsX7_startOver (va_wsS RX7 52 yJ7_fill_53178 wsJ7_fill_53178) := goodIn_app (goodIn_of _ (by decide +kernel)) ggX7_startOver_J7_fill_53178
theorem dX7_startOver_0 : decode cX7_startOver 0 = .ok (.aload_n 0, 1) := by decide +kernel
theorem dX7_startOver_1 : decode cX7_startOver 1 = .ok (.iconst 0, 1) := by decide +kernel
theorem dX7_startOver_2 : decode cX7_startOver 2 = .ok (.putfield 46, 3) := by decide +kernel
theorem dX7_startOver_5 : decode cX7_startOver 5 = .ok (.aload_n 0, 1) := by decide +kernel
theorem dX7_startOver_6 : decode cX7_startOver 6 = .ok (.iconst 0, 1) := by decide +kernel
theorem dX7_startOver_7 : decode cX7_startOver 7 = .ok (.putfield 49, 3) := by decide +kernel
theorem dX7_startOver_10 : decode cX7_startOver 10 = .ok (.aload_n 0, 1) := by decide +kernel
theorem dX7_startOver_11 : decode cX7_startOver 11 = .ok (.getfield 13, 3) := by decide +kernel
theorem dX7_startOver_14 : decode cX7_startOver 14 = .ok (.iconst 0, 1) := by decide +kernel
theorem dX7_startOver_15 : decode cX7_startOver 15 = .ok (.invokestatic 52, 3) := by decide +kernel
theorem dX7_startOver_18 : decode cX7_startOver 18 = .ok (.aload_n 0, 1) := by decide +kernel
theorem dX7_startOver_19 : decode cX7_startOver 19 = .ok (.lconst 0, 1) := by decide +kernel
theorem dX7_startOver_20 : decode cX7_startOver 20 = .ok (.putfield 58, 3) := by decide +kernel
theorem dX7_startOver_23 : decode cX7_startOver 23 = .ok (.aload_n 0, 1) := by decide +kernel
theorem dX7_startOver_24 : decode cX7_startOver 24 = .ok (.lconst 0, 1) := by decide +kernel
theorem dX7_startOver_25 : decode cX7_startOver 25 = .ok (.putfield 61, 3) := by decide +kernel
theorem dX7_startOver_28 : decode cX7_startOver 28 = .ok (.aload_n 0, 1) := by decide +kernel
theorem dX7_startOver_29 : decode cX7_startOver 29 = .ok (.lconst 0, 1) := by decide +kernel
theorem dX7_startOver_30 : decode cX7_startOver 30 = .ok (.putfield 64, 3) := by decide +kernel
theorem dX7_startOver_33 : decode cX7_startOver 33 = .ok (.aload_n 0, 1) := by decide +kernel
theorem dX7_startOver_34 : decode cX7_startOver 34 = .ok (.lconst 0, 1) := by decide +kernel
theorem dX7_startOver_35 : decode cX7_startOver 35 = .ok (.putfield 38, 3) := by decide +kernel
theorem dX7_startOver_38 : decode cX7_startOver 38 = .ok (.aload_n 0, 1) := by decide +kernel
theorem dX7_startOver_39 : decode cX7_startOver 39 = .ok (.iconst 0, 1) := by decide +kernel
theorem dX7_startOver_40 : decode cX7_startOver 40 = .ok (.putfield 67, 3) := by decide +kernel
theorem dX7_startOver_43 : decode cX7_startOver 43 = .ok (.return_, 1) := by decide +kernel
set_option maxRecDepth 20000 in
theorem ggX7_addWay_X7_valueHere : GoodIn wsX7_addWay wsX7_valueHere := goodIn_r _ [10, 5, 11, 12, 9, 13, 14, 15, 16, 17, 18, 19, 20, 21, 22, 23, 24, 25] (by decide +kernel) (by decide +kernel)
set_option maxRecDepth 20000 in
theorem gX7_addWay_X7_valueHere : GoodIn wsX7_addWay (wsV RX7 70 RX7 yX7_valueHere wsX7_valueHere) := goodIn_app (goodIn_of _ (by decide +kernel)) ggX7_addWay_X7_valueHere
theorem dX7_addWay_0 : decode cX7_addWay 0 = .ok (.aload_n 0, 1) := by decide +kernel
theorem dX7_addWay_1 : decode cX7_addWay 1 = .ok (.dup, 1) := by decide +kernel
theorem dX7_addWay_2 : decode cX7_addWay 2 = .ok (.getfield 58, 3) := by decide +kernel
theorem dX7_addWay_5 : decode cX7_addWay 5 = .ok (.aload_n 0, 1) := by decide +kernel
theorem dX7_addWay_6 : decode cX7_addWay 6 = .ok (.iload_n 1, 1) := by decide +kernel
theorem dX7_addWay_7 : decode cX7_addWay 7 = .ok (.invokevirtual 70, 3) := by decide +kernel
theorem dX7_addWay_10 : decode cX7_addWay 10 = .ok (.lor, 1) := by decide +kernel
theorem dX7_addWay_11 : decode cX7_addWay 11 = .ok (.putfield 58, 3) := by decide +kernel
theorem dX7_addWay_14 : decode cX7_addWay 14 = .ok (.aload_n 0, 1) := by decide +kernel
theorem dX7_addWay_15 : decode cX7_addWay 15 = .ok (.dup, 1) := by decide +kernel
theorem dX7_addWay_16 : decode cX7_addWay 16 = .ok (.getfield 61, 3) := by decide +kernel
theorem dX7_addWay_19 : decode cX7_addWay 19 = .ok (.aload_n 0, 1) := by decide +kernel
theorem dX7_addWay_20 : decode cX7_addWay 20 = .ok (.iload_n 2, 1) := by decide +kernel
theorem dX7_addWay_21 : decode cX7_addWay 21 = .ok (.invokevirtual 70, 3) := by decide +kernel
theorem dX7_addWay_24 : decode cX7_addWay 24 = .ok (.lor, 1) := by decide +kernel
theorem dX7_addWay_25 : decode cX7_addWay 25 = .ok (.putfield 61, 3) := by decide +kernel
theorem dX7_addWay_28 : decode cX7_addWay 28 = .ok (.aload_n 0, 1) := by decide +kernel
theorem dX7_addWay_29 : decode cX7_addWay 29 = .ok (.dup, 1) := by decide +kernel
theorem dX7_addWay_30 : decode cX7_addWay 30 = .ok (.getfield 64, 3) := by decide +kernel
theorem dX7_addWay_33 : decode cX7_addWay 33 = .ok (.aload_n 0, 1) := by decide +kernel
theorem dX7_addWay_34 : decode cX7_addWay 34 = .ok (.iload_n 3, 1) := by decide +kernel
theorem dX7_addWay_35 : decode cX7_addWay 35 = .ok (.invokevirtual 70, 3) := by decide +kernel
theorem dX7_addWay_38 : decode cX7_addWay 38 = .ok (.lor, 1) := by decide +kernel
theorem dX7_addWay_39 : decode cX7_addWay 39 = .ok (.putfield 64, 3) := by decide +kernel
theorem dX7_addWay_42 : decode cX7_addWay 42 = .ok (.aload_n 0, 1) := by decide +kernel
theorem dX7_addWay_43 : decode cX7_addWay 43 = .ok (.dup, 1) := by decide +kernel
theorem dX7_addWay_44 : decode cX7_addWay 44 = .ok (.getfield 38, 3) := by decide +kernel
theorem dX7_addWay_47 : decode cX7_addWay 47 = .ok (.aload_n 0, 1) := by decide +kernel
theorem dX7_addWay_48 : decode cX7_addWay 48 = .ok (.iload 4, 2) := by decide +kernel
theorem dX7_addWay_50 : decode cX7_addWay 50 = .ok (.invokevirtual 70, 3) := by decide +kernel
theorem dX7_addWay_53 : decode cX7_addWay 53 = .ok (.lor, 1) := by decide +kernel
theorem dX7_addWay_54 : decode cX7_addWay 54 = .ok (.putfield 38, 3) := by decide +kernel
theorem dX7_addWay_57 : decode cX7_addWay 57 = .ok (.aload_n 0, 1) := by decide +kernel
theorem dX7_addWay_58 : decode cX7_addWay 58 = .ok (.dup, 1) := by decide +kernel
theorem dX7_addWay_59 : decode cX7_addWay 59 = .ok (.getfield 67, 3) := by decide +kernel
theorem dX7_addWay_62 : decode cX7_addWay 62 = .ok (.iconst 1, 1) := by decide +kernel
theorem dX7_addWay_63 : decode cX7_addWay 63 = .ok (.iadd, 1) := by decide +kernel
theorem dX7_addWay_64 : decode cX7_addWay 64 = .ok (.putfield 67, 3) := by decide +kernel
theorem dX7_addWay_67 : decode cX7_addWay 67 = .ok (.return_, 1) := by decide +kernel
set_option maxRecDepth 20000 in
theorem ggX7_valueHere_X7_joined : GoodIn wsX7_valueHere wsX7_joined := goodIn_r _ [5] (by decide +kernel) (by decide +kernel)
set_option maxRecDepth 20000 in
theorem gX7_valueHere_X7_joined : GoodIn wsX7_valueHere (va_wsS RX7 74 yX7_joined wsX7_joined) := goodIn_app (goodIn_of _ (by decide +kernel)) ggX7_valueHere_X7_joined
theorem dX7_valueHere_0 : decode cX7_valueHere 0 = .ok (.iload_n 1, 1) := by decide +kernel
theorem dX7_valueHere_1 : decode cX7_valueHere 1 = .ok (.iconst 1, 1) := by decide +kernel
theorem dX7_valueHere_2 : decode cX7_valueHere 2 = .ok (.iand, 1) := by decide +kernel
theorem dX7_valueHere_3 : decode cX7_valueHere 3 = .ok (.aload_n 0, 1) := by decide +kernel
theorem dX7_valueHere_4 : decode cX7_valueHere 4 = .ok (.getfield 67, 3) := by decide +kernel
theorem dX7_valueHere_7 : decode cX7_valueHere 7 = .ok (.ishl, 1) := by decide +kernel
theorem dX7_valueHere_8 : decode cX7_valueHere 8 = .ok (.iload_n 1, 1) := by decide +kernel
theorem dX7_valueHere_9 : decode cX7_valueHere 9 = .ok (.iconst 1, 1) := by decide +kernel
theorem dX7_valueHere_10 : decode cX7_valueHere 10 = .ok (.ishr, 1) := by decide +kernel
theorem dX7_valueHere_11 : decode cX7_valueHere 11 = .ok (.iconst 1, 1) := by decide +kernel
theorem dX7_valueHere_12 : decode cX7_valueHere 12 = .ok (.iand, 1) := by decide +kernel
theorem dX7_valueHere_13 : decode cX7_valueHere 13 = .ok (.aload_n 0, 1) := by decide +kernel
theorem dX7_valueHere_14 : decode cX7_valueHere 14 = .ok (.getfield 67, 3) := by decide +kernel
theorem dX7_valueHere_17 : decode cX7_valueHere 17 = .ok (.ishl, 1) := by decide +kernel
theorem dX7_valueHere_18 : decode cX7_valueHere 18 = .ok (.invokestatic 74, 3) := by decide +kernel
theorem dX7_valueHere_21 : decode cX7_valueHere 21 = .ok (.lreturn, 1) := by decide +kernel
set_option maxRecDepth 20000 in
theorem ggX7_grow_X7_add : GoodIn wsX7_grow wsX7_add := goodIn_r _ [13, 5, 4, 14, 15, 16, 17, 12, 18, 19, 63, 64, 65, 66, 67, 68, 69, 70, 71, 72, 73, 74] (by decide +kernel) (by decide +kernel)
set_option maxRecDepth 20000 in
theorem gX7_grow_X7_add : GoodIn wsX7_grow (wsV RX7 78 RX7 yX7_add wsX7_add) := goodIn_app (goodIn_of _ (by decide +kernel)) ggX7_grow_X7_add
set_option maxRecDepth 20000 in
theorem ggX7_grow_X7_slotOf : GoodIn wsX7_grow wsX7_slotOf := goodIn_r _ [18, 19, 5, 14, 63, 64, 65, 66, 67, 68, 69, 70, 71, 72, 73, 74] (by decide +kernel) (by decide +kernel)
set_option maxRecDepth 20000 in
theorem gX7_grow_X7_slotOf : GoodIn wsX7_grow (wsV RX7 82 RX7 yX7_slotOf wsX7_slotOf) := goodIn_app (goodIn_of _ (by decide +kernel)) ggX7_grow_X7_slotOf
set_option maxRecDepth 20000 in
theorem ggX7_grow_X7_makeRound : GoodIn wsX7_grow wsX7_makeRound := goodIn_r _ [23, 4, 14, 24, 25, 26, 12, 27, 28, 29, 30, 31, 32, 33, 34, 35, 36, 37, 38, 39, 40, 41, 42, 43, 44, 45, 46, 47, 48, 49, 50, 51, 52, 53, 54, 55, 56, 57, 58, 9, 10, 11, 13, 5, 15, 16, 17, 18, 19, 59, 60, 61, 62, 63, 64, 65, 66, 67, 68, 69, 70, 71, 72, 73, 74, 75, 76] (by decide +kernel) (by decide +kernel)
set_option maxRecDepth 20000 in
theorem gX7_grow_X7_makeRound : GoodIn wsX7_grow (wsV RX7 90 RX7 yX7_makeRound wsX7_makeRound) := goodIn_app (goodIn_of _ (by decide +kernel)) ggX7_grow_X7_makeRound
theorem dX7_grow_0 : decode cX7_grow 0 = .ok (.aload_n 0, 1) := by decide +kernel
theorem dX7_grow_1 : decode cX7_grow 1 = .ok (.aload_n 0, 1) := by decide +kernel
theorem dX7_grow_2 : decode cX7_grow 2 = .ok (.getfield 58, 3) := by decide +kernel
theorem dX7_grow_5 : decode cX7_grow 5 = .ok (.invokevirtual 78, 3) := by decide +kernel
theorem dX7_grow_8 : decode cX7_grow 8 = .ok (.pop, 1) := by decide +kernel
theorem dX7_grow_9 : decode cX7_grow 9 = .ok (.iload_n 2, 1) := by decide +kernel
theorem dX7_grow_10 : decode cX7_grow 10 = .ok (.iconst 1, 1) := by decide +kernel
theorem dX7_grow_11 : decode cX7_grow 11 = .ok (.if_icmp .le 12, 3) := by decide +kernel
theorem dX7_grow_14 : decode cX7_grow 14 = .ok (.aload_n 0, 1) := by decide +kernel
theorem dX7_grow_15 : decode cX7_grow 15 = .ok (.aload_n 0, 1) := by decide +kernel
theorem dX7_grow_16 : decode cX7_grow 16 = .ok (.getfield 61, 3) := by decide +kernel
theorem dX7_grow_19 : decode cX7_grow 19 = .ok (.invokevirtual 78, 3) := by decide +kernel
theorem dX7_grow_22 : decode cX7_grow 22 = .ok (.pop, 1) := by decide +kernel
theorem dX7_grow_23 : decode cX7_grow 23 = .ok (.iload_n 2, 1) := by decide +kernel
theorem dX7_grow_24 : decode cX7_grow 24 = .ok (.iconst 2, 1) := by decide +kernel
theorem dX7_grow_25 : decode cX7_grow 25 = .ok (.if_icmp .le 12, 3) := by decide +kernel
theorem dX7_grow_28 : decode cX7_grow 28 = .ok (.aload_n 0, 1) := by decide +kernel
theorem dX7_grow_29 : decode cX7_grow 29 = .ok (.aload_n 0, 1) := by decide +kernel
theorem dX7_grow_30 : decode cX7_grow 30 = .ok (.getfield 64, 3) := by decide +kernel
theorem dX7_grow_33 : decode cX7_grow 33 = .ok (.invokevirtual 78, 3) := by decide +kernel
theorem dX7_grow_36 : decode cX7_grow 36 = .ok (.pop, 1) := by decide +kernel
theorem dX7_grow_37 : decode cX7_grow 37 = .ok (.iconst 0, 1) := by decide +kernel
theorem dX7_grow_38 : decode cX7_grow 38 = .ok (.istore_n 3, 1) := by decide +kernel
theorem dX7_grow_39 : decode cX7_grow 39 = .ok (.iconst 0, 1) := by decide +kernel
theorem dX7_grow_40 : decode cX7_grow 40 = .ok (.istore 4, 2) := by decide +kernel
theorem dX7_grow_42 : decode cX7_grow 42 = .ok (.iload 4, 2) := by decide +kernel
theorem dX7_grow_44 : decode cX7_grow 44 = .ok (.sipush 200, 3) := by decide +kernel
theorem dX7_grow_47 : decode cX7_grow 47 = .ok (.if_icmp .gt 92, 3) := by decide +kernel
theorem dX7_grow_50 : decode cX7_grow 50 = .ok (.aload_n 0, 1) := by decide +kernel
theorem dX7_grow_51 : decode cX7_grow 51 = .ok (.getfield 46, 3) := by decide +kernel
theorem dX7_grow_54 : decode cX7_grow 54 = .ok (.istore 5, 2) := by decide +kernel
theorem dX7_grow_56 : decode cX7_grow 56 = .ok (.aload_n 0, 1) := by decide +kernel
theorem dX7_grow_57 : decode cX7_grow 57 = .ok (.aload_n 0, 1) := by decide +kernel
theorem dX7_grow_58 : decode cX7_grow 58 = .ok (.getfield 13, 3) := by decide +kernel
theorem dX7_grow_61 : decode cX7_grow 61 = .ok (.aload_n 0, 1) := by decide +kernel
theorem dX7_grow_62 : decode cX7_grow 62 = .ok (.aload_n 0, 1) := by decide +kernel
theorem dX7_grow_63 : decode cX7_grow 63 = .ok (.getfield 38, 3) := by decide +kernel
theorem dX7_grow_66 : decode cX7_grow 66 = .ok (.invokevirtual 82, 3) := by decide +kernel
theorem dX7_grow_69 : decode cX7_grow 69 = .ok (.iaload, 1) := by decide +kernel
theorem dX7_grow_70 : decode cX7_grow 70 = .ok (.ifCond .eq 7, 3) := by decide +kernel
theorem dX7_grow_73 : decode cX7_grow 73 = .ok (.iconst 1, 1) := by decide +kernel
theorem dX7_grow_74 : decode cX7_grow 74 = .ok (.goto 4, 3) := by decide +kernel
theorem dX7_grow_77 : decode cX7_grow 77 = .ok (.iconst 0, 1) := by decide +kernel
theorem dX7_grow_78 : decode cX7_grow 78 = .ok (.putfield 86, 3) := by decide +kernel
theorem dX7_grow_81 : decode cX7_grow 81 = .ok (.aload_n 0, 1) := by decide +kernel
theorem dX7_grow_82 : decode cX7_grow 82 = .ok (.getfield 86, 3) := by decide +kernel
theorem dX7_grow_85 : decode cX7_grow 85 = .ok (.ifCond .ne 9, 3) := by decide +kernel
theorem dX7_grow_88 : decode cX7_grow 88 = .ok (.iload 5, 2) := by decide +kernel
theorem dX7_grow_90 : decode cX7_grow 90 = .ok (.iload_n 3, 1) := by decide +kernel
theorem dX7_grow_91 : decode cX7_grow 91 = .ok (.if_icmp .ne 5, 3) := by decide +kernel
theorem dX7_grow_94 : decode cX7_grow 94 = .ok (.iconst 1, 1) := by decide +kernel
theorem dX7_grow_95 : decode cX7_grow 95 = .ok (.ireturn, 1) := by decide +kernel
theorem dX7_grow_96 : decode cX7_grow 96 = .ok (.aload_n 0, 1) := by decide +kernel
theorem dX7_grow_97 : decode cX7_grow 97 = .ok (.aload_n 1, 1) := by decide +kernel
theorem dX7_grow_98 : decode cX7_grow 98 = .ok (.iload_n 3, 1) := by decide +kernel
theorem dX7_grow_99 : decode cX7_grow 99 = .ok (.invokevirtual 90, 3) := by decide +kernel
theorem dX7_grow_102 : decode cX7_grow 102 = .ok (.ifCond .ne 5, 3) := by decide +kernel
theorem dX7_grow_105 : decode cX7_grow 105 = .ok (.iconst 0, 1) := by decide +kernel
theorem dX7_grow_106 : decode cX7_grow 106 = .ok (.ireturn, 1) := by decide +kernel
theorem dX7_grow_107 : decode cX7_grow 107 = .ok (.aload_n 0, 1) := by decide +kernel
theorem dX7_grow_108 : decode cX7_grow 108 = .ok (.dup, 1) := by decide +kernel
theorem dX7_grow_109 : decode cX7_grow 109 = .ok (.getfield 49, 3) := by decide +kernel
theorem dX7_grow_112 : decode cX7_grow 112 = .ok (.aload_n 0, 1) := by decide +kernel
theorem dX7_grow_113 : decode cX7_grow 113 = .ok (.getfield 46, 3) := by decide +kernel
theorem dX7_grow_116 : decode cX7_grow 116 = .ok (.iload 5, 2) := by decide +kernel
theorem dX7_grow_118 : decode cX7_grow 118 = .ok (.if_icmp .le 7, 3) := by decide +kernel
theorem dX7_grow_121 : decode cX7_grow 121 = .ok (.iconst 1, 1) := by decide +kernel
theorem dX7_grow_122 : decode cX7_grow 122 = .ok (.goto 4, 3) := by decide +kernel
theorem dX7_grow_125 : decode cX7_grow 125 = .ok (.iconst 0, 1) := by decide +kernel
theorem dX7_grow_126 : decode cX7_grow 126 = .ok (.iadd, 1) := by decide +kernel
theorem dX7_grow_127 : decode cX7_grow 127 = .ok (.putfield 49, 3) := by decide +kernel
theorem dX7_grow_130 : decode cX7_grow 130 = .ok (.iload 5, 2) := by decide +kernel
theorem dX7_grow_132 : decode cX7_grow 132 = .ok (.istore_n 3, 1) := by decide +kernel
theorem dX7_grow_133 : decode cX7_grow 133 = .ok (.iinc 4 1, 3) := by decide +kernel
theorem dX7_grow_136 : decode cX7_grow 136 = .ok (.goto (-94), 3) := by decide +kernel
theorem dX7_grow_139 : decode cX7_grow 139 = .ok (.iconst 1, 1) := by decide +kernel
theorem dX7_grow_140 : decode cX7_grow 140 = .ok (.ireturn, 1) := by decide +kernel
set_option maxRecDepth 20000 in
theorem ggX7_makeRound_X7_layBehind : GoodIn wsX7_makeRound wsX7_layBehind := goodIn_r _ [7, 8, 9, 10, 11, 12, 13, 6, 14, 15, 16, 17, 18, 19, 20, 21, 22, 23, 24, 65, 66, 53, 54, 55, 56, 57, 58, 59, 60, 61, 62, 63, 64] (by decide +kernel) (by decide +kernel)
set_option maxRecDepth 20000 in
theorem gX7_makeRound_X7_layBehind : GoodIn wsX7_makeRound (wsV RX7 93 RX7 yX7_layBehind wsX7_layBehind) := goodIn_app (goodIn_of _ (by decide +kernel)) ggX7_makeRound_X7_layBehind
set_option maxRecDepth 20000 in
theorem ggX7_makeRound_X7_ofOne : GoodIn wsX7_makeRound wsX7_ofOne := goodIn_r _ [28, 8, 11, 12, 13, 6, 14, 15, 29, 30, 31, 19, 32, 21, 33, 34, 35, 36, 37, 38, 65, 66, 53, 54, 55, 56, 57, 58, 59, 60, 61, 62, 63, 64] (by decide +kernel) (by decide +kernel)
set_option maxRecDepth 20000 in
theorem gX7_makeRound_X7_ofOne : GoodIn wsX7_makeRound (wsV RX7 97 RX7 yX7_ofOne wsX7_ofOne) := goodIn_app (goodIn_of _ (by decide +kernel)) ggX7_makeRound_X7_ofOne
set_option maxRecDepth 20000 in
theorem ggX7_makeRound_X7_add : GoodIn wsX7_makeRound wsX7_add := goodIn_r _ [42, 43, 1, 2, 44, 45, 46, 6, 47, 48, 53, 54, 55, 56, 57, 58, 59, 60, 61, 62, 63, 64] (by decide +kernel) (by decide +kernel)
set_option maxRecDepth 20000 in
theorem gX7_makeRound_X7_add : GoodIn wsX7_makeRound (wsV RX7 78 RX7 yX7_add wsX7_add) := goodIn_app (goodIn_of _ (by decide +kernel)) ggX7_makeRound_X7_add
set_option maxRecDepth 20000 in
theorem ggX7_makeRound_X7_ofTwo : GoodIn wsX7_makeRound wsX7_ofTwo := goodIn_r _ [52, 9, 10, 36, 37, 6, 38, 53, 54, 55, 56, 57, 58, 59, 60, 61, 62, 63, 64] (by decide +kernel) (by decide +kernel)
set_option maxRecDepth 20000 in
theorem gX7_makeRound_X7_ofTwo : GoodIn wsX7_makeRound (wsV RX7 101 RX7 yX7_ofTwo wsX7_ofTwo) := goodIn_app (goodIn_of _ (by decide +kernel)) ggX7_makeRound_X7_ofTwo
theorem dX7_makeRound_0 : decode cX7_makeRound 0 = .ok (.aload_n 0, 1) := by decide +kernel
theorem dX7_makeRound_1 : decode cX7_makeRound 1 = .ok (.getfield 46, 3) := by decide +kernel
theorem dX7_makeRound_4 : decode cX7_makeRound 4 = .ok (.istore_n 3, 1) := by decide +kernel
theorem dX7_makeRound_5 : decode cX7_makeRound 5 = .ok (.iconst 0, 1) := by decide +kernel
theorem dX7_makeRound_6 : decode cX7_makeRound 6 = .ok (.istore 4, 2) := by decide +kernel
theorem dX7_makeRound_8 : decode cX7_makeRound 8 = .ok (.iload 4, 2) := by decide +kernel
theorem dX7_makeRound_10 : decode cX7_makeRound 10 = .ok (.iload_n 3, 1) := by decide +kernel
theorem dX7_makeRound_11 : decode cX7_makeRound 11 = .ok (.if_icmp .ge 93, 3) := by decide +kernel
theorem dX7_makeRound_14 : decode cX7_makeRound 14 = .ok (.aload_n 0, 1) := by decide +kernel
theorem dX7_makeRound_15 : decode cX7_makeRound 15 = .ok (.aload_n 1, 1) := by decide +kernel
theorem dX7_makeRound_16 : decode cX7_makeRound 16 = .ok (.aload_n 0, 1) := by decide +kernel
theorem dX7_makeRound_17 : decode cX7_makeRound 17 = .ok (.getfield 9, 3) := by decide +kernel
theorem dX7_makeRound_20 : decode cX7_makeRound 20 = .ok (.iload 4, 2) := by decide +kernel
theorem dX7_makeRound_22 : decode cX7_makeRound 22 = .ok (.laload, 1) := by decide +kernel
theorem dX7_makeRound_23 : decode cX7_makeRound 23 = .ok (.invokevirtual 93, 3) := by decide +kernel
theorem dX7_makeRound_26 : decode cX7_makeRound 26 = .ok (.iload 4, 2) := by decide +kernel
theorem dX7_makeRound_28 : decode cX7_makeRound 28 = .ok (.iload_n 2, 1) := by decide +kernel
theorem dX7_makeRound_29 : decode cX7_makeRound 29 = .ok (.if_icmp .lt 24, 3) := by decide +kernel
theorem dX7_makeRound_32 : decode cX7_makeRound 32 = .ok (.aload_n 0, 1) := by decide +kernel
theorem dX7_makeRound_33 : decode cX7_makeRound 33 = .ok (.aload_n 0, 1) := by decide +kernel
theorem dX7_makeRound_34 : decode cX7_makeRound 34 = .ok (.aload_n 1, 1) := by decide +kernel
theorem dX7_makeRound_35 : decode cX7_makeRound 35 = .ok (.aload_n 0, 1) := by decide +kernel
theorem dX7_makeRound_36 : decode cX7_makeRound 36 = .ok (.getfield 9, 3) := by decide +kernel
theorem dX7_makeRound_39 : decode cX7_makeRound 39 = .ok (.iload 4, 2) := by decide +kernel
theorem dX7_makeRound_41 : decode cX7_makeRound 41 = .ok (.laload, 1) := by decide +kernel
theorem dX7_makeRound_42 : decode cX7_makeRound 42 = .ok (.invokevirtual 97, 3) := by decide +kernel
theorem dX7_makeRound_45 : decode cX7_makeRound 45 = .ok (.invokevirtual 78, 3) := by decide +kernel
theorem dX7_makeRound_48 : decode cX7_makeRound 48 = .ok (.ifCond .ne 5, 3) := by decide +kernel
theorem dX7_makeRound_51 : decode cX7_makeRound 51 = .ok (.iconst 0, 1) := by decide +kernel
theorem dX7_makeRound_52 : decode cX7_makeRound 52 = .ok (.ireturn, 1) := by decide +kernel
theorem dX7_makeRound_53 : decode cX7_makeRound 53 = .ok (.iload 4, 2) := by decide +kernel
theorem dX7_makeRound_55 : decode cX7_makeRound 55 = .ok (.iload_n 2, 1) := by decide +kernel
theorem dX7_makeRound_56 : decode cX7_makeRound 56 = .ok (.if_icmp .ge 7, 3) := by decide +kernel
theorem dX7_makeRound_59 : decode cX7_makeRound 59 = .ok (.iload_n 2, 1) := by decide +kernel
theorem dX7_makeRound_60 : decode cX7_makeRound 60 = .ok (.goto 4, 3) := by decide +kernel
theorem dX7_makeRound_63 : decode cX7_makeRound 63 = .ok (.iconst 0, 1) := by decide +kernel
theorem dX7_makeRound_64 : decode cX7_makeRound 64 = .ok (.istore 5, 2) := by decide +kernel
theorem dX7_makeRound_66 : decode cX7_makeRound 66 = .ok (.iload 5, 2) := by decide +kernel
theorem dX7_makeRound_68 : decode cX7_makeRound 68 = .ok (.iload_n 3, 1) := by decide +kernel
theorem dX7_makeRound_69 : decode cX7_makeRound 69 = .ok (.if_icmp .ge 29, 3) := by decide +kernel
theorem dX7_makeRound_72 : decode cX7_makeRound 72 = .ok (.aload_n 0, 1) := by decide +kernel
theorem dX7_makeRound_73 : decode cX7_makeRound 73 = .ok (.aload_n 0, 1) := by decide +kernel
theorem dX7_makeRound_74 : decode cX7_makeRound 74 = .ok (.aload_n 0, 1) := by decide +kernel
theorem dX7_makeRound_75 : decode cX7_makeRound 75 = .ok (.getfield 9, 3) := by decide +kernel
theorem dX7_makeRound_78 : decode cX7_makeRound 78 = .ok (.iload 5, 2) := by decide +kernel
theorem dX7_makeRound_80 : decode cX7_makeRound 80 = .ok (.laload, 1) := by decide +kernel
theorem dX7_makeRound_81 : decode cX7_makeRound 81 = .ok (.invokevirtual 101, 3) := by decide +kernel
theorem dX7_makeRound_84 : decode cX7_makeRound 84 = .ok (.invokevirtual 78, 3) := by decide +kernel
theorem dX7_makeRound_87 : decode cX7_makeRound 87 = .ok (.ifCond .ne 5, 3) := by decide +kernel
theorem dX7_makeRound_90 : decode cX7_makeRound 90 = .ok (.iconst 0, 1) := by decide +kernel
theorem dX7_makeRound_91 : decode cX7_makeRound 91 = .ok (.ireturn, 1) := by decide +kernel
theorem dX7_makeRound_92 : decode cX7_makeRound 92 = .ok (.iinc 5 1, 3) := by decide +kernel
theorem dX7_makeRound_95 : decode cX7_makeRound 95 = .ok (.goto (-29), 3) := by decide +kernel
theorem dX7_makeRound_98 : decode cX7_makeRound 98 = .ok (.iinc 4 1, 3) := by decide +kernel
theorem dX7_makeRound_101 : decode cX7_makeRound 101 = .ok (.goto (-93), 3) := by decide +kernel
theorem dX7_makeRound_104 : decode cX7_makeRound 104 = .ok (.iconst 1, 1) := by decide +kernel
theorem dX7_makeRound_105 : decode cX7_makeRound 105 = .ok (.ireturn, 1) := by decide +kernel
set_option maxRecDepth 20000 in
theorem ggX7_layBehind_X7_whereIs : GoodIn wsX7_layBehind wsX7_whereIs := goodIn_r _ [8, 9, 21, 22, 23, 24, 25, 26, 27, 28, 29, 30, 31, 32] (by decide +kernel) (by decide +kernel)
set_option maxRecDepth 20000 in
theorem gX7_layBehind_X7_whereIs : GoodIn wsX7_layBehind (wsV RX7 105 RX7 yX7_whereIs wsX7_whereIs) := goodIn_app (goodIn_of _ (by decide +kernel)) ggX7_layBehind_X7_whereIs
set_option maxRecDepth 20000 in
theorem ggX7_layBehind_X6_two : GoodIn wsX7_layBehind wsX6_two := goodIn_r _ [14, 15, 16, 17, 13, 18, 19, 20] (by decide +kernel) (by decide +kernel)
set_option maxRecDepth 20000 in
theorem gX7_layBehind_X6_two : GoodIn wsX7_layBehind (wsV RX7 109 RX6 yX6_two wsX6_two) := goodIn_app (goodIn_of _ (by decide +kernel)) ggX7_layBehind_X6_two
theorem dX7_layBehind_0 : decode cX7_layBehind 0 = .ok (.iconst 0, 1) := by decide +kernel
theorem dX7_layBehind_1 : decode cX7_layBehind 1 = .ok (.istore 4, 2) := by decide +kernel
theorem dX7_layBehind_3 : decode cX7_layBehind 3 = .ok (.iload 4, 2) := by decide +kernel
theorem dX7_layBehind_5 : decode cX7_layBehind 5 = .ok (.iconst 4, 1) := by decide +kernel
theorem dX7_layBehind_6 : decode cX7_layBehind 6 = .ok (.if_icmp .ge 108, 3) := by decide +kernel
theorem dX7_layBehind_9 : decode cX7_layBehind 9 = .ok (.iconst 0, 1) := by decide +kernel
theorem dX7_layBehind_10 : decode cX7_layBehind 10 = .ok (.istore 5, 2) := by decide +kernel
theorem dX7_layBehind_12 : decode cX7_layBehind 12 = .ok (.iconst 0, 1) := by decide +kernel
theorem dX7_layBehind_13 : decode cX7_layBehind 13 = .ok (.istore 6, 2) := by decide +kernel
theorem dX7_layBehind_15 : decode cX7_layBehind 15 = .ok (.iconst 0, 1) := by decide +kernel
theorem dX7_layBehind_16 : decode cX7_layBehind 16 = .ok (.istore 7, 2) := by decide +kernel
theorem dX7_layBehind_18 : decode cX7_layBehind 18 = .ok (.iload 7, 2) := by decide +kernel
theorem dX7_layBehind_20 : decode cX7_layBehind 20 = .ok (.aload_n 1, 1) := by decide +kernel
theorem dX7_layBehind_21 : decode cX7_layBehind 21 = .ok (.getfield 28, 3) := by decide +kernel
theorem dX7_layBehind_24 : decode cX7_layBehind 24 = .ok (.if_icmp .ge 66, 3) := by decide +kernel
theorem dX7_layBehind_27 : decode cX7_layBehind 27 = .ok (.aload_n 0, 1) := by decide +kernel
theorem dX7_layBehind_28 : decode cX7_layBehind 28 = .ok (.lload_n 2, 1) := by decide +kernel
theorem dX7_layBehind_29 : decode cX7_layBehind 29 = .ok (.iload 7, 2) := by decide +kernel
theorem dX7_layBehind_31 : decode cX7_layBehind 31 = .ok (.invokevirtual 105, 3) := by decide +kernel
theorem dX7_layBehind_34 : decode cX7_layBehind 34 = .ok (.istore 8, 2) := by decide +kernel
theorem dX7_layBehind_36 : decode cX7_layBehind 36 = .ok (.iload 5, 2) := by decide +kernel
theorem dX7_layBehind_38 : decode cX7_layBehind 38 = .ok (.aload_n 1, 1) := by decide +kernel
theorem dX7_layBehind_39 : decode cX7_layBehind 39 = .ok (.iload 7, 2) := by decide +kernel
theorem dX7_layBehind_41 : decode cX7_layBehind 41 = .ok (.iload 4, 2) := by decide +kernel
theorem dX7_layBehind_43 : decode cX7_layBehind 43 = .ok (.invokevirtual 109, 3) := by decide +kernel
theorem dX7_layBehind_46 : decode cX7_layBehind 46 = .ok (.iconst 1, 1) := by decide +kernel
theorem dX7_layBehind_47 : decode cX7_layBehind 47 = .ok (.iand, 1) := by decide +kernel
theorem dX7_layBehind_48 : decode cX7_layBehind 48 = .ok (.ifCond .eq 8, 3) := by decide +kernel
theorem dX7_layBehind_51 : decode cX7_layBehind 51 = .ok (.iload 8, 2) := by decide +kernel
theorem dX7_layBehind_53 : decode cX7_layBehind 53 = .ok (.goto 4, 3) := by decide +kernel
theorem dX7_layBehind_56 : decode cX7_layBehind 56 = .ok (.iconst 0, 1) := by decide +kernel
theorem dX7_layBehind_57 : decode cX7_layBehind 57 = .ok (.ior, 1) := by decide +kernel
theorem dX7_layBehind_58 : decode cX7_layBehind 58 = .ok (.istore 5, 2) := by decide +kernel
theorem dX7_layBehind_60 : decode cX7_layBehind 60 = .ok (.iload 6, 2) := by decide +kernel
theorem dX7_layBehind_62 : decode cX7_layBehind 62 = .ok (.aload_n 1, 1) := by decide +kernel
theorem dX7_layBehind_63 : decode cX7_layBehind 63 = .ok (.iload 7, 2) := by decide +kernel
theorem dX7_layBehind_65 : decode cX7_layBehind 65 = .ok (.iload 4, 2) := by decide +kernel
theorem dX7_layBehind_67 : decode cX7_layBehind 67 = .ok (.invokevirtual 109, 3) := by decide +kernel
theorem dX7_layBehind_70 : decode cX7_layBehind 70 = .ok (.iconst 2, 1) := by decide +kernel
theorem dX7_layBehind_71 : decode cX7_layBehind 71 = .ok (.iand, 1) := by decide +kernel
theorem dX7_layBehind_72 : decode cX7_layBehind 72 = .ok (.ifCond .eq 8, 3) := by decide +kernel
theorem dX7_layBehind_75 : decode cX7_layBehind 75 = .ok (.iload 8, 2) := by decide +kernel
theorem dX7_layBehind_77 : decode cX7_layBehind 77 = .ok (.goto 4, 3) := by decide +kernel
theorem dX7_layBehind_80 : decode cX7_layBehind 80 = .ok (.iconst 0, 1) := by decide +kernel
theorem dX7_layBehind_81 : decode cX7_layBehind 81 = .ok (.ior, 1) := by decide +kernel
theorem dX7_layBehind_82 : decode cX7_layBehind 82 = .ok (.istore 6, 2) := by decide +kernel
theorem dX7_layBehind_84 : decode cX7_layBehind 84 = .ok (.iinc 7 1, 3) := by decide +kernel
theorem dX7_layBehind_87 : decode cX7_layBehind 87 = .ok (.goto (-69), 3) := by decide +kernel
theorem dX7_layBehind_90 : decode cX7_layBehind 90 = .ok (.aload_n 0, 1) := by decide +kernel
theorem dX7_layBehind_91 : decode cX7_layBehind 91 = .ok (.getfield 19, 3) := by decide +kernel
theorem dX7_layBehind_94 : decode cX7_layBehind 94 = .ok (.iload 4, 2) := by decide +kernel
theorem dX7_layBehind_96 : decode cX7_layBehind 96 = .ok (.iload 5, 2) := by decide +kernel
theorem dX7_layBehind_98 : decode cX7_layBehind 98 = .ok (.iastore, 1) := by decide +kernel
theorem dX7_layBehind_99 : decode cX7_layBehind 99 = .ok (.aload_n 0, 1) := by decide +kernel
theorem dX7_layBehind_100 : decode cX7_layBehind 100 = .ok (.getfield 22, 3) := by decide +kernel
theorem dX7_layBehind_103 : decode cX7_layBehind 103 = .ok (.iload 4, 2) := by decide +kernel
theorem dX7_layBehind_105 : decode cX7_layBehind 105 = .ok (.iload 6, 2) := by decide +kernel
theorem dX7_layBehind_107 : decode cX7_layBehind 107 = .ok (.iastore, 1) := by decide +kernel
theorem dX7_layBehind_108 : decode cX7_layBehind 108 = .ok (.iinc 4 1, 3) := by decide +kernel
theorem dX7_layBehind_111 : decode cX7_layBehind 111 = .ok (.goto (-108), 3) := by decide +kernel
theorem dX7_layBehind_114 : decode cX7_layBehind 114 = .ok (.return_, 1) := by decide +kernel
set_option maxRecDepth 20000 in
theorem ggX7_ofTwo_X7_joined : GoodIn wsX7_ofTwo wsX7_joined := goodIn_r _ [6] (by decide +kernel) (by decide +kernel)
set_option maxRecDepth 20000 in
theorem gX7_ofTwo_X7_joined : GoodIn wsX7_ofTwo (va_wsS RX7 74 yX7_joined wsX7_joined) := goodIn_app (goodIn_of _ (by decide +kernel)) ggX7_ofTwo_X7_joined
theorem dX7_ofTwo_0 : decode cX7_ofTwo 0 = .ok (.lload_n 1, 1) := by decide +kernel
theorem dX7_ofTwo_1 : decode cX7_ofTwo 1 = .ok (.l2i, 1) := by decide +kernel
theorem dX7_ofTwo_2 : decode cX7_ofTwo 2 = .ok (.istore_n 3, 1) := by decide +kernel
theorem dX7_ofTwo_3 : decode cX7_ofTwo 3 = .ok (.lload_n 1, 1) := by decide +kernel
theorem dX7_ofTwo_4 : decode cX7_ofTwo 4 = .ok (.bipush 32, 2) := by decide +kernel
theorem dX7_ofTwo_6 : decode cX7_ofTwo 6 = .ok (.lushr, 1) := by decide +kernel
theorem dX7_ofTwo_7 : decode cX7_ofTwo 7 = .ok (.l2i, 1) := by decide +kernel
theorem dX7_ofTwo_8 : decode cX7_ofTwo 8 = .ok (.istore 4, 2) := by decide +kernel
theorem dX7_ofTwo_10 : decode cX7_ofTwo 10 = .ok (.iload_n 3, 1) := by decide +kernel
theorem dX7_ofTwo_11 : decode cX7_ofTwo 11 = .ok (.iconst (-1), 1) := by decide +kernel
theorem dX7_ofTwo_12 : decode cX7_ofTwo 12 = .ok (.ixor, 1) := by decide +kernel
theorem dX7_ofTwo_13 : decode cX7_ofTwo 13 = .ok (.iload 4, 2) := by decide +kernel
theorem dX7_ofTwo_15 : decode cX7_ofTwo 15 = .ok (.iconst (-1), 1) := by decide +kernel
theorem dX7_ofTwo_16 : decode cX7_ofTwo 16 = .ok (.ixor, 1) := by decide +kernel
theorem dX7_ofTwo_17 : decode cX7_ofTwo 17 = .ok (.iand, 1) := by decide +kernel
theorem dX7_ofTwo_18 : decode cX7_ofTwo 18 = .ok (.istore 5, 2) := by decide +kernel
theorem dX7_ofTwo_20 : decode cX7_ofTwo 20 = .ok (.iload_n 3, 1) := by decide +kernel
theorem dX7_ofTwo_21 : decode cX7_ofTwo 21 = .ok (.iload 4, 2) := by decide +kernel
theorem dX7_ofTwo_23 : decode cX7_ofTwo 23 = .ok (.iconst (-1), 1) := by decide +kernel
theorem dX7_ofTwo_24 : decode cX7_ofTwo 24 = .ok (.ixor, 1) := by decide +kernel
theorem dX7_ofTwo_25 : decode cX7_ofTwo 25 = .ok (.iand, 1) := by decide +kernel
theorem dX7_ofTwo_26 : decode cX7_ofTwo 26 = .ok (.istore 6, 2) := by decide +kernel
theorem dX7_ofTwo_28 : decode cX7_ofTwo 28 = .ok (.iload_n 3, 1) := by decide +kernel
theorem dX7_ofTwo_29 : decode cX7_ofTwo 29 = .ok (.iconst (-1), 1) := by decide +kernel
theorem dX7_ofTwo_30 : decode cX7_ofTwo 30 = .ok (.ixor, 1) := by decide +kernel
theorem dX7_ofTwo_31 : decode cX7_ofTwo 31 = .ok (.iload 4, 2) := by decide +kernel
theorem dX7_ofTwo_33 : decode cX7_ofTwo 33 = .ok (.iand, 1) := by decide +kernel
theorem dX7_ofTwo_34 : decode cX7_ofTwo 34 = .ok (.istore 7, 2) := by decide +kernel
theorem dX7_ofTwo_36 : decode cX7_ofTwo 36 = .ok (.iload_n 3, 1) := by decide +kernel
theorem dX7_ofTwo_37 : decode cX7_ofTwo 37 = .ok (.iload 4, 2) := by decide +kernel
theorem dX7_ofTwo_39 : decode cX7_ofTwo 39 = .ok (.iand, 1) := by decide +kernel
theorem dX7_ofTwo_40 : decode cX7_ofTwo 40 = .ok (.istore 8, 2) := by decide +kernel
theorem dX7_ofTwo_42 : decode cX7_ofTwo 42 = .ok (.iload 5, 2) := by decide +kernel
theorem dX7_ofTwo_44 : decode cX7_ofTwo 44 = .ok (.aload_n 0, 1) := by decide +kernel
theorem dX7_ofTwo_45 : decode cX7_ofTwo 45 = .ok (.getfield 19, 3) := by decide +kernel
theorem dX7_ofTwo_48 : decode cX7_ofTwo 48 = .ok (.iconst 0, 1) := by decide +kernel
theorem dX7_ofTwo_49 : decode cX7_ofTwo 49 = .ok (.iaload, 1) := by decide +kernel
theorem dX7_ofTwo_50 : decode cX7_ofTwo 50 = .ok (.iand, 1) := by decide +kernel
theorem dX7_ofTwo_51 : decode cX7_ofTwo 51 = .ok (.iload 6, 2) := by decide +kernel
theorem dX7_ofTwo_53 : decode cX7_ofTwo 53 = .ok (.aload_n 0, 1) := by decide +kernel
theorem dX7_ofTwo_54 : decode cX7_ofTwo 54 = .ok (.getfield 19, 3) := by decide +kernel
theorem dX7_ofTwo_57 : decode cX7_ofTwo 57 = .ok (.iconst 1, 1) := by decide +kernel
theorem dX7_ofTwo_58 : decode cX7_ofTwo 58 = .ok (.iaload, 1) := by decide +kernel
theorem dX7_ofTwo_59 : decode cX7_ofTwo 59 = .ok (.iand, 1) := by decide +kernel
theorem dX7_ofTwo_60 : decode cX7_ofTwo 60 = .ok (.ior, 1) := by decide +kernel
theorem dX7_ofTwo_61 : decode cX7_ofTwo 61 = .ok (.iload 7, 2) := by decide +kernel
theorem dX7_ofTwo_63 : decode cX7_ofTwo 63 = .ok (.aload_n 0, 1) := by decide +kernel
theorem dX7_ofTwo_64 : decode cX7_ofTwo 64 = .ok (.getfield 19, 3) := by decide +kernel
theorem dX7_ofTwo_67 : decode cX7_ofTwo 67 = .ok (.iconst 2, 1) := by decide +kernel
theorem dX7_ofTwo_68 : decode cX7_ofTwo 68 = .ok (.iaload, 1) := by decide +kernel
theorem dX7_ofTwo_69 : decode cX7_ofTwo 69 = .ok (.iand, 1) := by decide +kernel
theorem dX7_ofTwo_70 : decode cX7_ofTwo 70 = .ok (.ior, 1) := by decide +kernel
theorem dX7_ofTwo_71 : decode cX7_ofTwo 71 = .ok (.iload 8, 2) := by decide +kernel
theorem dX7_ofTwo_73 : decode cX7_ofTwo 73 = .ok (.aload_n 0, 1) := by decide +kernel
theorem dX7_ofTwo_74 : decode cX7_ofTwo 74 = .ok (.getfield 19, 3) := by decide +kernel
theorem dX7_ofTwo_77 : decode cX7_ofTwo 77 = .ok (.iconst 3, 1) := by decide +kernel
theorem dX7_ofTwo_78 : decode cX7_ofTwo 78 = .ok (.iaload, 1) := by decide +kernel
theorem dX7_ofTwo_79 : decode cX7_ofTwo 79 = .ok (.iand, 1) := by decide +kernel
theorem dX7_ofTwo_80 : decode cX7_ofTwo 80 = .ok (.ior, 1) := by decide +kernel
theorem dX7_ofTwo_81 : decode cX7_ofTwo 81 = .ok (.iload 5, 2) := by decide +kernel
theorem dX7_ofTwo_83 : decode cX7_ofTwo 83 = .ok (.aload_n 0, 1) := by decide +kernel
theorem dX7_ofTwo_84 : decode cX7_ofTwo 84 = .ok (.getfield 22, 3) := by decide +kernel
theorem dX7_ofTwo_87 : decode cX7_ofTwo 87 = .ok (.iconst 0, 1) := by decide +kernel
theorem dX7_ofTwo_88 : decode cX7_ofTwo 88 = .ok (.iaload, 1) := by decide +kernel
theorem dX7_ofTwo_89 : decode cX7_ofTwo 89 = .ok (.iand, 1) := by decide +kernel
theorem dX7_ofTwo_90 : decode cX7_ofTwo 90 = .ok (.iload 6, 2) := by decide +kernel
theorem dX7_ofTwo_92 : decode cX7_ofTwo 92 = .ok (.aload_n 0, 1) := by decide +kernel
theorem dX7_ofTwo_93 : decode cX7_ofTwo 93 = .ok (.getfield 22, 3) := by decide +kernel
theorem dX7_ofTwo_96 : decode cX7_ofTwo 96 = .ok (.iconst 1, 1) := by decide +kernel
theorem dX7_ofTwo_97 : decode cX7_ofTwo 97 = .ok (.iaload, 1) := by decide +kernel
theorem dX7_ofTwo_98 : decode cX7_ofTwo 98 = .ok (.iand, 1) := by decide +kernel
theorem dX7_ofTwo_99 : decode cX7_ofTwo 99 = .ok (.ior, 1) := by decide +kernel
theorem dX7_ofTwo_100 : decode cX7_ofTwo 100 = .ok (.iload 7, 2) := by decide +kernel
theorem dX7_ofTwo_102 : decode cX7_ofTwo 102 = .ok (.aload_n 0, 1) := by decide +kernel
theorem dX7_ofTwo_103 : decode cX7_ofTwo 103 = .ok (.getfield 22, 3) := by decide +kernel
theorem dX7_ofTwo_106 : decode cX7_ofTwo 106 = .ok (.iconst 2, 1) := by decide +kernel
theorem dX7_ofTwo_107 : decode cX7_ofTwo 107 = .ok (.iaload, 1) := by decide +kernel
theorem dX7_ofTwo_108 : decode cX7_ofTwo 108 = .ok (.iand, 1) := by decide +kernel
theorem dX7_ofTwo_109 : decode cX7_ofTwo 109 = .ok (.ior, 1) := by decide +kernel
theorem dX7_ofTwo_110 : decode cX7_ofTwo 110 = .ok (.iload 8, 2) := by decide +kernel
theorem dX7_ofTwo_112 : decode cX7_ofTwo 112 = .ok (.aload_n 0, 1) := by decide +kernel
theorem dX7_ofTwo_113 : decode cX7_ofTwo 113 = .ok (.getfield 22, 3) := by decide +kernel
theorem dX7_ofTwo_116 : decode cX7_ofTwo 116 = .ok (.iconst 3, 1) := by decide +kernel
theorem dX7_ofTwo_117 : decode cX7_ofTwo 117 = .ok (.iaload, 1) := by decide +kernel
theorem dX7_ofTwo_118 : decode cX7_ofTwo 118 = .ok (.iand, 1) := by decide +kernel
theorem dX7_ofTwo_119 : decode cX7_ofTwo 119 = .ok (.ior, 1) := by decide +kernel
theorem dX7_ofTwo_120 : decode cX7_ofTwo 120 = .ok (.invokestatic 74, 3) := by decide +kernel
theorem dX7_ofTwo_123 : decode cX7_ofTwo 123 = .ok (.lreturn, 1) := by decide +kernel
set_option maxRecDepth 20000 in
theorem ggX7_ofOne_X7_whereIs : GoodIn wsX7_ofOne wsX7_whereIs := goodIn_r _ [6, 7, 22, 23, 24, 25, 26, 27, 28, 29, 30, 31, 32, 33] (by decide +kernel) (by decide +kernel)
set_option maxRecDepth 20000 in
theorem gX7_ofOne_X7_whereIs : GoodIn wsX7_ofOne (wsV RX7 105 RX7 yX7_whereIs wsX7_whereIs) := goodIn_app (goodIn_of _ (by decide +kernel)) ggX7_ofOne_X7_whereIs
set_option maxRecDepth 20000 in
theorem ggX7_ofOne_X6_one : GoodIn wsX7_ofOne wsX6_one := goodIn_r _ [12, 13, 14, 15, 11, 16, 20, 21] (by decide +kernel) (by decide +kernel)
set_option maxRecDepth 20000 in
theorem gX7_ofOne_X6_one : GoodIn wsX7_ofOne (wsV RX7 113 RX6 yX6_one wsX6_one) := goodIn_app (goodIn_of _ (by decide +kernel)) ggX7_ofOne_X6_one
set_option maxRecDepth 20000 in
theorem ggX7_ofOne_X7_joined : GoodIn wsX7_ofOne wsX7_joined := goodIn_r _ [19] (by decide +kernel) (by decide +kernel)
set_option maxRecDepth 20000 in
theorem gX7_ofOne_X7_joined : GoodIn wsX7_ofOne (va_wsS RX7 74 yX7_joined wsX7_joined) := goodIn_app (goodIn_of _ (by decide +kernel)) ggX7_ofOne_X7_joined
theorem dX7_ofOne_0 : decode cX7_ofOne 0 = .ok (.iconst 0, 1) := by decide +kernel
theorem dX7_ofOne_1 : decode cX7_ofOne 1 = .ok (.istore 4, 2) := by decide +kernel
theorem dX7_ofOne_3 : decode cX7_ofOne 3 = .ok (.iconst 0, 1) := by decide +kernel
theorem dX7_ofOne_4 : decode cX7_ofOne 4 = .ok (.istore 5, 2) := by decide +kernel
theorem dX7_ofOne_6 : decode cX7_ofOne 6 = .ok (.iconst 0, 1) := by decide +kernel
theorem dX7_ofOne_7 : decode cX7_ofOne 7 = .ok (.istore 6, 2) := by decide +kernel
theorem dX7_ofOne_9 : decode cX7_ofOne 9 = .ok (.iload 6, 2) := by decide +kernel
theorem dX7_ofOne_11 : decode cX7_ofOne 11 = .ok (.aload_n 1, 1) := by decide +kernel
theorem dX7_ofOne_12 : decode cX7_ofOne 12 = .ok (.getfield 28, 3) := by decide +kernel
theorem dX7_ofOne_15 : decode cX7_ofOne 15 = .ok (.if_icmp .ge 62, 3) := by decide +kernel
theorem dX7_ofOne_18 : decode cX7_ofOne 18 = .ok (.aload_n 0, 1) := by decide +kernel
theorem dX7_ofOne_19 : decode cX7_ofOne 19 = .ok (.lload_n 2, 1) := by decide +kernel
theorem dX7_ofOne_20 : decode cX7_ofOne 20 = .ok (.iload 6, 2) := by decide +kernel
theorem dX7_ofOne_22 : decode cX7_ofOne 22 = .ok (.invokevirtual 105, 3) := by decide +kernel
theorem dX7_ofOne_25 : decode cX7_ofOne 25 = .ok (.istore 7, 2) := by decide +kernel
theorem dX7_ofOne_27 : decode cX7_ofOne 27 = .ok (.iload 4, 2) := by decide +kernel
theorem dX7_ofOne_29 : decode cX7_ofOne 29 = .ok (.aload_n 1, 1) := by decide +kernel
theorem dX7_ofOne_30 : decode cX7_ofOne 30 = .ok (.iload 6, 2) := by decide +kernel
theorem dX7_ofOne_32 : decode cX7_ofOne 32 = .ok (.invokevirtual 113, 3) := by decide +kernel
theorem dX7_ofOne_35 : decode cX7_ofOne 35 = .ok (.iconst 1, 1) := by decide +kernel
theorem dX7_ofOne_36 : decode cX7_ofOne 36 = .ok (.iand, 1) := by decide +kernel
theorem dX7_ofOne_37 : decode cX7_ofOne 37 = .ok (.ifCond .eq 8, 3) := by decide +kernel
theorem dX7_ofOne_40 : decode cX7_ofOne 40 = .ok (.iload 7, 2) := by decide +kernel
theorem dX7_ofOne_42 : decode cX7_ofOne 42 = .ok (.goto 4, 3) := by decide +kernel
theorem dX7_ofOne_45 : decode cX7_ofOne 45 = .ok (.iconst 0, 1) := by decide +kernel
theorem dX7_ofOne_46 : decode cX7_ofOne 46 = .ok (.ior, 1) := by decide +kernel
theorem dX7_ofOne_47 : decode cX7_ofOne 47 = .ok (.istore 4, 2) := by decide +kernel
theorem dX7_ofOne_49 : decode cX7_ofOne 49 = .ok (.iload 5, 2) := by decide +kernel
theorem dX7_ofOne_51 : decode cX7_ofOne 51 = .ok (.aload_n 1, 1) := by decide +kernel
theorem dX7_ofOne_52 : decode cX7_ofOne 52 = .ok (.iload 6, 2) := by decide +kernel
theorem dX7_ofOne_54 : decode cX7_ofOne 54 = .ok (.invokevirtual 113, 3) := by decide +kernel
theorem dX7_ofOne_57 : decode cX7_ofOne 57 = .ok (.iconst 2, 1) := by decide +kernel
theorem dX7_ofOne_58 : decode cX7_ofOne 58 = .ok (.iand, 1) := by decide +kernel
theorem dX7_ofOne_59 : decode cX7_ofOne 59 = .ok (.ifCond .eq 8, 3) := by decide +kernel
theorem dX7_ofOne_62 : decode cX7_ofOne 62 = .ok (.iload 7, 2) := by decide +kernel
theorem dX7_ofOne_64 : decode cX7_ofOne 64 = .ok (.goto 4, 3) := by decide +kernel
theorem dX7_ofOne_67 : decode cX7_ofOne 67 = .ok (.iconst 0, 1) := by decide +kernel
theorem dX7_ofOne_68 : decode cX7_ofOne 68 = .ok (.ior, 1) := by decide +kernel
theorem dX7_ofOne_69 : decode cX7_ofOne 69 = .ok (.istore 5, 2) := by decide +kernel
theorem dX7_ofOne_71 : decode cX7_ofOne 71 = .ok (.iinc 6 1, 3) := by decide +kernel
theorem dX7_ofOne_74 : decode cX7_ofOne 74 = .ok (.goto (-65), 3) := by decide +kernel
theorem dX7_ofOne_77 : decode cX7_ofOne 77 = .ok (.iload 4, 2) := by decide +kernel
theorem dX7_ofOne_79 : decode cX7_ofOne 79 = .ok (.iload 5, 2) := by decide +kernel
theorem dX7_ofOne_81 : decode cX7_ofOne 81 = .ok (.invokestatic 74, 3) := by decide +kernel
theorem dX7_ofOne_84 : decode cX7_ofOne 84 = .ok (.lreturn, 1) := by decide +kernel
theorem dX7_whereIs_0 : decode cX7_whereIs 0 = .ok (.lload_n 1, 1) := by decide +kernel
theorem dX7_whereIs_1 : decode cX7_whereIs 1 = .ok (.l2i, 1) := by decide +kernel
theorem dX7_whereIs_2 : decode cX7_whereIs 2 = .ok (.istore 4, 2) := by decide +kernel
theorem dX7_whereIs_4 : decode cX7_whereIs 4 = .ok (.lload_n 1, 1) := by decide +kernel
theorem dX7_whereIs_5 : decode cX7_whereIs 5 = .ok (.bipush 32, 2) := by decide +kernel
theorem dX7_whereIs_7 : decode cX7_whereIs 7 = .ok (.lushr, 1) := by decide +kernel
theorem dX7_whereIs_8 : decode cX7_whereIs 8 = .ok (.l2i, 1) := by decide +kernel
theorem dX7_whereIs_9 : decode cX7_whereIs 9 = .ok (.istore 5, 2) := by decide +kernel
theorem dX7_whereIs_11 : decode cX7_whereIs 11 = .ok (.iload_n 3, 1) := by decide +kernel
theorem dX7_whereIs_12 : decode cX7_whereIs 12 = .ok (.iconst 1, 1) := by decide +kernel
theorem dX7_whereIs_13 : decode cX7_whereIs 13 = .ok (.iand, 1) := by decide +kernel
theorem dX7_whereIs_14 : decode cX7_whereIs 14 = .ok (.ifCond .eq 8, 3) := by decide +kernel
theorem dX7_whereIs_17 : decode cX7_whereIs 17 = .ok (.iload 4, 2) := by decide +kernel
theorem dX7_whereIs_19 : decode cX7_whereIs 19 = .ok (.goto 7, 3) := by decide +kernel
theorem dX7_whereIs_22 : decode cX7_whereIs 22 = .ok (.iload 4, 2) := by decide +kernel
theorem dX7_whereIs_24 : decode cX7_whereIs 24 = .ok (.iconst (-1), 1) := by decide +kernel
theorem dX7_whereIs_25 : decode cX7_whereIs 25 = .ok (.ixor, 1) := by decide +kernel
theorem dX7_whereIs_26 : decode cX7_whereIs 26 = .ok (.iload_n 3, 1) := by decide +kernel
theorem dX7_whereIs_27 : decode cX7_whereIs 27 = .ok (.iconst 2, 1) := by decide +kernel
theorem dX7_whereIs_28 : decode cX7_whereIs 28 = .ok (.iand, 1) := by decide +kernel
theorem dX7_whereIs_29 : decode cX7_whereIs 29 = .ok (.ifCond .eq 8, 3) := by decide +kernel
theorem dX7_whereIs_32 : decode cX7_whereIs 32 = .ok (.iload 5, 2) := by decide +kernel
theorem dX7_whereIs_34 : decode cX7_whereIs 34 = .ok (.goto 7, 3) := by decide +kernel
theorem dX7_whereIs_37 : decode cX7_whereIs 37 = .ok (.iload 5, 2) := by decide +kernel
theorem dX7_whereIs_39 : decode cX7_whereIs 39 = .ok (.iconst (-1), 1) := by decide +kernel
theorem dX7_whereIs_40 : decode cX7_whereIs 40 = .ok (.ixor, 1) := by decide +kernel
theorem dX7_whereIs_41 : decode cX7_whereIs 41 = .ok (.iand, 1) := by decide +kernel
theorem dX7_whereIs_42 : decode cX7_whereIs 42 = .ok (.iconst 1, 1) := by decide +kernel
theorem dX7_whereIs_43 : decode cX7_whereIs 43 = .ok (.aload_n 0, 1) := by decide +kernel
theorem dX7_whereIs_44 : decode cX7_whereIs 44 = .ok (.getfield 67, 3) := by decide +kernel
theorem dX7_whereIs_47 : decode cX7_whereIs 47 = .ok (.ishl, 1) := by decide +kernel
theorem dX7_whereIs_48 : decode cX7_whereIs 48 = .ok (.iconst 1, 1) := by decide +kernel
theorem dX7_whereIs_49 : decode cX7_whereIs 49 = .ok (.isub, 1) := by decide +kernel
theorem dX7_whereIs_50 : decode cX7_whereIs 50 = .ok (.iand, 1) := by decide +kernel
theorem dX7_whereIs_51 : decode cX7_whereIs 51 = .ok (.ireturn, 1) := by decide +kernel
theorem dX7_joined_0 : decode cX7_joined 0 = .ok (.iload_n 1, 1) := by decide +kernel
theorem dX7_joined_1 : decode cX7_joined 1 = .ok (.i2l, 1) := by decide +kernel
theorem dX7_joined_2 : decode cX7_joined 2 = .ok (.bipush 32, 2) := by decide +kernel
theorem dX7_joined_4 : decode cX7_joined 4 = .ok (.lshl, 1) := by decide +kernel
theorem dX7_joined_5 : decode cX7_joined 5 = .ok (.iload_n 0, 1) := by decide +kernel
theorem dX7_joined_6 : decode cX7_joined 6 = .ok (.i2l, 1) := by decide +kernel
theorem dX7_joined_7 : decode cX7_joined 7 = .ok (.lor, 1) := by decide +kernel
theorem dX7_joined_8 : decode cX7_joined 8 = .ok (.lreturn, 1) := by decide +kernel
set_option maxRecDepth 20000 in
theorem ggX7_add_X7_slotOf : GoodIn wsX7_add wsX7_slotOf := goodIn_r _ [8, 9, 1, 3, 10, 11, 12, 13, 14, 15, 16, 17, 18, 19, 20, 21] (by decide +kernel) (by decide +kernel)
set_option maxRecDepth 20000 in
theorem gX7_add_X7_slotOf : GoodIn wsX7_add (wsV RX7 82 RX7 yX7_slotOf wsX7_slotOf) := goodIn_app (goodIn_of _ (by decide +kernel)) ggX7_add_X7_slotOf
theorem dX7_add_0 : decode cX7_add 0 = .ok (.aload_n 0, 1) := by decide +kernel
theorem dX7_add_1 : decode cX7_add 1 = .ok (.lload_n 1, 1) := by decide +kernel
theorem dX7_add_2 : decode cX7_add 2 = .ok (.invokevirtual 82, 3) := by decide +kernel
theorem dX7_add_5 : decode cX7_add 5 = .ok (.istore_n 3, 1) := by decide +kernel
theorem dX7_add_6 : decode cX7_add 6 = .ok (.aload_n 0, 1) := by decide +kernel
theorem dX7_add_7 : decode cX7_add 7 = .ok (.getfield 13, 3) := by decide +kernel
theorem dX7_add_10 : decode cX7_add 10 = .ok (.iload_n 3, 1) := by decide +kernel
theorem dX7_add_11 : decode cX7_add 11 = .ok (.iaload, 1) := by decide +kernel
theorem dX7_add_12 : decode cX7_add 12 = .ok (.ifCond .eq 5, 3) := by decide +kernel
theorem dX7_add_15 : decode cX7_add 15 = .ok (.iconst 1, 1) := by decide +kernel
theorem dX7_add_16 : decode cX7_add 16 = .ok (.ireturn, 1) := by decide +kernel
theorem dX7_add_17 : decode cX7_add 17 = .ok (.aload_n 0, 1) := by decide +kernel
theorem dX7_add_18 : decode cX7_add 18 = .ok (.getfield 46, 3) := by decide +kernel
theorem dX7_add_21 : decode cX7_add 21 = .ok (.sipush 200, 3) := by decide +kernel
theorem dX7_add_24 : decode cX7_add 24 = .ok (.if_icmp .lt 5, 3) := by decide +kernel
theorem dX7_add_27 : decode cX7_add 27 = .ok (.iconst 0, 1) := by decide +kernel
theorem dX7_add_28 : decode cX7_add 28 = .ok (.ireturn, 1) := by decide +kernel
theorem dX7_add_29 : decode cX7_add 29 = .ok (.aload_n 0, 1) := by decide +kernel
theorem dX7_add_30 : decode cX7_add 30 = .ok (.getfield 9, 3) := by decide +kernel
theorem dX7_add_33 : decode cX7_add 33 = .ok (.aload_n 0, 1) := by decide +kernel
theorem dX7_add_34 : decode cX7_add 34 = .ok (.getfield 46, 3) := by decide +kernel
theorem dX7_add_37 : decode cX7_add 37 = .ok (.lload_n 1, 1) := by decide +kernel
theorem dX7_add_38 : decode cX7_add 38 = .ok (.lastore, 1) := by decide +kernel
theorem dX7_add_39 : decode cX7_add 39 = .ok (.aload_n 0, 1) := by decide +kernel
theorem dX7_add_40 : decode cX7_add 40 = .ok (.dup, 1) := by decide +kernel
theorem dX7_add_41 : decode cX7_add 41 = .ok (.getfield 46, 3) := by decide +kernel
theorem dX7_add_44 : decode cX7_add 44 = .ok (.iconst 1, 1) := by decide +kernel
theorem dX7_add_45 : decode cX7_add 45 = .ok (.iadd, 1) := by decide +kernel
theorem dX7_add_46 : decode cX7_add 46 = .ok (.putfield 46, 3) := by decide +kernel
theorem dX7_add_49 : decode cX7_add 49 = .ok (.aload_n 0, 1) := by decide +kernel
theorem dX7_add_50 : decode cX7_add 50 = .ok (.getfield 13, 3) := by decide +kernel
theorem dX7_add_53 : decode cX7_add 53 = .ok (.iload_n 3, 1) := by decide +kernel
theorem dX7_add_54 : decode cX7_add 54 = .ok (.aload_n 0, 1) := by decide +kernel
theorem dX7_add_55 : decode cX7_add 55 = .ok (.getfield 46, 3) := by decide +kernel
theorem dX7_add_58 : decode cX7_add 58 = .ok (.iastore, 1) := by decide +kernel
theorem dX7_add_59 : decode cX7_add 59 = .ok (.iconst 1, 1) := by decide +kernel
theorem dX7_add_60 : decode cX7_add 60 = .ok (.ireturn, 1) := by decide +kernel
theorem dX7_slotOf_0 : decode cX7_slotOf 0 = .ok (.lload_n 1, 1) := by decide +kernel
theorem dX7_slotOf_1 : decode cX7_slotOf 1 = .ok (.ldc2_w 117, 3) := by decide +kernel
theorem dX7_slotOf_4 : decode cX7_slotOf 4 = .ok (.lmul, 1) := by decide +kernel
theorem dX7_slotOf_5 : decode cX7_slotOf 5 = .ok (.bipush 55, 2) := by decide +kernel
theorem dX7_slotOf_7 : decode cX7_slotOf 7 = .ok (.lushr, 1) := by decide +kernel
theorem dX7_slotOf_8 : decode cX7_slotOf 8 = .ok (.l2i, 1) := by decide +kernel
theorem dX7_slotOf_9 : decode cX7_slotOf 9 = .ok (.istore_n 3, 1) := by decide +kernel
theorem dX7_slotOf_10 : decode cX7_slotOf 10 = .ok (.iconst 0, 1) := by decide +kernel
theorem dX7_slotOf_11 : decode cX7_slotOf 11 = .ok (.istore 4, 2) := by decide +kernel
theorem dX7_slotOf_13 : decode cX7_slotOf 13 = .ok (.iload 4, 2) := by decide +kernel
theorem dX7_slotOf_15 : decode cX7_slotOf 15 = .ok (.sipush 512, 3) := by decide +kernel
theorem dX7_slotOf_18 : decode cX7_slotOf 18 = .ok (.if_icmp .ge 50, 3) := by decide +kernel
theorem dX7_slotOf_21 : decode cX7_slotOf 21 = .ok (.iload_n 3, 1) := by decide +kernel
theorem dX7_slotOf_22 : decode cX7_slotOf 22 = .ok (.iload 4, 2) := by decide +kernel
theorem dX7_slotOf_24 : decode cX7_slotOf 24 = .ok (.iadd, 1) := by decide +kernel
theorem dX7_slotOf_25 : decode cX7_slotOf 25 = .ok (.sipush 511, 3) := by decide +kernel
theorem dX7_slotOf_28 : decode cX7_slotOf 28 = .ok (.iand, 1) := by decide +kernel
theorem dX7_slotOf_29 : decode cX7_slotOf 29 = .ok (.istore 5, 2) := by decide +kernel
theorem dX7_slotOf_31 : decode cX7_slotOf 31 = .ok (.aload_n 0, 1) := by decide +kernel
theorem dX7_slotOf_32 : decode cX7_slotOf 32 = .ok (.getfield 13, 3) := by decide +kernel
theorem dX7_slotOf_35 : decode cX7_slotOf 35 = .ok (.iload 5, 2) := by decide +kernel
theorem dX7_slotOf_37 : decode cX7_slotOf 37 = .ok (.iaload, 1) := by decide +kernel
theorem dX7_slotOf_38 : decode cX7_slotOf 38 = .ok (.iconst 1, 1) := by decide +kernel
theorem dX7_slotOf_39 : decode cX7_slotOf 39 = .ok (.isub, 1) := by decide +kernel
theorem dX7_slotOf_40 : decode cX7_slotOf 40 = .ok (.istore 6, 2) := by decide +kernel
theorem dX7_slotOf_42 : decode cX7_slotOf 42 = .ok (.iload 6, 2) := by decide +kernel
theorem dX7_slotOf_44 : decode cX7_slotOf 44 = .ok (.ifCond .lt 15, 3) := by decide +kernel
theorem dX7_slotOf_47 : decode cX7_slotOf 47 = .ok (.aload_n 0, 1) := by decide +kernel
theorem dX7_slotOf_48 : decode cX7_slotOf 48 = .ok (.getfield 9, 3) := by decide +kernel
theorem dX7_slotOf_51 : decode cX7_slotOf 51 = .ok (.iload 6, 2) := by decide +kernel
theorem dX7_slotOf_53 : decode cX7_slotOf 53 = .ok (.laload, 1) := by decide +kernel
theorem dX7_slotOf_54 : decode cX7_slotOf 54 = .ok (.lload_n 1, 1) := by decide +kernel
theorem dX7_slotOf_55 : decode cX7_slotOf 55 = .ok (.lcmp, 1) := by decide +kernel
theorem dX7_slotOf_56 : decode cX7_slotOf 56 = .ok (.ifCond .ne 6, 3) := by decide +kernel
theorem dX7_slotOf_59 : decode cX7_slotOf 59 = .ok (.iload 5, 2) := by decide +kernel
theorem dX7_slotOf_61 : decode cX7_slotOf 61 = .ok (.ireturn, 1) := by decide +kernel
theorem dX7_slotOf_62 : decode cX7_slotOf 62 = .ok (.iinc 4 1, 3) := by decide +kernel
theorem dX7_slotOf_65 : decode cX7_slotOf 65 = .ok (.goto (-52), 3) := by decide +kernel
theorem dX7_slotOf_68 : decode cX7_slotOf 68 = .ok (.iconst 0, 1) := by decide +kernel
theorem dX7_slotOf_69 : decode cX7_slotOf 69 = .ok (.ireturn, 1) := by decide +kernel
set_option maxRecDepth 20000 in
theorem ggX8_init_X6_init : GoodIn wsX8_init wsX6_init := goodIn_r _ [30, 31, 2, 3, 25, 32, 67, 68] (by decide +kernel) (by decide +kernel)
set_option maxRecDepth 20000 in
theorem gX8_init_X6_init_n9 : GoodIn wsX8_init (wsX6_init) := ggX8_init_X6_init
set_option maxRecDepth 20000 in
theorem ggX8_init_X5_init : GoodIn wsX8_init wsX5_init := goodIn_r _ [34, 35, 2, 3, 36, 5, 6, 37, 29, 30, 31, 25, 32, 67, 68, 81, 82, 83, 84] (by decide +kernel) (by decide +kernel)
set_option maxRecDepth 20000 in
theorem gX8_init_X5_init_n21 : GoodIn wsX8_init (wsX5_init) := ggX8_init_X5_init
set_option maxRecDepth 20000 in
theorem ggX8_init_X2_init : GoodIn wsX8_init wsX2_init := goodIn_r _ [39, 40, 2, 3, 25, 41, 42, 85, 86, 87] (by decide +kernel) (by decide +kernel)
set_option maxRecDepth 20000 in
theorem gX8_init_X2_init_n28 : GoodIn wsX8_init (wsX2_init) := ggX8_init_X2_init
set_option maxRecDepth 20000 in
theorem ggX8_init_X1_init : GoodIn wsX8_init wsX1_init := goodIn_r _ [44, 45, 2, 3, 46, 25, 47, 88, 89, 90] (by decide +kernel) (by decide +kernel)
set_option maxRecDepth 20000 in
theorem gX8_init_X1_init_n35 : GoodIn wsX8_init (wsX1_init) := ggX8_init_X1_init
set_option maxRecDepth 20000 in
theorem ggX8_init_X7_init : GoodIn wsX8_init wsX7_init := goodIn_r _ [49, 50, 2, 3, 51, 52, 25, 53, 54, 55, 91, 92, 93, 94, 95, 96, 97, 98, 99, 100, 101, 102] (by decide +kernel) (by decide +kernel)
set_option maxRecDepth 20000 in
theorem gX8_init_X7_init_n42 : GoodIn wsX8_init (wsX7_init) := ggX8_init_X7_init
set_option maxRecDepth 20000 in
theorem ggX8_init_X6_startOver : GoodIn wsX8_init wsX6_startOver := goodIn_r _ [59, 60, 32, 61, 62, 6, 63, 64, 65, 66, 67, 68] (by decide +kernel) (by decide +kernel)
set_option maxRecDepth 20000 in
theorem gX8_init_X6_startOver : GoodIn wsX8_init (wsV RX8 58 RX6 yX6_startOver wsX6_startOver) := goodIn_app (goodIn_of _ (by decide +kernel)) ggX8_init_X6_startOver
theorem dX8_init_0 : decode cX8_init 0 = .ok (.aload_n 0, 1) := by decide +kernel
theorem dX8_init_1 : decode cX8_init 1 = .ok (.invokespecial 1, 3) := by decide +kernel
theorem dX8_init_4 : decode cX8_init 4 = .ok (.aload_n 0, 1) := by decide +kernel
theorem dX8_init_5 : decode cX8_init 5 = .ok (.new 7, 3) := by decide +kernel
theorem dX8_init_8 : decode cX8_init 8 = .ok (.dup, 1) := by decide +kernel
theorem dX8_init_9 : decode cX8_init 9 = .ok (.invokespecial 9, 3) := by decide +kernel
theorem dX8_init_12 : decode cX8_init 12 = .ok (.putfield 10, 3) := by decide +kernel
theorem dX8_init_15 : decode cX8_init 15 = .ok (.aload_n 0, 1) := by decide +kernel
theorem dX8_init_16 : decode cX8_init 16 = .ok (.new 7, 3) := by decide +kernel
theorem dX8_init_19 : decode cX8_init 19 = .ok (.dup, 1) := by decide +kernel
theorem dX8_init_20 : decode cX8_init 20 = .ok (.invokespecial 9, 3) := by decide +kernel
theorem dX8_init_23 : decode cX8_init 23 = .ok (.putfield 16, 3) := by decide +kernel
theorem dX8_init_26 : decode cX8_init 26 = .ok (.aload_n 0, 1) := by decide +kernel
theorem dX8_init_27 : decode cX8_init 27 = .ok (.new 19, 3) := by decide +kernel
theorem dX8_init_30 : decode cX8_init 30 = .ok (.dup, 1) := by decide +kernel
theorem dX8_init_31 : decode cX8_init 31 = .ok (.invokespecial 21, 3) := by decide +kernel
theorem dX8_init_34 : decode cX8_init 34 = .ok (.putfield 22, 3) := by decide +kernel
theorem dX8_init_37 : decode cX8_init 37 = .ok (.aload_n 0, 1) := by decide +kernel
theorem dX8_init_38 : decode cX8_init 38 = .ok (.new 26, 3) := by decide +kernel
theorem dX8_init_41 : decode cX8_init 41 = .ok (.dup, 1) := by decide +kernel
theorem dX8_init_42 : decode cX8_init 42 = .ok (.invokespecial 28, 3) := by decide +kernel
theorem dX8_init_45 : decode cX8_init 45 = .ok (.putfield 29, 3) := by decide +kernel
theorem dX8_init_48 : decode cX8_init 48 = .ok (.aload_n 0, 1) := by decide +kernel
theorem dX8_init_49 : decode cX8_init 49 = .ok (.new 33, 3) := by decide +kernel
theorem dX8_init_52 : decode cX8_init 52 = .ok (.dup, 1) := by decide +kernel
theorem dX8_init_53 : decode cX8_init 53 = .ok (.invokespecial 35, 3) := by decide +kernel
theorem dX8_init_56 : decode cX8_init 56 = .ok (.putfield 36, 3) := by decide +kernel
theorem dX8_init_59 : decode cX8_init 59 = .ok (.aload_n 0, 1) := by decide +kernel
theorem dX8_init_60 : decode cX8_init 60 = .ok (.new 40, 3) := by decide +kernel
theorem dX8_init_63 : decode cX8_init 63 = .ok (.dup, 1) := by decide +kernel
theorem dX8_init_64 : decode cX8_init 64 = .ok (.invokespecial 42, 3) := by decide +kernel
theorem dX8_init_67 : decode cX8_init 67 = .ok (.putfield 43, 3) := by decide +kernel
theorem dX8_init_70 : decode cX8_init 70 = .ok (.aload_n 0, 1) := by decide +kernel
theorem dX8_init_71 : decode cX8_init 71 = .ok (.bipush 60, 2) := by decide +kernel
theorem dX8_init_73 : decode cX8_init 73 = .ok (.newarray .int, 2) := by decide +kernel
theorem dX8_init_75 : decode cX8_init 75 = .ok (.putfield 47, 3) := by decide +kernel
theorem dX8_init_78 : decode cX8_init 78 = .ok (.aload_n 0, 1) := by decide +kernel
theorem dX8_init_79 : decode cX8_init 79 = .ok (.bipush 6, 2) := by decide +kernel
theorem dX8_init_81 : decode cX8_init 81 = .ok (.newarray .int, 2) := by decide +kernel
theorem dX8_init_83 : decode cX8_init 83 = .ok (.putfield 51, 3) := by decide +kernel
theorem dX8_init_86 : decode cX8_init 86 = .ok (.aload_n 0, 1) := by decide +kernel
theorem dX8_init_87 : decode cX8_init 87 = .ok (.iconst 2, 1) := by decide +kernel
theorem dX8_init_88 : decode cX8_init 88 = .ok (.anewarray 7, 3) := by decide +kernel
theorem dX8_init_91 : decode cX8_init 91 = .ok (.dup, 1) := by decide +kernel
theorem dX8_init_92 : decode cX8_init 92 = .ok (.iconst 0, 1) := by decide +kernel
theorem dX8_init_93 : decode cX8_init 93 = .ok (.new 7, 3) := by decide +kernel
theorem dX8_init_96 : decode cX8_init 96 = .ok (.dup, 1) := by decide +kernel
theorem dX8_init_97 : decode cX8_init 97 = .ok (.invokespecial 9, 3) := by decide +kernel
theorem dX8_init_100 : decode cX8_init 100 = .ok (.aastore, 1) := by decide +kernel
theorem dX8_init_101 : decode cX8_init 101 = .ok (.dup, 1) := by decide +kernel
theorem dX8_init_102 : decode cX8_init 102 = .ok (.iconst 1, 1) := by decide +kernel
theorem dX8_init_103 : decode cX8_init 103 = .ok (.new 7, 3) := by decide +kernel
theorem dX8_init_106 : decode cX8_init 106 = .ok (.dup, 1) := by decide +kernel
theorem dX8_init_107 : decode cX8_init 107 = .ok (.invokespecial 9, 3) := by decide +kernel
theorem dX8_init_110 : decode cX8_init 110 = .ok (.aastore, 1) := by decide +kernel
theorem dX8_init_111 : decode cX8_init 111 = .ok (.putfield 54, 3) := by decide +kernel
theorem dX8_init_114 : decode cX8_init 114 = .ok (.aload_n 0, 1) := by decide +kernel
theorem dX8_init_115 : decode cX8_init 115 = .ok (.getfield 10, 3) := by decide +kernel
theorem dX8_init_118 : decode cX8_init 118 = .ok (.iconst 2, 1) := by decide +kernel
theorem dX8_init_119 : decode cX8_init 119 = .ok (.invokevirtual 58, 3) := by decide +kernel
theorem dX8_init_122 : decode cX8_init 122 = .ok (.return_, 1) := by decide +kernel
theorem dX8_type_0 : decode cX8_type 0 = .ok (.iload_n 1, 1) := by decide +kernel
theorem dX8_type_1 : decode cX8_type 1 = .ok (.ifCond .lt 10, 3) := by decide +kernel
theorem dX8_type_4 : decode cX8_type 4 = .ok (.iload_n 1, 1) := by decide +kernel
theorem dX8_type_5 : decode cX8_type 5 = .ok (.sipush 255, 3) := by decide +kernel
theorem dX8_type_8 : decode cX8_type 8 = .ok (.if_icmp .le 6, 3) := by decide +kernel
theorem dX8_type_11 : decode cX8_type 11 = .ok (.bipush (-2), 2) := by decide +kernel
theorem dX8_type_13 : decode cX8_type 13 = .ok (.ireturn, 1) := by decide +kernel
theorem dX8_type_14 : decode cX8_type 14 = .ok (.aload_n 0, 1) := by decide +kernel
theorem dX8_type_15 : decode cX8_type 15 = .ok (.getfield 62, 3) := by decide +kernel
theorem dX8_type_18 : decode cX8_type 18 = .ok (.aload_n 0, 1) := by decide +kernel
theorem dX8_type_19 : decode cX8_type 19 = .ok (.getfield 47, 3) := by decide +kernel
theorem dX8_type_22 : decode cX8_type 22 = .ok (.arraylength, 1) := by decide +kernel
theorem dX8_type_23 : decode cX8_type 23 = .ok (.if_icmp .lt 6, 3) := by decide +kernel
theorem dX8_type_26 : decode cX8_type 26 = .ok (.bipush (-4), 2) := by decide +kernel
theorem dX8_type_28 : decode cX8_type 28 = .ok (.ireturn, 1) := by decide +kernel
theorem dX8_type_29 : decode cX8_type 29 = .ok (.aload_n 0, 1) := by decide +kernel
theorem dX8_type_30 : decode cX8_type 30 = .ok (.getfield 47, 3) := by decide +kernel
theorem dX8_type_33 : decode cX8_type 33 = .ok (.aload_n 0, 1) := by decide +kernel
theorem dX8_type_34 : decode cX8_type 34 = .ok (.getfield 62, 3) := by decide +kernel
theorem dX8_type_37 : decode cX8_type 37 = .ok (.iload_n 1, 1) := by decide +kernel
theorem dX8_type_38 : decode cX8_type 38 = .ok (.iastore, 1) := by decide +kernel
theorem dX8_type_39 : decode cX8_type 39 = .ok (.aload_n 0, 1) := by decide +kernel
theorem dX8_type_40 : decode cX8_type 40 = .ok (.dup, 1) := by decide +kernel
theorem dX8_type_41 : decode cX8_type 41 = .ok (.getfield 62, 3) := by decide +kernel
theorem dX8_type_44 : decode cX8_type 44 = .ok (.iconst 1, 1) := by decide +kernel
theorem dX8_type_45 : decode cX8_type 45 = .ok (.iadd, 1) := by decide +kernel
theorem dX8_type_46 : decode cX8_type 46 = .ok (.putfield 62, 3) := by decide +kernel
theorem dX8_type_49 : decode cX8_type 49 = .ok (.aload_n 0, 1) := by decide +kernel
theorem dX8_type_50 : decode cX8_type 50 = .ok (.getfield 62, 3) := by decide +kernel
theorem dX8_type_53 : decode cX8_type 53 = .ok (.ireturn, 1) := by decide +kernel
theorem dX8_clear_0 : decode cX8_clear 0 = .ok (.aload_n 0, 1) := by decide +kernel
theorem dX8_clear_1 : decode cX8_clear 1 = .ok (.getfield 62, 3) := by decide +kernel
theorem dX8_clear_4 : decode cX8_clear 4 = .ok (.istore_n 1, 1) := by decide +kernel
theorem dX8_clear_5 : decode cX8_clear 5 = .ok (.aload_n 0, 1) := by decide +kernel
theorem dX8_clear_6 : decode cX8_clear 6 = .ok (.iconst 0, 1) := by decide +kernel
theorem dX8_clear_7 : decode cX8_clear 7 = .ok (.putfield 62, 3) := by decide +kernel
theorem dX8_clear_10 : decode cX8_clear 10 = .ok (.iload_n 1, 1) := by decide +kernel
theorem dX8_clear_11 : decode cX8_clear 11 = .ok (.ireturn, 1) := by decide +kernel
set_option maxRecDepth 20000 in
theorem ggX8_tables_X5_faultOf : GoodIn wsX8_tables wsX5_faultOf := goodIn_r _ [14, 15, 16, 17, 18, 19, 20, 21, 22, 23, 24, 25, 26, 27, 28, 29, 30, 31, 32, 33, 13, 34, 35, 36, 37, 38, 39, 40, 41, 42, 43, 44, 45, 46, 47, 48, 49, 50, 51, 52, 53, 54, 55, 56, 57, 58, 59, 60, 61, 62, 63, 64, 65, 66, 67, 68, 69, 70, 71, 72, 73, 74, 75, 76, 77, 78, 105, 106, 107, 108, 109, 110] (by decide +kernel) (by decide +kernel)
set_option maxRecDepth 20000 in
theorem gX8_tables_X5_faultOf : GoodIn wsX8_tables (wsV RX8 66 RX5 yX5_faultOf wsX5_faultOf) := goodIn_app (goodIn_of _ (by decide +kernel)) ggX8_tables_X5_faultOf
set_option maxRecDepth 20000 in
theorem ggX8_tables_X6_copyFrom : GoodIn wsX8_tables wsX6_copyFrom := goodIn_r _ [82, 23, 24, 83, 84, 85, 86, 109, 110] (by decide +kernel) (by decide +kernel)
set_option maxRecDepth 20000 in
theorem gX8_tables_X6_copyFrom : GoodIn wsX8_tables (wsV RX8 73 RX6 yX6_copyFrom wsX6_copyFrom) := goodIn_app (goodIn_of _ (by decide +kernel)) ggX8_tables_X6_copyFrom
set_option maxRecDepth 20000 in
theorem ggX8_tables_X2_loseAll : GoodIn wsX8_tables wsX2_loseAll := goodIn_r _ [91, 92, 111, 112, 113] (by decide +kernel) (by decide +kernel)
set_option maxRecDepth 20000 in
theorem gX8_tables_X2_loseAll : GoodIn wsX8_tables (wsV RX8 77 RX2 yX2_loseAll wsX2_loseAll) := goodIn_app (goodIn_of _ (by decide +kernel)) ggX8_tables_X2_loseAll
theorem dX8_tables_0 : decode cX8_tables 0 = .ok (.aload_n 0, 1) := by decide +kernel
theorem dX8_tables_1 : decode cX8_tables 1 = .ok (.getfield 22, 3) := by decide +kernel
theorem dX8_tables_4 : decode cX8_tables 4 = .ok (.aload_n 0, 1) := by decide +kernel
theorem dX8_tables_5 : decode cX8_tables 5 = .ok (.getfield 47, 3) := by decide +kernel
theorem dX8_tables_8 : decode cX8_tables 8 = .ok (.aload_n 0, 1) := by decide +kernel
theorem dX8_tables_9 : decode cX8_tables 9 = .ok (.getfield 62, 3) := by decide +kernel
theorem dX8_tables_12 : decode cX8_tables 12 = .ok (.invokevirtual 66, 3) := by decide +kernel
theorem dX8_tables_15 : decode cX8_tables 15 = .ok (.istore_n 1, 1) := by decide +kernel
theorem dX8_tables_16 : decode cX8_tables 16 = .ok (.iload_n 1, 1) := by decide +kernel
theorem dX8_tables_17 : decode cX8_tables 17 = .ok (.iconst (-1), 1) := by decide +kernel
theorem dX8_tables_18 : decode cX8_tables 18 = .ok (.if_icmp .eq 8, 3) := by decide +kernel
theorem dX8_tables_21 : decode cX8_tables 21 = .ok (.bipush (-10), 2) := by decide +kernel
theorem dX8_tables_23 : decode cX8_tables 23 = .ok (.iload_n 1, 1) := by decide +kernel
theorem dX8_tables_24 : decode cX8_tables 24 = .ok (.isub, 1) := by decide +kernel
theorem dX8_tables_25 : decode cX8_tables 25 = .ok (.ireturn, 1) := by decide +kernel
theorem dX8_tables_26 : decode cX8_tables 26 = .ok (.aload_n 0, 1) := by decide +kernel
theorem dX8_tables_27 : decode cX8_tables 27 = .ok (.getfield 10, 3) := by decide +kernel
theorem dX8_tables_30 : decode cX8_tables 30 = .ok (.aload_n 0, 1) := by decide +kernel
theorem dX8_tables_31 : decode cX8_tables 31 = .ok (.getfield 22, 3) := by decide +kernel
theorem dX8_tables_34 : decode cX8_tables 34 = .ok (.getfield 70, 3) := by decide +kernel
theorem dX8_tables_37 : decode cX8_tables 37 = .ok (.invokevirtual 73, 3) := by decide +kernel
theorem dX8_tables_40 : decode cX8_tables 40 = .ok (.aload_n 0, 1) := by decide +kernel
theorem dX8_tables_41 : decode cX8_tables 41 = .ok (.iconst 0, 1) := by decide +kernel
theorem dX8_tables_42 : decode cX8_tables 42 = .ok (.putfield 62, 3) := by decide +kernel
theorem dX8_tables_45 : decode cX8_tables 45 = .ok (.aload_n 0, 1) := by decide +kernel
theorem dX8_tables_46 : decode cX8_tables 46 = .ok (.getfield 29, 3) := by decide +kernel
theorem dX8_tables_49 : decode cX8_tables 49 = .ok (.invokevirtual 77, 3) := by decide +kernel
theorem dX8_tables_52 : decode cX8_tables 52 = .ok (.aload_n 0, 1) := by decide +kernel
theorem dX8_tables_53 : decode cX8_tables 53 = .ok (.iconst 0, 1) := by decide +kernel
theorem dX8_tables_54 : decode cX8_tables 54 = .ok (.putfield 80, 3) := by decide +kernel
theorem dX8_tables_57 : decode cX8_tables 57 = .ok (.aload_n 0, 1) := by decide +kernel
theorem dX8_tables_58 : decode cX8_tables 58 = .ok (.iconst 0, 1) := by decide +kernel
theorem dX8_tables_59 : decode cX8_tables 59 = .ok (.putfield 83, 3) := by decide +kernel
theorem dX8_tables_62 : decode cX8_tables 62 = .ok (.aload_n 0, 1) := by decide +kernel
theorem dX8_tables_63 : decode cX8_tables 63 = .ok (.getfield 22, 3) := by decide +kernel
theorem dX8_tables_66 : decode cX8_tables 66 = .ok (.getfield 86, 3) := by decide +kernel
theorem dX8_tables_69 : decode cX8_tables 69 = .ok (.ireturn, 1) := by decide +kernel
set_option maxRecDepth 20000 in
theorem ggX8_f_X6_has : GoodIn wsX8_f wsX6_has := goodIn_r _ [6, 7, 28, 29] (by decide +kernel) (by decide +kernel)
set_option maxRecDepth 20000 in
theorem gX8_f_X6_has : GoodIn wsX8_f (wsV RX8 89 RX6 yX6_has wsX6_has) := goodIn_app (goodIn_of _ (by decide +kernel)) ggX8_f_X6_has
set_option maxRecDepth 20000 in
theorem ggX8_f_X6_two : GoodIn wsX8_f wsX6_two := goodIn_r _ [11, 12, 13, 14, 5, 15, 28, 29] (by decide +kernel) (by decide +kernel)
set_option maxRecDepth 20000 in
theorem gX8_f_X6_two : GoodIn wsX8_f (wsV RX8 93 RX6 yX6_two wsX6_two) := goodIn_app (goodIn_of _ (by decide +kernel)) ggX8_f_X6_two
theorem dX8_f_0 : decode cX8_f 0 = .ok (.aload_n 0, 1) := by decide +kernel
theorem dX8_f_1 : decode cX8_f 1 = .ok (.getfield 10, 3) := by decide +kernel
theorem dX8_f_4 : decode cX8_f 4 = .ok (.iload_n 1, 1) := by decide +kernel
theorem dX8_f_5 : decode cX8_f 5 = .ok (.invokevirtual 89, 3) := by decide +kernel
theorem dX8_f_8 : decode cX8_f 8 = .ok (.ifCond .eq 26, 3) := by decide +kernel
theorem dX8_f_11 : decode cX8_f 11 = .ok (.aload_n 0, 1) := by decide +kernel
theorem dX8_f_12 : decode cX8_f 12 = .ok (.getfield 10, 3) := by decide +kernel
theorem dX8_f_15 : decode cX8_f 15 = .ok (.iload_n 2, 1) := by decide +kernel
theorem dX8_f_16 : decode cX8_f 16 = .ok (.invokevirtual 89, 3) := by decide +kernel
theorem dX8_f_19 : decode cX8_f 19 = .ok (.ifCond .eq 15, 3) := by decide +kernel
theorem dX8_f_22 : decode cX8_f 22 = .ok (.aload_n 0, 1) := by decide +kernel
theorem dX8_f_23 : decode cX8_f 23 = .ok (.getfield 10, 3) := by decide +kernel
theorem dX8_f_26 : decode cX8_f 26 = .ok (.iload_n 1, 1) := by decide +kernel
theorem dX8_f_27 : decode cX8_f 27 = .ok (.iload_n 2, 1) := by decide +kernel
theorem dX8_f_28 : decode cX8_f 28 = .ok (.invokevirtual 93, 3) := by decide +kernel
theorem dX8_f_31 : decode cX8_f 31 = .ok (.goto 5, 3) := by decide +kernel
theorem dX8_f_34 : decode cX8_f 34 = .ok (.bipush (-2), 2) := by decide +kernel
theorem dX8_f_36 : decode cX8_f 36 = .ok (.ireturn, 1) := by decide +kernel
set_option maxRecDepth 20000 in
theorem ggX8_g_X6_has : GoodIn wsX8_g wsX6_has := goodIn_r _ [6, 7, 28, 29] (by decide +kernel) (by decide +kernel)
set_option maxRecDepth 20000 in
theorem gX8_g_X6_has : GoodIn wsX8_g (wsV RX8 89 RX6 yX6_has wsX6_has) := goodIn_app (goodIn_of _ (by decide +kernel)) ggX8_g_X6_has
set_option maxRecDepth 20000 in
theorem ggX8_g_X6_one : GoodIn wsX8_g wsX6_one := goodIn_r _ [11, 12, 13, 14, 5, 15, 28, 29] (by decide +kernel) (by decide +kernel)
set_option maxRecDepth 20000 in
theorem gX8_g_X6_one : GoodIn wsX8_g (wsV RX8 97 RX6 yX6_one wsX6_one) := goodIn_app (goodIn_of _ (by decide +kernel)) ggX8_g_X6_one
theorem dX8_g_0 : decode cX8_g 0 = .ok (.aload_n 0, 1) := by decide +kernel
theorem dX8_g_1 : decode cX8_g 1 = .ok (.getfield 10, 3) := by decide +kernel
theorem dX8_g_4 : decode cX8_g 4 = .ok (.iload_n 1, 1) := by decide +kernel
theorem dX8_g_5 : decode cX8_g 5 = .ok (.invokevirtual 89, 3) := by decide +kernel
theorem dX8_g_8 : decode cX8_g 8 = .ok (.ifCond .eq 14, 3) := by decide +kernel
theorem dX8_g_11 : decode cX8_g 11 = .ok (.aload_n 0, 1) := by decide +kernel
theorem dX8_g_12 : decode cX8_g 12 = .ok (.getfield 10, 3) := by decide +kernel
theorem dX8_g_15 : decode cX8_g 15 = .ok (.iload_n 1, 1) := by decide +kernel
theorem dX8_g_16 : decode cX8_g 16 = .ok (.invokevirtual 97, 3) := by decide +kernel
theorem dX8_g_19 : decode cX8_g 19 = .ok (.goto 5, 3) := by decide +kernel
theorem dX8_g_22 : decode cX8_g 22 = .ok (.bipush (-2), 2) := by decide +kernel
theorem dX8_g_24 : decode cX8_g 24 = .ok (.ireturn, 1) := by decide +kernel
set_option maxRecDepth 20000 in
theorem ggX8_sets_X6_has : GoodIn wsX8_sets wsX6_has := goodIn_r _ [7, 8, 52, 53] (by decide +kernel) (by decide +kernel)
set_option maxRecDepth 20000 in
theorem gX8_sets_X6_has : GoodIn wsX8_sets (wsV RX8 89 RX6 yX6_has wsX6_has) := goodIn_app (goodIn_of _ (by decide +kernel)) ggX8_sets_X6_has
set_option maxRecDepth 20000 in
theorem ggX8_sets_X6_placeOfOne : GoodIn wsX8_sets wsX6_placeOfOne := goodIn_r _ [11] (by decide +kernel) (by decide +kernel)
set_option maxRecDepth 20000 in
theorem gX8_sets_X6_placeOfOne : GoodIn wsX8_sets (va_wsS RX8 101 yX6_placeOfOne wsX6_placeOfOne) := goodIn_app (goodIn_of _ (by decide +kernel)) ggX8_sets_X6_placeOfOne
set_option maxRecDepth 20000 in
theorem ggX8_sets_X6_placeOfTwo : GoodIn wsX8_sets wsX6_placeOfTwo := goodIn_r _ [14] (by decide +kernel) (by decide +kernel)
set_option maxRecDepth 20000 in
theorem gX8_sets_X6_placeOfTwo : GoodIn wsX8_sets (va_wsS RX8 104 yX6_placeOfTwo wsX6_placeOfTwo) := goodIn_app (goodIn_of _ (by decide +kernel)) ggX8_sets_X6_placeOfTwo
set_option maxRecDepth 20000 in
theorem ggX8_sets_X6_at : GoodIn wsX8_sets wsX6_at := goodIn_r _ [18, 19, 52, 53] (by decide +kernel) (by decide +kernel)
set_option maxRecDepth 20000 in
theorem gX8_sets_X6_at : GoodIn wsX8_sets (wsV RX8 107 RX6 yX6_at wsX6_at) := goodIn_app (goodIn_of _ (by decide +kernel)) ggX8_sets_X6_at
set_option maxRecDepth 20000 in
theorem ggX8_sets_X2_note : GoodIn wsX8_sets wsX2_note := goodIn_r _ [24, 25, 26, 27, 28, 29, 30, 23, 31, 32, 33, 34, 35, 54, 55, 56] (by decide +kernel) (by decide +kernel)
set_option maxRecDepth 20000 in
theorem gX8_sets_X2_note : GoodIn wsX8_sets (wsV RX8 110 RX2 yX2_note wsX2_note) := goodIn_app (goodIn_of _ (by decide +kernel)) ggX8_sets_X2_note
set_option maxRecDepth 20000 in
theorem ggX8_sets_X6_put : GoodIn wsX8_sets wsX6_put := goodIn_r _ [39, 19, 52, 53] (by decide +kernel) (by decide +kernel)
set_option maxRecDepth 20000 in
theorem gX8_sets_X6_put : GoodIn wsX8_sets (wsV RX8 114 RX6 yX6_put wsX6_put) := goodIn_app (goodIn_of _ (by decide +kernel)) ggX8_sets_X6_put
theorem dX8_sets_0 : decode cX8_sets 0 = .ok (.aload_n 0, 1) := by decide +kernel
theorem dX8_sets_1 : decode cX8_sets 1 = .ok (.getfield 10, 3) := by decide +kernel
theorem dX8_sets_4 : decode cX8_sets 4 = .ok (.iload_n 1, 1) := by decide +kernel
theorem dX8_sets_5 : decode cX8_sets 5 = .ok (.invokevirtual 89, 3) := by decide +kernel
theorem dX8_sets_8 : decode cX8_sets 8 = .ok (.ifCond .eq 30, 3) := by decide +kernel
theorem dX8_sets_11 : decode cX8_sets 11 = .ok (.aload_n 0, 1) := by decide +kernel
theorem dX8_sets_12 : decode cX8_sets 12 = .ok (.getfield 10, 3) := by decide +kernel
theorem dX8_sets_15 : decode cX8_sets 15 = .ok (.iload_n 3, 1) := by decide +kernel
theorem dX8_sets_16 : decode cX8_sets 16 = .ok (.invokevirtual 89, 3) := by decide +kernel
theorem dX8_sets_19 : decode cX8_sets 19 = .ok (.ifCond .eq 19, 3) := by decide +kernel
theorem dX8_sets_22 : decode cX8_sets 22 = .ok (.iload_n 2, 1) := by decide +kernel
theorem dX8_sets_23 : decode cX8_sets 23 = .ok (.iconst (-1), 1) := by decide +kernel
theorem dX8_sets_24 : decode cX8_sets 24 = .ok (.if_icmp .eq 17, 3) := by decide +kernel
theorem dX8_sets_27 : decode cX8_sets 27 = .ok (.aload_n 0, 1) := by decide +kernel
theorem dX8_sets_28 : decode cX8_sets 28 = .ok (.getfield 10, 3) := by decide +kernel
theorem dX8_sets_31 : decode cX8_sets 31 = .ok (.iload_n 2, 1) := by decide +kernel
theorem dX8_sets_32 : decode cX8_sets 32 = .ok (.invokevirtual 89, 3) := by decide +kernel
theorem dX8_sets_35 : decode cX8_sets 35 = .ok (.ifCond .ne 6, 3) := by decide +kernel
theorem dX8_sets_38 : decode cX8_sets 38 = .ok (.bipush (-2), 2) := by decide +kernel
theorem dX8_sets_40 : decode cX8_sets 40 = .ok (.ireturn, 1) := by decide +kernel
theorem dX8_sets_41 : decode cX8_sets 41 = .ok (.iload_n 2, 1) := by decide +kernel
theorem dX8_sets_42 : decode cX8_sets 42 = .ok (.iconst (-1), 1) := by decide +kernel
theorem dX8_sets_43 : decode cX8_sets 43 = .ok (.if_icmp .ne 10, 3) := by decide +kernel
theorem dX8_sets_46 : decode cX8_sets 46 = .ok (.iload_n 1, 1) := by decide +kernel
theorem dX8_sets_47 : decode cX8_sets 47 = .ok (.invokestatic 101, 3) := by decide +kernel
theorem dX8_sets_50 : decode cX8_sets 50 = .ok (.goto 8, 3) := by decide +kernel
theorem dX8_sets_53 : decode cX8_sets 53 = .ok (.iload_n 1, 1) := by decide +kernel
theorem dX8_sets_54 : decode cX8_sets 54 = .ok (.iload_n 2, 1) := by decide +kernel
theorem dX8_sets_55 : decode cX8_sets 55 = .ok (.invokestatic 104, 3) := by decide +kernel
theorem dX8_sets_58 : decode cX8_sets 58 = .ok (.istore 4, 2) := by decide +kernel
theorem dX8_sets_60 : decode cX8_sets 60 = .ok (.aload_n 0, 1) := by decide +kernel
theorem dX8_sets_61 : decode cX8_sets 61 = .ok (.getfield 10, 3) := by decide +kernel
theorem dX8_sets_64 : decode cX8_sets 64 = .ok (.iload 4, 2) := by decide +kernel
theorem dX8_sets_66 : decode cX8_sets 66 = .ok (.invokevirtual 107, 3) := by decide +kernel
theorem dX8_sets_69 : decode cX8_sets 69 = .ok (.istore 5, 2) := by decide +kernel
theorem dX8_sets_71 : decode cX8_sets 71 = .ok (.iload 5, 2) := by decide +kernel
theorem dX8_sets_73 : decode cX8_sets 73 = .ok (.iload_n 3, 1) := by decide +kernel
theorem dX8_sets_74 : decode cX8_sets 74 = .ok (.if_icmp .ne 6, 3) := by decide +kernel
theorem dX8_sets_77 : decode cX8_sets 77 = .ok (.bipush (-3), 2) := by decide +kernel
theorem dX8_sets_79 : decode cX8_sets 79 = .ok (.ireturn, 1) := by decide +kernel
theorem dX8_sets_80 : decode cX8_sets 80 = .ok (.aload_n 0, 1) := by decide +kernel
theorem dX8_sets_81 : decode cX8_sets 81 = .ok (.getfield 29, 3) := by decide +kernel
theorem dX8_sets_84 : decode cX8_sets 84 = .ok (.iload 4, 2) := by decide +kernel
theorem dX8_sets_86 : decode cX8_sets 86 = .ok (.iload 5, 2) := by decide +kernel
theorem dX8_sets_88 : decode cX8_sets 88 = .ok (.invokevirtual 110, 3) := by decide +kernel
theorem dX8_sets_91 : decode cX8_sets 91 = .ok (.aload_n 0, 1) := by decide +kernel
theorem dX8_sets_92 : decode cX8_sets 92 = .ok (.getfield 10, 3) := by decide +kernel
theorem dX8_sets_95 : decode cX8_sets 95 = .ok (.iload 4, 2) := by decide +kernel
theorem dX8_sets_97 : decode cX8_sets 97 = .ok (.iload_n 3, 1) := by decide +kernel
theorem dX8_sets_98 : decode cX8_sets 98 = .ok (.invokevirtual 114, 3) := by decide +kernel
theorem dX8_sets_101 : decode cX8_sets 101 = .ok (.iload 5, 2) := by decide +kernel
theorem dX8_sets_103 : decode cX8_sets 103 = .ok (.ireturn, 1) := by decide +kernel
set_option maxRecDepth 20000 in
theorem ggX8_undo_X2_takeBackIn : GoodIn wsX8_undo wsX2_takeBackIn := goodIn_r _ [8, 9, 10, 11, 12, 13, 14, 15, 16, 17, 30, 31, 32, 33, 34] (by decide +kernel) (by decide +kernel)
set_option maxRecDepth 20000 in
theorem gX8_undo_X2_takeBackIn : GoodIn wsX8_undo (wsV RX8 120 RX2 yX2_takeBackIn wsX2_takeBackIn) := goodIn_app (goodIn_of _ (by decide +kernel)) ggX8_undo_X2_takeBackIn
theorem dX8_undo_0 : decode cX8_undo 0 = .ok (.aload_n 0, 1) := by decide +kernel
theorem dX8_undo_1 : decode cX8_undo 1 = .ok (.getfield 29, 3) := by decide +kernel
theorem dX8_undo_4 : decode cX8_undo 4 = .ok (.getfield 117, 3) := by decide +kernel
theorem dX8_undo_7 : decode cX8_undo 7 = .ok (.ifCond .ne 6, 3) := by decide +kernel
theorem dX8_undo_10 : decode cX8_undo 10 = .ok (.bipush (-3), 2) := by decide +kernel
theorem dX8_undo_12 : decode cX8_undo 12 = .ok (.ireturn, 1) := by decide +kernel
theorem dX8_undo_13 : decode cX8_undo 13 = .ok (.aload_n 0, 1) := by decide +kernel
theorem dX8_undo_14 : decode cX8_undo 14 = .ok (.getfield 29, 3) := by decide +kernel
theorem dX8_undo_17 : decode cX8_undo 17 = .ok (.aload_n 0, 1) := by decide +kernel
theorem dX8_undo_18 : decode cX8_undo 18 = .ok (.getfield 10, 3) := by decide +kernel
theorem dX8_undo_21 : decode cX8_undo 21 = .ok (.invokevirtual 120, 3) := by decide +kernel
theorem dX8_undo_24 : decode cX8_undo 24 = .ok (.aload_n 0, 1) := by decide +kernel
theorem dX8_undo_25 : decode cX8_undo 25 = .ok (.getfield 29, 3) := by decide +kernel
theorem dX8_undo_28 : decode cX8_undo 28 = .ok (.getfield 117, 3) := by decide +kernel
theorem dX8_undo_31 : decode cX8_undo 31 = .ok (.ireturn, 1) := by decide +kernel
set_option maxRecDepth 20000 in
theorem ggX8_made_X6_allElements : GoodIn wsX8_made wsX6_allElements := goodIn_r _ [6, 7, 43, 44] (by decide +kernel) (by decide +kernel)
set_option maxRecDepth 20000 in
theorem gX8_made_X6_allElements : GoodIn wsX8_made (wsV RX8 123 RX6 yX6_allElements wsX6_allElements) := goodIn_app (goodIn_of _ (by decide +kernel)) ggX8_made_X6_allElements
set_option maxRecDepth 20000 in
theorem ggX8_made_X0_leastAround : GoodIn wsX8_made wsX0_leastAround := goodIn_r _ [11, 12, 13, 10, 14, 15, 16, 17, 18, 5, 19, 20, 21, 22, 23, 24, 25, 26, 27, 28, 29, 30, 43, 44] (by decide +kernel) (by decide +kernel)
set_option maxRecDepth 20000 in
theorem gX8_made_X0_leastAround : GoodIn wsX8_made (va_wsS RX8 127 yX0_leastAround wsX0_leastAround) := goodIn_app (goodIn_of _ (by decide +kernel)) ggX8_made_X0_leastAround
theorem dX8_made_0 : decode cX8_made 0 = .ok (.iload_n 1, 1) := by decide +kernel
theorem dX8_made_1 : decode cX8_made 1 = .ok (.ifCond .lt 14, 3) := by decide +kernel
theorem dX8_made_4 : decode cX8_made 4 = .ok (.iload_n 1, 1) := by decide +kernel
theorem dX8_made_5 : decode cX8_made 5 = .ok (.aload_n 0, 1) := by decide +kernel
theorem dX8_made_6 : decode cX8_made 6 = .ok (.getfield 10, 3) := by decide +kernel
theorem dX8_made_9 : decode cX8_made 9 = .ok (.invokevirtual 123, 3) := by decide +kernel
theorem dX8_made_12 : decode cX8_made 12 = .ok (.if_icmp .le 8, 3) := by decide +kernel
theorem dX8_made_15 : decode cX8_made 15 = .ok (.bipush (-2), 2) := by decide +kernel
theorem dX8_made_17 : decode cX8_made 17 = .ok (.goto 11, 3) := by decide +kernel
theorem dX8_made_20 : decode cX8_made 20 = .ok (.aload_n 0, 1) := by decide +kernel
theorem dX8_made_21 : decode cX8_made 21 = .ok (.getfield 10, 3) := by decide +kernel
theorem dX8_made_24 : decode cX8_made 24 = .ok (.iload_n 1, 1) := by decide +kernel
theorem dX8_made_25 : decode cX8_made 25 = .ok (.invokestatic 127, 3) := by decide +kernel
theorem dX8_made_28 : decode cX8_made 28 = .ok (.ireturn, 1) := by decide +kernel
set_option maxRecDepth 20000 in
theorem ggX8_closed_X0_byNumber : GoodIn wsX8_closed wsX0_byNumber := goodIn_r _ [5, 6, 7, 8, 9, 10, 11, 12, 13, 4, 14, 15, 16, 17, 18, 19, 20, 21, 22, 23, 24, 25, 26, 27, 28, 29, 30, 31, 32, 33, 46, 47] (by decide +kernel) (by decide +kernel)
set_option maxRecDepth 20000 in
theorem gX8_closed_X0_byNumber : GoodIn wsX8_closed (va_wsS RX8 133 yX0_byNumber wsX0_byNumber) := goodIn_app (goodIn_of _ (by decide +kernel)) ggX8_closed_X0_byNumber
theorem dX8_closed_0 : decode cX8_closed 0 = .ok (.iload_n 1, 1) := by decide +kernel
theorem dX8_closed_1 : decode cX8_closed 1 = .ok (.ifCond .ge 8, 3) := by decide +kernel
theorem dX8_closed_4 : decode cX8_closed 4 = .ok (.bipush (-2), 2) := by decide +kernel
theorem dX8_closed_6 : decode cX8_closed 6 = .ok (.goto 11, 3) := by decide +kernel
theorem dX8_closed_9 : decode cX8_closed 9 = .ok (.aload_n 0, 1) := by decide +kernel
theorem dX8_closed_10 : decode cX8_closed 10 = .ok (.getfield 10, 3) := by decide +kernel
theorem dX8_closed_13 : decode cX8_closed 13 = .ok (.iload_n 1, 1) := by decide +kernel
theorem dX8_closed_14 : decode cX8_closed 14 = .ok (.invokestatic 133, 3) := by decide +kernel
theorem dX8_closed_17 : decode cX8_closed 17 = .ok (.ireturn, 1) := by decide +kernel
set_option maxRecDepth 20000 in
theorem ggX8_law_X3_isThere : GoodIn wsX8_law wsX3_isThere := goodIn_r _ [5] (by decide +kernel) (by decide +kernel)
set_option maxRecDepth 20000 in
theorem gX8_law_X3_isThere : GoodIn wsX8_law (va_wsS RX8 136 yX3_isThere wsX3_isThere) := goodIn_app (goodIn_of _ (by decide +kernel)) ggX8_law_X3_isThere
set_option maxRecDepth 20000 in
theorem ggX8_law_X3_firstAgainst : GoodIn wsX8_law wsX3_firstAgainst := goodIn_r _ [8, 9, 10, 11, 4, 12, 13, 14, 15, 16, 17, 18, 19, 20, 21, 22, 23, 24, 25, 26, 27, 28, 41, 42] (by decide +kernel) (by decide +kernel)
set_option maxRecDepth 20000 in
theorem gX8_law_X3_firstAgainst : GoodIn wsX8_law (va_wsS RX8 141 yX3_firstAgainst wsX3_firstAgainst) := goodIn_app (goodIn_of _ (by decide +kernel)) ggX8_law_X3_firstAgainst
theorem dX8_law_0 : decode cX8_law 0 = .ok (.iload_n 1, 1) := by decide +kernel
theorem dX8_law_1 : decode cX8_law 1 = .ok (.invokestatic 136, 3) := by decide +kernel
theorem dX8_law_4 : decode cX8_law 4 = .ok (.ifCond .eq 14, 3) := by decide +kernel
theorem dX8_law_7 : decode cX8_law 7 = .ok (.aload_n 0, 1) := by decide +kernel
theorem dX8_law_8 : decode cX8_law 8 = .ok (.getfield 10, 3) := by decide +kernel
theorem dX8_law_11 : decode cX8_law 11 = .ok (.iload_n 1, 1) := by decide +kernel
theorem dX8_law_12 : decode cX8_law 12 = .ok (.invokestatic 141, 3) := by decide +kernel
theorem dX8_law_15 : decode cX8_law 15 = .ok (.goto 5, 3) := by decide +kernel
theorem dX8_law_18 : decode cX8_law 18 = .ok (.bipush (-2), 2) := by decide +kernel
theorem dX8_law_20 : decode cX8_law 20 = .ok (.ireturn, 1) := by decide +kernel
set_option maxRecDepth 20000 in
theorem ggX8_change_X3_isThere : GoodIn wsX8_change wsX3_isThere := goodIn_r _ [6] (by decide +kernel) (by decide +kernel)
set_option maxRecDepth 20000 in
theorem gX8_change_X3_isThere : GoodIn wsX8_change (va_wsS RX8 136 yX3_isThere wsX3_isThere) := goodIn_app (goodIn_of _ (by decide +kernel)) ggX8_change_X3_isThere
set_option maxRecDepth 20000 in
theorem ggX8_change_X3_holds : GoodIn wsX8_change wsX3_holds := goodIn_r _ [9, 10, 11, 5, 12, 13, 14, 15, 16, 17, 18, 19, 20, 21, 22, 23, 24, 25, 26, 27, 28, 29, 30, 31, 32, 70, 71] (by decide +kernel) (by decide +kernel)
set_option maxRecDepth 20000 in
theorem gX8_change_X3_holds : GoodIn wsX8_change (va_wsS RX8 144 yX3_holds wsX3_holds) := goodIn_app (goodIn_of _ (by decide +kernel)) ggX8_change_X3_holds
set_option maxRecDepth 20000 in
theorem ggX8_change_X6_copyFrom : GoodIn wsX8_change wsX6_copyFrom := goodIn_r _ [36, 37, 22, 38, 39, 40, 41, 70, 71] (by decide +kernel) (by decide +kernel)
set_option maxRecDepth 20000 in
theorem gX8_change_X6_copyFrom : GoodIn wsX8_change (wsV RX8 73 RX6 yX6_copyFrom wsX6_copyFrom) := goodIn_app (goodIn_of _ (by decide +kernel)) ggX8_change_X6_copyFrom
set_option maxRecDepth 20000 in
theorem ggX8_change_X3_leastChange : GoodIn wsX8_change wsX3_leastChange := goodIn_r _ [44, 13, 45, 24, 20, 25, 46, 47, 5, 48, 49, 50, 51, 52, 22, 53, 54, 55, 56, 57, 8, 9, 10, 11, 12, 14, 15, 16, 17, 18, 19, 21, 23, 26, 27, 28, 29, 30, 31, 32, 70, 71] (by decide +kernel) (by decide +kernel)
set_option maxRecDepth 20000 in
theorem gX8_change_X3_leastChange : GoodIn wsX8_change (va_wsS RX8 148 yX3_leastChange wsX3_leastChange) := goodIn_app (goodIn_of _ (by decide +kernel)) ggX8_change_X3_leastChange
theorem dX8_change_0 : decode cX8_change 0 = .ok (.iload_n 1, 1) := by decide +kernel
theorem dX8_change_1 : decode cX8_change 1 = .ok (.invokestatic 136, 3) := by decide +kernel
theorem dX8_change_4 : decode cX8_change 4 = .ok (.ifCond .ne 6, 3) := by decide +kernel
theorem dX8_change_7 : decode cX8_change 7 = .ok (.bipush (-2), 2) := by decide +kernel
theorem dX8_change_9 : decode cX8_change 9 = .ok (.ireturn, 1) := by decide +kernel
theorem dX8_change_10 : decode cX8_change 10 = .ok (.aload_n 0, 1) := by decide +kernel
theorem dX8_change_11 : decode cX8_change 11 = .ok (.getfield 10, 3) := by decide +kernel
theorem dX8_change_14 : decode cX8_change 14 = .ok (.iload_n 1, 1) := by decide +kernel
theorem dX8_change_15 : decode cX8_change 15 = .ok (.invokestatic 144, 3) := by decide +kernel
theorem dX8_change_18 : decode cX8_change 18 = .ok (.ifCond .eq 5, 3) := by decide +kernel
theorem dX8_change_21 : decode cX8_change 21 = .ok (.iconst (-1), 1) := by decide +kernel
theorem dX8_change_22 : decode cX8_change 22 = .ok (.ireturn, 1) := by decide +kernel
theorem dX8_change_23 : decode cX8_change 23 = .ok (.aload_n 0, 1) := by decide +kernel
theorem dX8_change_24 : decode cX8_change 24 = .ok (.getfield 16, 3) := by decide +kernel
theorem dX8_change_27 : decode cX8_change 27 = .ok (.aload_n 0, 1) := by decide +kernel
theorem dX8_change_28 : decode cX8_change 28 = .ok (.getfield 10, 3) := by decide +kernel
theorem dX8_change_31 : decode cX8_change 31 = .ok (.invokevirtual 73, 3) := by decide +kernel
theorem dX8_change_34 : decode cX8_change 34 = .ok (.aload_n 0, 1) := by decide +kernel
theorem dX8_change_35 : decode cX8_change 35 = .ok (.getfield 16, 3) := by decide +kernel
theorem dX8_change_38 : decode cX8_change 38 = .ok (.iload_n 1, 1) := by decide +kernel
theorem dX8_change_39 : decode cX8_change 39 = .ok (.invokestatic 148, 3) := by decide +kernel
theorem dX8_change_42 : decode cX8_change 42 = .ok (.ireturn, 1) := by decide +kernel
set_option maxRecDepth 20000 in
theorem ggX8_congruence_X1_seekIn : GoodIn wsX8_congruence wsX1_seekIn := goodIn_r _ [7, 8, 9, 10, 11, 12, 13, 14, 6, 15, 16, 17, 18, 19, 20, 21, 22, 23, 24, 25, 26, 27, 28, 29, 30, 31, 32, 33, 34, 35, 36, 37, 38, 39, 40, 66, 67, 68, 69, 70] (by decide +kernel) (by decide +kernel)
set_option maxRecDepth 20000 in
theorem gX8_congruence_X1_seekIn : GoodIn wsX8_congruence (wsV RX8 151 RX1 yX1_seekIn wsX1_seekIn) := goodIn_app (goodIn_of _ (by decide +kernel)) ggX8_congruence_X1_seekIn
set_option maxRecDepth 20000 in
theorem ggX8_congruence_X1_isThere : GoodIn wsX8_congruence wsX1_isThere := goodIn_r _ [44, 10, 12, 68, 69, 70] (by decide +kernel) (by decide +kernel)
set_option maxRecDepth 20000 in
theorem gX8_congruence_X1_isThere : GoodIn wsX8_congruence (wsV RX8 154 RX1 yX1_isThere wsX1_isThere) := goodIn_app (goodIn_of _ (by decide +kernel)) ggX8_congruence_X1_isThere
set_option maxRecDepth 20000 in
theorem ggX8_congruence_X1_nameOf : GoodIn wsX8_congruence wsX1_nameOf := goodIn_r _ [48, 9, 49, 50, 51, 6, 52, 12, 53, 42, 43, 44, 10, 16, 17, 18, 68, 69, 70] (by decide +kernel) (by decide +kernel)
set_option maxRecDepth 20000 in
theorem gX8_congruence_X1_nameOf : GoodIn wsX8_congruence (wsV RX8 155 RX1 yX1_nameOf wsX1_nameOf) := goodIn_app (goodIn_of _ (by decide +kernel)) ggX8_congruence_X1_nameOf
theorem dX8_congruence_0 : decode cX8_congruence 0 = .ok (.iload_n 1, 1) := by decide +kernel
theorem dX8_congruence_1 : decode cX8_congruence 1 = .ok (.ifCond .ge 6, 3) := by decide +kernel
theorem dX8_congruence_4 : decode cX8_congruence 4 = .ok (.bipush (-2), 2) := by decide +kernel
theorem dX8_congruence_6 : decode cX8_congruence 6 = .ok (.ireturn, 1) := by decide +kernel
theorem dX8_congruence_7 : decode cX8_congruence 7 = .ok (.aload_n 0, 1) := by decide +kernel
theorem dX8_congruence_8 : decode cX8_congruence 8 = .ok (.getfield 36, 3) := by decide +kernel
theorem dX8_congruence_11 : decode cX8_congruence 11 = .ok (.aload_n 0, 1) := by decide +kernel
theorem dX8_congruence_12 : decode cX8_congruence 12 = .ok (.getfield 10, 3) := by decide +kernel
theorem dX8_congruence_15 : decode cX8_congruence 15 = .ok (.invokevirtual 151, 3) := by decide +kernel
theorem dX8_congruence_18 : decode cX8_congruence 18 = .ok (.aload_n 0, 1) := by decide +kernel
theorem dX8_congruence_19 : decode cX8_congruence 19 = .ok (.getfield 36, 3) := by decide +kernel
theorem dX8_congruence_22 : decode cX8_congruence 22 = .ok (.iload_n 1, 1) := by decide +kernel
theorem dX8_congruence_23 : decode cX8_congruence 23 = .ok (.invokevirtual 154, 3) := by decide +kernel
theorem dX8_congruence_26 : decode cX8_congruence 26 = .ok (.ifCond .eq 14, 3) := by decide +kernel
theorem dX8_congruence_29 : decode cX8_congruence 29 = .ok (.aload_n 0, 1) := by decide +kernel
theorem dX8_congruence_30 : decode cX8_congruence 30 = .ok (.getfield 36, 3) := by decide +kernel
theorem dX8_congruence_33 : decode cX8_congruence 33 = .ok (.iload_n 1, 1) := by decide +kernel
theorem dX8_congruence_34 : decode cX8_congruence 34 = .ok (.invokevirtual 155, 3) := by decide +kernel
theorem dX8_congruence_37 : decode cX8_congruence 37 = .ok (.goto 5, 3) := by decide +kernel
theorem dX8_congruence_40 : decode cX8_congruence 40 = .ok (.bipush (-9), 2) := by decide +kernel
theorem dX8_congruence_42 : decode cX8_congruence 42 = .ok (.ireturn, 1) := by decide +kernel
set_option maxRecDepth 20000 in
theorem ggX8_principal_X6_has : GoodIn wsX8_principal wsX6_has := goodIn_r _ [7, 8, 70, 71] (by decide +kernel) (by decide +kernel)
set_option maxRecDepth 20000 in
theorem gX8_principal_X6_has : GoodIn wsX8_principal (wsV RX8 89 RX6 yX6_has wsX6_has) := goodIn_app (goodIn_of _ (by decide +kernel)) ggX8_principal_X6_has
set_option maxRecDepth 20000 in
theorem ggX8_principal_X1_seekIn : GoodIn wsX8_principal wsX1_seekIn := goodIn_r _ [13, 14, 15, 16, 17, 18, 19, 20, 12, 21, 22, 23, 24, 25, 26, 27, 28, 29, 30, 6, 31, 32, 33, 34, 35, 36, 37, 38, 39, 40, 41, 42, 43, 44, 45, 70, 71, 72, 73, 74] (by decide +kernel) (by decide +kernel)
set_option maxRecDepth 20000 in
theorem gX8_principal_X1_seekIn : GoodIn wsX8_principal (wsV RX8 151 RX1 yX1_seekIn wsX1_seekIn) := goodIn_app (goodIn_of _ (by decide +kernel)) ggX8_principal_X1_seekIn
set_option maxRecDepth 20000 in
theorem ggX8_principal_X1_finestWith : GoodIn wsX8_principal wsX1_finestWith := goodIn_r _ [49, 16, 50, 51, 52, 12, 53, 18, 54, 55, 56, 57, 36, 37, 38, 22, 23, 24, 72, 73, 74] (by decide +kernel) (by decide +kernel)
set_option maxRecDepth 20000 in
theorem gX8_principal_X1_finestWith : GoodIn wsX8_principal (wsV RX8 158 RX1 yX1_finestWith wsX1_finestWith) := goodIn_app (goodIn_of _ (by decide +kernel)) ggX8_principal_X1_finestWith
theorem dX8_principal_0 : decode cX8_principal 0 = .ok (.aload_n 0, 1) := by decide +kernel
theorem dX8_principal_1 : decode cX8_principal 1 = .ok (.getfield 10, 3) := by decide +kernel
theorem dX8_principal_4 : decode cX8_principal 4 = .ok (.iload_n 1, 1) := by decide +kernel
theorem dX8_principal_5 : decode cX8_principal 5 = .ok (.invokevirtual 89, 3) := by decide +kernel
theorem dX8_principal_8 : decode cX8_principal 8 = .ok (.ifCond .eq 14, 3) := by decide +kernel
theorem dX8_principal_11 : decode cX8_principal 11 = .ok (.aload_n 0, 1) := by decide +kernel
theorem dX8_principal_12 : decode cX8_principal 12 = .ok (.getfield 10, 3) := by decide +kernel
theorem dX8_principal_15 : decode cX8_principal 15 = .ok (.iload_n 2, 1) := by decide +kernel
theorem dX8_principal_16 : decode cX8_principal 16 = .ok (.invokevirtual 89, 3) := by decide +kernel
theorem dX8_principal_19 : decode cX8_principal 19 = .ok (.ifCond .ne 6, 3) := by decide +kernel
theorem dX8_principal_22 : decode cX8_principal 22 = .ok (.bipush (-2), 2) := by decide +kernel
theorem dX8_principal_24 : decode cX8_principal 24 = .ok (.ireturn, 1) := by decide +kernel
theorem dX8_principal_25 : decode cX8_principal 25 = .ok (.aload_n 0, 1) := by decide +kernel
theorem dX8_principal_26 : decode cX8_principal 26 = .ok (.getfield 36, 3) := by decide +kernel
theorem dX8_principal_29 : decode cX8_principal 29 = .ok (.aload_n 0, 1) := by decide +kernel
theorem dX8_principal_30 : decode cX8_principal 30 = .ok (.getfield 10, 3) := by decide +kernel
theorem dX8_principal_33 : decode cX8_principal 33 = .ok (.invokevirtual 151, 3) := by decide +kernel
theorem dX8_principal_36 : decode cX8_principal 36 = .ok (.aload_n 0, 1) := by decide +kernel
theorem dX8_principal_37 : decode cX8_principal 37 = .ok (.getfield 36, 3) := by decide +kernel
theorem dX8_principal_40 : decode cX8_principal 40 = .ok (.iload_n 1, 1) := by decide +kernel
theorem dX8_principal_41 : decode cX8_principal 41 = .ok (.iload_n 2, 1) := by decide +kernel
theorem dX8_principal_42 : decode cX8_principal 42 = .ok (.invokevirtual 158, 3) := by decide +kernel
theorem dX8_principal_45 : decode cX8_principal 45 = .ok (.ireturn, 1) := by decide +kernel
set_option maxRecDepth 20000 in
theorem ggX8_pair_X1_seekIn : GoodIn wsX8_pair wsX1_seekIn := goodIn_r _ [7, 8, 9, 10, 11, 12, 13, 14, 6, 15, 16, 17, 18, 19, 20, 21, 22, 23, 24, 25, 26, 27, 28, 29, 30, 31, 32, 33, 34, 35, 36, 37, 38, 39, 40, 87, 88, 89, 90, 91] (by decide +kernel) (by decide +kernel)
set_option maxRecDepth 20000 in
theorem gX8_pair_X1_seekIn : GoodIn wsX8_pair (wsV RX8 151 RX1 yX1_seekIn wsX1_seekIn) := goodIn_app (goodIn_of _ (by decide +kernel)) ggX8_pair_X1_seekIn
set_option maxRecDepth 20000 in
theorem ggX8_pair_X1_isThere : GoodIn wsX8_pair wsX1_isThere := goodIn_r _ [44, 10, 12, 89, 90, 91] (by decide +kernel) (by decide +kernel)
set_option maxRecDepth 20000 in
theorem gX8_pair_X1_isThere : GoodIn wsX8_pair (wsV RX8 154 RX1 yX1_isThere wsX1_isThere) := goodIn_app (goodIn_of _ (by decide +kernel)) ggX8_pair_X1_isThere
set_option maxRecDepth 20000 in
theorem ggX8_pair_X1_join : GoodIn wsX8_pair wsX1_join := goodIn_r _ [48, 10, 49, 50, 51, 6, 52, 9, 53, 54, 55, 56, 12, 57, 42, 43, 44, 16, 17, 18, 31, 32, 33, 89, 90, 91] (by decide +kernel) (by decide +kernel)
set_option maxRecDepth 20000 in
theorem gX8_pair_X1_join : GoodIn wsX8_pair (wsV RX8 161 RX1 yX1_join wsX1_join) := goodIn_app (goodIn_of _ (by decide +kernel)) ggX8_pair_X1_join
set_option maxRecDepth 20000 in
theorem ggX8_pair_X1_meet : GoodIn wsX8_pair wsX1_meet := goodIn_r _ [61, 10, 49, 50, 51, 6, 52, 9, 53, 54, 55, 56, 12, 57, 42, 43, 44, 16, 17, 18, 31, 32, 33, 89, 90, 91] (by decide +kernel) (by decide +kernel)
set_option maxRecDepth 20000 in
theorem gX8_pair_X1_meet : GoodIn wsX8_pair (wsV RX8 164 RX1 yX1_meet wsX1_meet) := goodIn_app (goodIn_of _ (by decide +kernel)) ggX8_pair_X1_meet
set_option maxRecDepth 20000 in
theorem ggX8_pair_X1_permute : GoodIn wsX8_pair wsX1_permute := goodIn_r _ [65, 9, 66, 67, 68, 6, 69, 53, 54, 55, 56, 12, 57, 42, 43, 44, 10, 31, 32, 33, 16, 17, 18, 89, 90, 91] (by decide +kernel) (by decide +kernel)
set_option maxRecDepth 20000 in
theorem gX8_pair_X1_permute : GoodIn wsX8_pair (wsV RX8 167 RX1 yX1_permute wsX1_permute) := goodIn_app (goodIn_of _ (by decide +kernel)) ggX8_pair_X1_permute
set_option maxRecDepth 20000 in
theorem ggX8_pair_X8_oneIf : GoodIn wsX8_pair wsX8_oneIf := goodIn_r _ [73] (by decide +kernel) (by decide +kernel)
set_option maxRecDepth 20000 in
theorem gX8_pair_X8_oneIf : GoodIn wsX8_pair (va_wsS RX8 171 yX8_oneIf wsX8_oneIf) := goodIn_app (goodIn_of _ (by decide +kernel)) ggX8_pair_X8_oneIf
set_option maxRecDepth 20000 in
theorem ggX8_pair_X1_isFiner : GoodIn wsX8_pair wsX1_isFiner := goodIn_r _ [52, 9, 53, 54, 55, 6, 56, 12, 57, 42, 43, 44, 10, 16, 17, 18, 31, 32, 33, 89, 90, 91] (by decide +kernel) (by decide +kernel)
set_option maxRecDepth 20000 in
theorem gX8_pair_X1_isFiner : GoodIn wsX8_pair (wsV RX8 175 RX1 yX1_isFiner wsX1_isFiner) := goodIn_app (goodIn_of _ (by decide +kernel)) ggX8_pair_X1_isFiner
theorem dX8_pair_0 : decode cX8_pair 0 = .ok (.iload_n 3, 1) := by decide +kernel
theorem dX8_pair_1 : decode cX8_pair 1 = .ok (.ifCond .lt 8, 3) := by decide +kernel
theorem dX8_pair_4 : decode cX8_pair 4 = .ok (.iload_n 3, 1) := by decide +kernel
theorem dX8_pair_5 : decode cX8_pair 5 = .ok (.iconst 3, 1) := by decide +kernel
theorem dX8_pair_6 : decode cX8_pair 6 = .ok (.if_icmp .le 6, 3) := by decide +kernel
theorem dX8_pair_9 : decode cX8_pair 9 = .ok (.bipush (-2), 2) := by decide +kernel
theorem dX8_pair_11 : decode cX8_pair 11 = .ok (.ireturn, 1) := by decide +kernel
theorem dX8_pair_12 : decode cX8_pair 12 = .ok (.aload_n 0, 1) := by decide +kernel
theorem dX8_pair_13 : decode cX8_pair 13 = .ok (.getfield 36, 3) := by decide +kernel
theorem dX8_pair_16 : decode cX8_pair 16 = .ok (.aload_n 0, 1) := by decide +kernel
theorem dX8_pair_17 : decode cX8_pair 17 = .ok (.getfield 10, 3) := by decide +kernel
theorem dX8_pair_20 : decode cX8_pair 20 = .ok (.invokevirtual 151, 3) := by decide +kernel
theorem dX8_pair_23 : decode cX8_pair 23 = .ok (.aload_n 0, 1) := by decide +kernel
theorem dX8_pair_24 : decode cX8_pair 24 = .ok (.getfield 36, 3) := by decide +kernel
theorem dX8_pair_27 : decode cX8_pair 27 = .ok (.iload_n 1, 1) := by decide +kernel
theorem dX8_pair_28 : decode cX8_pair 28 = .ok (.invokevirtual 154, 3) := by decide +kernel
theorem dX8_pair_31 : decode cX8_pair 31 = .ok (.ifCond .eq 14, 3) := by decide +kernel
theorem dX8_pair_34 : decode cX8_pair 34 = .ok (.aload_n 0, 1) := by decide +kernel
theorem dX8_pair_35 : decode cX8_pair 35 = .ok (.getfield 36, 3) := by decide +kernel
theorem dX8_pair_38 : decode cX8_pair 38 = .ok (.iload_n 2, 1) := by decide +kernel
theorem dX8_pair_39 : decode cX8_pair 39 = .ok (.invokevirtual 154, 3) := by decide +kernel
theorem dX8_pair_42 : decode cX8_pair 42 = .ok (.ifCond .ne 6, 3) := by decide +kernel
theorem dX8_pair_45 : decode cX8_pair 45 = .ok (.bipush (-2), 2) := by decide +kernel
theorem dX8_pair_47 : decode cX8_pair 47 = .ok (.ireturn, 1) := by decide +kernel
theorem dX8_pair_48 : decode cX8_pair 48 = .ok (.iload_n 3, 1) := by decide +kernel
theorem dX8_pair_49 : decode cX8_pair 49 = .ok (.tableswitch 60 0 2 #[27, 37, 47], 27) := by decide +kernel
theorem dX8_pair_76 : decode cX8_pair 76 = .ok (.aload_n 0, 1) := by decide +kernel
theorem dX8_pair_77 : decode cX8_pair 77 = .ok (.getfield 36, 3) := by decide +kernel
theorem dX8_pair_80 : decode cX8_pair 80 = .ok (.iload_n 1, 1) := by decide +kernel
theorem dX8_pair_81 : decode cX8_pair 81 = .ok (.iload_n 2, 1) := by decide +kernel
theorem dX8_pair_82 : decode cX8_pair 82 = .ok (.invokevirtual 161, 3) := by decide +kernel
theorem dX8_pair_85 : decode cX8_pair 85 = .ok (.ireturn, 1) := by decide +kernel
theorem dX8_pair_86 : decode cX8_pair 86 = .ok (.aload_n 0, 1) := by decide +kernel
theorem dX8_pair_87 : decode cX8_pair 87 = .ok (.getfield 36, 3) := by decide +kernel
theorem dX8_pair_90 : decode cX8_pair 90 = .ok (.iload_n 1, 1) := by decide +kernel
theorem dX8_pair_91 : decode cX8_pair 91 = .ok (.iload_n 2, 1) := by decide +kernel
theorem dX8_pair_92 : decode cX8_pair 92 = .ok (.invokevirtual 164, 3) := by decide +kernel
theorem dX8_pair_95 : decode cX8_pair 95 = .ok (.ireturn, 1) := by decide +kernel
theorem dX8_pair_96 : decode cX8_pair 96 = .ok (.aload_n 0, 1) := by decide +kernel
theorem dX8_pair_97 : decode cX8_pair 97 = .ok (.getfield 36, 3) := by decide +kernel
theorem dX8_pair_100 : decode cX8_pair 100 = .ok (.iload_n 1, 1) := by decide +kernel
theorem dX8_pair_101 : decode cX8_pair 101 = .ok (.iload_n 2, 1) := by decide +kernel
theorem dX8_pair_102 : decode cX8_pair 102 = .ok (.invokevirtual 167, 3) := by decide +kernel
theorem dX8_pair_105 : decode cX8_pair 105 = .ok (.invokestatic 171, 3) := by decide +kernel
theorem dX8_pair_108 : decode cX8_pair 108 = .ok (.ireturn, 1) := by decide +kernel
theorem dX8_pair_109 : decode cX8_pair 109 = .ok (.aload_n 0, 1) := by decide +kernel
theorem dX8_pair_110 : decode cX8_pair 110 = .ok (.getfield 36, 3) := by decide +kernel
theorem dX8_pair_113 : decode cX8_pair 113 = .ok (.iload_n 1, 1) := by decide +kernel
theorem dX8_pair_114 : decode cX8_pair 114 = .ok (.iload_n 2, 1) := by decide +kernel
theorem dX8_pair_115 : decode cX8_pair 115 = .ok (.invokevirtual 175, 3) := by decide +kernel
theorem dX8_pair_118 : decode cX8_pair 118 = .ok (.invokestatic 171, 3) := by decide +kernel
theorem dX8_pair_121 : decode cX8_pair 121 = .ok (.ireturn, 1) := by decide +kernel
set_option maxRecDepth 20000 in
theorem ggX8_free_X7_makeFree : GoodIn wsX8_free wsX7_makeFree := goodIn_r _ [9, 10, 11, 12, 13, 14, 15, 8, 16, 17, 18, 19, 20, 21, 22, 23, 24, 25, 26, 27, 28, 29, 30, 31, 32, 33, 34, 35, 36, 37, 38, 39, 40, 41, 42, 43, 44, 45, 46, 47, 48, 49, 50, 51, 52, 53, 54, 55, 56, 57, 58, 59, 60, 61, 62, 63, 64, 65, 66, 67, 68, 69, 70, 71, 72, 73, 74, 75, 76, 77, 78, 79, 80, 81, 82, 83, 84, 85, 86, 87, 88, 89, 90, 91, 116, 117, 104, 105, 106, 107, 108, 109, 110, 111, 112, 113, 114, 115] (by decide +kernel) (by decide +kernel)
set_option maxRecDepth 20000 in
theorem gX8_free_X7_makeFree : GoodIn wsX8_free (wsV RX8 178 RX7 yX7_makeFree wsX7_makeFree) := goodIn_app (goodIn_of _ (by decide +kernel)) ggX8_free_X7_makeFree
theorem dX8_free_0 : decode cX8_free 0 = .ok (.iload_n 1, 1) := by decide +kernel
theorem dX8_free_1 : decode cX8_free 1 = .ok (.iconst 1, 1) := by decide +kernel
theorem dX8_free_2 : decode cX8_free 2 = .ok (.if_icmp .lt 17, 3) := by decide +kernel
theorem dX8_free_5 : decode cX8_free 5 = .ok (.iload_n 1, 1) := by decide +kernel
theorem dX8_free_6 : decode cX8_free 6 = .ok (.iconst 2, 1) := by decide +kernel
theorem dX8_free_7 : decode cX8_free 7 = .ok (.if_icmp .gt 12, 3) := by decide +kernel
theorem dX8_free_10 : decode cX8_free 10 = .ok (.iload_n 2, 1) := by decide +kernel
theorem dX8_free_11 : decode cX8_free 11 = .ok (.ifCond .lt 8, 3) := by decide +kernel
theorem dX8_free_14 : decode cX8_free 14 = .ok (.iload_n 2, 1) := by decide +kernel
theorem dX8_free_15 : decode cX8_free 15 = .ok (.iconst 1, 1) := by decide +kernel
theorem dX8_free_16 : decode cX8_free 16 = .ok (.if_icmp .le 6, 3) := by decide +kernel
theorem dX8_free_19 : decode cX8_free 19 = .ok (.bipush (-2), 2) := by decide +kernel
theorem dX8_free_21 : decode cX8_free 21 = .ok (.ireturn, 1) := by decide +kernel
theorem dX8_free_22 : decode cX8_free 22 = .ok (.aload_n 0, 1) := by decide +kernel
theorem dX8_free_23 : decode cX8_free 23 = .ok (.getfield 43, 3) := by decide +kernel
theorem dX8_free_26 : decode cX8_free 26 = .ok (.aload_n 0, 1) := by decide +kernel
theorem dX8_free_27 : decode cX8_free 27 = .ok (.getfield 10, 3) := by decide +kernel
theorem dX8_free_30 : decode cX8_free 30 = .ok (.iload_n 1, 1) := by decide +kernel
theorem dX8_free_31 : decode cX8_free 31 = .ok (.invokevirtual 178, 3) := by decide +kernel
theorem dX8_free_34 : decode cX8_free 34 = .ok (.ifCond .ne 6, 3) := by decide +kernel
theorem dX8_free_37 : decode cX8_free 37 = .ok (.bipush (-4), 2) := by decide +kernel
theorem dX8_free_39 : decode cX8_free 39 = .ok (.ireturn, 1) := by decide +kernel
theorem dX8_free_40 : decode cX8_free 40 = .ok (.iload_n 2, 1) := by decide +kernel
theorem dX8_free_41 : decode cX8_free 41 = .ok (.ifCond .ne 13, 3) := by decide +kernel
theorem dX8_free_44 : decode cX8_free 44 = .ok (.aload_n 0, 1) := by decide +kernel
theorem dX8_free_45 : decode cX8_free 45 = .ok (.getfield 43, 3) := by decide +kernel
theorem dX8_free_48 : decode cX8_free 48 = .ok (.getfield 181, 3) := by decide +kernel
theorem dX8_free_51 : decode cX8_free 51 = .ok (.goto 10, 3) := by decide +kernel
theorem dX8_free_54 : decode cX8_free 54 = .ok (.aload_n 0, 1) := by decide +kernel
theorem dX8_free_55 : decode cX8_free 55 = .ok (.getfield 43, 3) := by decide +kernel
theorem dX8_free_58 : decode cX8_free 58 = .ok (.getfield 184, 3) := by decide +kernel
theorem dX8_free_61 : decode cX8_free 61 = .ok (.ireturn, 1) := by decide +kernel
set_option maxRecDepth 20000 in
theorem ggX8_term_X7_seekMaltsev : GoodIn wsX8_term wsX7_seekMaltsev := goodIn_r _ [9, 10, 11, 12, 13, 8, 14, 15, 16, 17, 18, 19, 20, 21, 22, 23, 24, 25, 26, 27, 28, 29, 30, 31, 32, 33, 34, 35, 36, 37, 38, 39, 40, 41, 42, 43, 44, 45, 46, 47, 48, 49, 50, 51, 52, 53, 54, 55, 56, 57, 58, 59, 60, 61, 62, 63, 64, 65, 66, 67, 68, 69, 70, 71, 72, 73, 74, 75, 76, 77, 78, 79, 80, 81, 82, 83, 84, 85, 86, 87, 88, 89, 90, 111, 112, 113, 114, 115, 116, 117, 118, 119, 120, 121, 122, 123, 124] (by decide +kernel) (by decide +kernel)
set_option maxRecDepth 20000 in
theorem gX8_term_X7_seekMaltsev : GoodIn wsX8_term (wsV RX8 190 RX7 yX7_seekMaltsev wsX7_seekMaltsev) := goodIn_app (goodIn_of _ (by decide +kernel)) ggX8_term_X7_seekMaltsev
set_option maxRecDepth 20000 in
theorem ggX8_term_X7_seekMajority : GoodIn wsX8_term wsX7_seekMajority := goodIn_r _ [94, 10, 11, 12, 13, 8, 14, 15, 16, 17, 18, 19, 20, 21, 22, 23, 24, 25, 26, 27, 28, 29, 30, 31, 32, 33, 34, 35, 36, 37, 38, 39, 40, 41, 42, 43, 44, 45, 46, 47, 48, 49, 50, 51, 52, 53, 54, 55, 56, 57, 58, 59, 60, 61, 62, 63, 64, 65, 66, 67, 68, 69, 70, 71, 72, 73, 74, 75, 76, 77, 78, 79, 80, 81, 82, 83, 84, 85, 86, 87, 88, 89, 90, 111, 112, 113, 114, 115, 116, 117, 118, 119, 120, 121, 122, 123, 124] (by decide +kernel) (by decide +kernel)
set_option maxRecDepth 20000 in
theorem gX8_term_X7_seekMajority : GoodIn wsX8_term (wsV RX8 194 RX7 yX7_seekMajority wsX7_seekMajority) := goodIn_app (goodIn_of _ (by decide +kernel)) ggX8_term_X7_seekMajority
set_option maxRecDepth 20000 in
theorem ggX8_term_X8_oneIf : GoodIn wsX8_term wsX8_oneIf := goodIn_r _ [98] (by decide +kernel) (by decide +kernel)
set_option maxRecDepth 20000 in
theorem gX8_term_X8_oneIf : GoodIn wsX8_term (va_wsS RX8 171 yX8_oneIf wsX8_oneIf) := goodIn_app (goodIn_of _ (by decide +kernel)) ggX8_term_X8_oneIf
theorem dX8_term_0 : decode cX8_term 0 = .ok (.iload_n 1, 1) := by decide +kernel
theorem dX8_term_1 : decode cX8_term 1 = .ok (.ifCond .lt 19, 3) := by decide +kernel
theorem dX8_term_4 : decode cX8_term 4 = .ok (.iload_n 1, 1) := by decide +kernel
theorem dX8_term_5 : decode cX8_term 5 = .ok (.iconst 1, 1) := by decide +kernel
theorem dX8_term_6 : decode cX8_term 6 = .ok (.if_icmp .gt 14, 3) := by decide +kernel
theorem dX8_term_9 : decode cX8_term 9 = .ok (.aload_n 0, 1) := by decide +kernel
theorem dX8_term_10 : decode cX8_term 10 = .ok (.getfield 10, 3) := by decide +kernel
theorem dX8_term_13 : decode cX8_term 13 = .ok (.getfield 187, 3) := by decide +kernel
theorem dX8_term_16 : decode cX8_term 16 = .ok (.iconst 3, 1) := by decide +kernel
theorem dX8_term_17 : decode cX8_term 17 = .ok (.if_icmp .le 6, 3) := by decide +kernel
theorem dX8_term_20 : decode cX8_term 20 = .ok (.bipush (-2), 2) := by decide +kernel
theorem dX8_term_22 : decode cX8_term 22 = .ok (.ireturn, 1) := by decide +kernel
theorem dX8_term_23 : decode cX8_term 23 = .ok (.iload_n 1, 1) := by decide +kernel
theorem dX8_term_24 : decode cX8_term 24 = .ok (.ifCond .ne 17, 3) := by decide +kernel
theorem dX8_term_27 : decode cX8_term 27 = .ok (.aload_n 0, 1) := by decide +kernel
theorem dX8_term_28 : decode cX8_term 28 = .ok (.getfield 43, 3) := by decide +kernel
theorem dX8_term_31 : decode cX8_term 31 = .ok (.aload_n 0, 1) := by decide +kernel
theorem dX8_term_32 : decode cX8_term 32 = .ok (.getfield 10, 3) := by decide +kernel
theorem dX8_term_35 : decode cX8_term 35 = .ok (.invokevirtual 190, 3) := by decide +kernel
theorem dX8_term_38 : decode cX8_term 38 = .ok (.goto 14, 3) := by decide +kernel
theorem dX8_term_41 : decode cX8_term 41 = .ok (.aload_n 0, 1) := by decide +kernel
theorem dX8_term_42 : decode cX8_term 42 = .ok (.getfield 43, 3) := by decide +kernel
theorem dX8_term_45 : decode cX8_term 45 = .ok (.aload_n 0, 1) := by decide +kernel
theorem dX8_term_46 : decode cX8_term 46 = .ok (.getfield 10, 3) := by decide +kernel
theorem dX8_term_49 : decode cX8_term 49 = .ok (.invokevirtual 194, 3) := by decide +kernel
theorem dX8_term_52 : decode cX8_term 52 = .ok (.istore_n 2, 1) := by decide +kernel
theorem dX8_term_53 : decode cX8_term 53 = .ok (.iload_n 2, 1) := by decide +kernel
theorem dX8_term_54 : decode cX8_term 54 = .ok (.ifCond .eq 16, 3) := by decide +kernel
theorem dX8_term_57 : decode cX8_term 57 = .ok (.aload_n 0, 1) := by decide +kernel
theorem dX8_term_58 : decode cX8_term 58 = .ok (.getfield 43, 3) := by decide +kernel
theorem dX8_term_61 : decode cX8_term 61 = .ok (.getfield 197, 3) := by decide +kernel
theorem dX8_term_64 : decode cX8_term 64 = .ok (.invokestatic 171, 3) := by decide +kernel
theorem dX8_term_67 : decode cX8_term 67 = .ok (.goto 5, 3) := by decide +kernel
theorem dX8_term_70 : decode cX8_term 70 = .ok (.bipush (-4), 2) := by decide +kernel
theorem dX8_term_72 : decode cX8_term 72 = .ok (.ireturn, 1) := by decide +kernel
theorem dX8_sees_0 : decode cX8_sees 0 = .ok (.iload_n 1, 1) := by decide +kernel
theorem dX8_sees_1 : decode cX8_sees 1 = .ok (.ifCond .lt 9, 3) := by decide +kernel
theorem dX8_sees_4 : decode cX8_sees 4 = .ok (.iload_n 1, 1) := by decide +kernel
theorem dX8_sees_5 : decode cX8_sees 5 = .ok (.bipush 16, 2) := by decide +kernel
theorem dX8_sees_7 : decode cX8_sees 7 = .ok (.if_icmp .le 6, 3) := by decide +kernel
theorem dX8_sees_10 : decode cX8_sees 10 = .ok (.bipush (-2), 2) := by decide +kernel
theorem dX8_sees_12 : decode cX8_sees 12 = .ok (.ireturn, 1) := by decide +kernel
theorem dX8_sees_13 : decode cX8_sees 13 = .ok (.aload_n 0, 1) := by decide +kernel
theorem dX8_sees_14 : decode cX8_sees 14 = .ok (.getfield 80, 3) := by decide +kernel
theorem dX8_sees_17 : decode cX8_sees 17 = .ok (.aload_n 0, 1) := by decide +kernel
theorem dX8_sees_18 : decode cX8_sees 18 = .ok (.getfield 51, 3) := by decide +kernel
theorem dX8_sees_21 : decode cX8_sees 21 = .ok (.arraylength, 1) := by decide +kernel
theorem dX8_sees_22 : decode cX8_sees 22 = .ok (.if_icmp .lt 6, 3) := by decide +kernel
theorem dX8_sees_25 : decode cX8_sees 25 = .ok (.bipush (-4), 2) := by decide +kernel
theorem dX8_sees_27 : decode cX8_sees 27 = .ok (.ireturn, 1) := by decide +kernel
theorem dX8_sees_28 : decode cX8_sees 28 = .ok (.aload_n 0, 1) := by decide +kernel
theorem dX8_sees_29 : decode cX8_sees 29 = .ok (.getfield 51, 3) := by decide +kernel
theorem dX8_sees_32 : decode cX8_sees 32 = .ok (.aload_n 0, 1) := by decide +kernel
theorem dX8_sees_33 : decode cX8_sees 33 = .ok (.getfield 80, 3) := by decide +kernel
theorem dX8_sees_36 : decode cX8_sees 36 = .ok (.iload_n 1, 1) := by decide +kernel
theorem dX8_sees_37 : decode cX8_sees 37 = .ok (.iastore, 1) := by decide +kernel
theorem dX8_sees_38 : decode cX8_sees 38 = .ok (.aload_n 0, 1) := by decide +kernel
theorem dX8_sees_39 : decode cX8_sees 39 = .ok (.dup, 1) := by decide +kernel
theorem dX8_sees_40 : decode cX8_sees 40 = .ok (.getfield 80, 3) := by decide +kernel
theorem dX8_sees_43 : decode cX8_sees 43 = .ok (.iconst 1, 1) := by decide +kernel
theorem dX8_sees_44 : decode cX8_sees 44 = .ok (.iadd, 1) := by decide +kernel
theorem dX8_sees_45 : decode cX8_sees 45 = .ok (.putfield 80, 3) := by decide +kernel
theorem dX8_sees_48 : decode cX8_sees 48 = .ok (.aload_n 0, 1) := by decide +kernel
theorem dX8_sees_49 : decode cX8_sees 49 = .ok (.getfield 80, 3) := by decide +kernel
theorem dX8_sees_52 : decode cX8_sees 52 = .ok (.ireturn, 1) := by decide +kernel
theorem dX8_forget_0 : decode cX8_forget 0 = .ok (.aload_n 0, 1) := by decide +kernel
theorem dX8_forget_1 : decode cX8_forget 1 = .ok (.getfield 80, 3) := by decide +kernel
theorem dX8_forget_4 : decode cX8_forget 4 = .ok (.istore_n 1, 1) := by decide +kernel
theorem dX8_forget_5 : decode cX8_forget 5 = .ok (.aload_n 0, 1) := by decide +kernel
theorem dX8_forget_6 : decode cX8_forget 6 = .ok (.iconst 0, 1) := by decide +kernel
theorem dX8_forget_7 : decode cX8_forget 7 = .ok (.putfield 80, 3) := by decide +kernel
theorem dX8_forget_10 : decode cX8_forget 10 = .ok (.iload_n 1, 1) := by decide +kernel
theorem dX8_forget_11 : decode cX8_forget 11 = .ok (.ireturn, 1) := by decide +kernel
set_option maxRecDepth 20000 in
theorem ggX8_unseen_X6_copyFrom : GoodIn wsX8_unseen wsX6_copyFrom := goodIn_r _ [8, 9, 10, 11, 12, 13, 14, 76, 77] (by decide +kernel) (by decide +kernel)
set_option maxRecDepth 20000 in
theorem gX8_unseen_X6_copyFrom : GoodIn wsX8_unseen (wsV RX8 73 RX6 yX6_copyFrom wsX6_copyFrom) := goodIn_app (goodIn_of _ (by decide +kernel)) ggX8_unseen_X6_copyFrom
set_option maxRecDepth 20000 in
theorem ggX8_unseen_X6_placeOfTwo : GoodIn wsX8_unseen wsX6_placeOfTwo := goodIn_r _ [17] (by decide +kernel) (by decide +kernel)
set_option maxRecDepth 20000 in
theorem gX8_unseen_X6_placeOfTwo : GoodIn wsX8_unseen (va_wsS RX8 104 yX6_placeOfTwo wsX6_placeOfTwo) := goodIn_app (goodIn_of _ (by decide +kernel)) ggX8_unseen_X6_placeOfTwo
set_option maxRecDepth 20000 in
theorem ggX8_unseen_X8_someOtherValueFits : GoodIn wsX8_unseen wsX8_someOtherValueFits := goodIn_r _ [22, 2, 3, 1, 23, 24, 25, 7, 26, 10, 27, 28, 29, 30, 31, 32, 33, 34, 35, 36, 37, 38, 9, 39, 40, 41, 42, 43, 44, 45, 46, 47, 48, 49, 50, 51, 52, 53, 54, 55, 56, 57, 16, 17, 58, 59, 60, 21, 61, 62, 63, 64, 65, 66, 67, 68, 69, 70, 71, 72, 73, 74, 75, 76, 77] (by decide +kernel) (by decide +kernel)
set_option maxRecDepth 20000 in
theorem gX8_unseen_X8_someOtherValueFits : GoodIn wsX8_unseen (wsV RX8 201 RX8 yX8_someOtherValueFits wsX8_someOtherValueFits) := goodIn_app (goodIn_of _ (by decide +kernel)) ggX8_unseen_X8_someOtherValueFits
theorem dX8_unseen_0 : decode cX8_unseen 0 = .ok (.iconst 0, 1) := by decide +kernel
theorem dX8_unseen_1 : decode cX8_unseen 1 = .ok (.istore_n 1, 1) := by decide +kernel
theorem dX8_unseen_2 : decode cX8_unseen 2 = .ok (.aload_n 0, 1) := by decide +kernel
theorem dX8_unseen_3 : decode cX8_unseen 3 = .ok (.getfield 16, 3) := by decide +kernel
theorem dX8_unseen_6 : decode cX8_unseen 6 = .ok (.aload_n 0, 1) := by decide +kernel
theorem dX8_unseen_7 : decode cX8_unseen 7 = .ok (.getfield 10, 3) := by decide +kernel
theorem dX8_unseen_10 : decode cX8_unseen 10 = .ok (.invokevirtual 73, 3) := by decide +kernel
theorem dX8_unseen_13 : decode cX8_unseen 13 = .ok (.iconst 0, 1) := by decide +kernel
theorem dX8_unseen_14 : decode cX8_unseen 14 = .ok (.istore_n 2, 1) := by decide +kernel
theorem dX8_unseen_15 : decode cX8_unseen 15 = .ok (.iload_n 2, 1) := by decide +kernel
theorem dX8_unseen_16 : decode cX8_unseen 16 = .ok (.aload_n 0, 1) := by decide +kernel
theorem dX8_unseen_17 : decode cX8_unseen 17 = .ok (.getfield 10, 3) := by decide +kernel
theorem dX8_unseen_20 : decode cX8_unseen 20 = .ok (.getfield 187, 3) := by decide +kernel
theorem dX8_unseen_23 : decode cX8_unseen 23 = .ok (.if_icmp .ge 56, 3) := by decide +kernel
theorem dX8_unseen_26 : decode cX8_unseen 26 = .ok (.iconst 0, 1) := by decide +kernel
theorem dX8_unseen_27 : decode cX8_unseen 27 = .ok (.istore_n 3, 1) := by decide +kernel
theorem dX8_unseen_28 : decode cX8_unseen 28 = .ok (.iload_n 3, 1) := by decide +kernel
theorem dX8_unseen_29 : decode cX8_unseen 29 = .ok (.aload_n 0, 1) := by decide +kernel
theorem dX8_unseen_30 : decode cX8_unseen 30 = .ok (.getfield 10, 3) := by decide +kernel
theorem dX8_unseen_33 : decode cX8_unseen 33 = .ok (.getfield 187, 3) := by decide +kernel
theorem dX8_unseen_36 : decode cX8_unseen 36 = .ok (.if_icmp .ge 37, 3) := by decide +kernel
theorem dX8_unseen_39 : decode cX8_unseen 39 = .ok (.aload_n 0, 1) := by decide +kernel
theorem dX8_unseen_40 : decode cX8_unseen 40 = .ok (.iload_n 2, 1) := by decide +kernel
theorem dX8_unseen_41 : decode cX8_unseen 41 = .ok (.iload_n 3, 1) := by decide +kernel
theorem dX8_unseen_42 : decode cX8_unseen 42 = .ok (.invokestatic 104, 3) := by decide +kernel
theorem dX8_unseen_45 : decode cX8_unseen 45 = .ok (.invokevirtual 201, 3) := by decide +kernel
theorem dX8_unseen_48 : decode cX8_unseen 48 = .ok (.ifCond .eq 19, 3) := by decide +kernel
theorem dX8_unseen_51 : decode cX8_unseen 51 = .ok (.iload_n 1, 1) := by decide +kernel
theorem dX8_unseen_52 : decode cX8_unseen 52 = .ok (.iconst 1, 1) := by decide +kernel
theorem dX8_unseen_53 : decode cX8_unseen 53 = .ok (.aload_n 0, 1) := by decide +kernel
theorem dX8_unseen_54 : decode cX8_unseen 54 = .ok (.getfield 10, 3) := by decide +kernel
theorem dX8_unseen_57 : decode cX8_unseen 57 = .ok (.getfield 187, 3) := by decide +kernel
theorem dX8_unseen_60 : decode cX8_unseen 60 = .ok (.iload_n 2, 1) := by decide +kernel
theorem dX8_unseen_61 : decode cX8_unseen 61 = .ok (.imul, 1) := by decide +kernel
theorem dX8_unseen_62 : decode cX8_unseen 62 = .ok (.iload_n 3, 1) := by decide +kernel
theorem dX8_unseen_63 : decode cX8_unseen 63 = .ok (.iadd, 1) := by decide +kernel
theorem dX8_unseen_64 : decode cX8_unseen 64 = .ok (.ishl, 1) := by decide +kernel
theorem dX8_unseen_65 : decode cX8_unseen 65 = .ok (.ior, 1) := by decide +kernel
theorem dX8_unseen_66 : decode cX8_unseen 66 = .ok (.istore_n 1, 1) := by decide +kernel
theorem dX8_unseen_67 : decode cX8_unseen 67 = .ok (.iinc 3 1, 3) := by decide +kernel
theorem dX8_unseen_70 : decode cX8_unseen 70 = .ok (.goto (-42), 3) := by decide +kernel
theorem dX8_unseen_73 : decode cX8_unseen 73 = .ok (.iinc 2 1, 3) := by decide +kernel
theorem dX8_unseen_76 : decode cX8_unseen 76 = .ok (.goto (-61), 3) := by decide +kernel
theorem dX8_unseen_79 : decode cX8_unseen 79 = .ok (.iload_n 1, 1) := by decide +kernel
theorem dX8_unseen_80 : decode cX8_unseen 80 = .ok (.ireturn, 1) := by decide +kernel
set_option maxRecDepth 20000 in
theorem ggX8_someOtherValueFits_X6_at : GoodIn wsX8_someOtherValueFits wsX6_at := goodIn_r _ [8, 9, 63, 64] (by decide +kernel) (by decide +kernel)
set_option maxRecDepth 20000 in
theorem gX8_someOtherValueFits_X6_at : GoodIn wsX8_someOtherValueFits (wsV RX8 107 RX6 yX6_at wsX6_at) := goodIn_app (goodIn_of _ (by decide +kernel)) ggX8_someOtherValueFits_X6_at
set_option maxRecDepth 20000 in
theorem ggX8_someOtherValueFits_X6_put : GoodIn wsX8_someOtherValueFits wsX6_put := goodIn_r _ [13, 9, 63, 64] (by decide +kernel) (by decide +kernel)
set_option maxRecDepth 20000 in
theorem gX8_someOtherValueFits_X6_put : GoodIn wsX8_someOtherValueFits (wsV RX8 114 RX6 yX6_put wsX6_put) := goodIn_app (goodIn_of _ (by decide +kernel)) ggX8_someOtherValueFits_X6_put
set_option maxRecDepth 20000 in
theorem ggX8_someOtherValueFits_X0_howMany : GoodIn wsX8_someOtherValueFits wsX0_howMany := goodIn_r _ [17, 18, 19, 20, 7, 21, 22, 23, 24, 16, 25, 26, 27, 28, 29, 30, 31, 32, 33, 9, 34, 35, 36, 37, 38, 39, 40, 41, 42, 43, 63, 64] (by decide +kernel) (by decide +kernel)
set_option maxRecDepth 20000 in
theorem gX8_someOtherValueFits_X0_howMany : GoodIn wsX8_someOtherValueFits (va_wsS RX8 204 yX0_howMany wsX0_howMany) := goodIn_app (goodIn_of _ (by decide +kernel)) ggX8_someOtherValueFits_X0_howMany
set_option maxRecDepth 20000 in
theorem ggX8_someOtherValueFits_X8_allSeenIs : GoodIn wsX8_someOtherValueFits wsX8_allSeenIs := goodIn_r _ [48, 49, 50, 51, 52, 53, 54, 55, 56, 57, 58, 59, 60, 61, 62] (by decide +kernel) (by decide +kernel)
set_option maxRecDepth 20000 in
theorem gX8_someOtherValueFits_X8_allSeenIs : GoodIn wsX8_someOtherValueFits (wsV RX8 207 RX8 yX8_allSeenIs wsX8_allSeenIs) := goodIn_app (goodIn_of _ (by decide +kernel)) ggX8_someOtherValueFits_X8_allSeenIs
theorem dX8_someOtherValueFits_0 : decode cX8_someOtherValueFits 0 = .ok (.aload_n 0, 1) := by decide +kernel
theorem dX8_someOtherValueFits_1 : decode cX8_someOtherValueFits 1 = .ok (.getfield 10, 3) := by decide +kernel
theorem dX8_someOtherValueFits_4 : decode cX8_someOtherValueFits 4 = .ok (.iload_n 1, 1) := by decide +kernel
theorem dX8_someOtherValueFits_5 : decode cX8_someOtherValueFits 5 = .ok (.invokevirtual 107, 3) := by decide +kernel
theorem dX8_someOtherValueFits_8 : decode cX8_someOtherValueFits 8 = .ok (.istore_n 2, 1) := by decide +kernel
theorem dX8_someOtherValueFits_9 : decode cX8_someOtherValueFits 9 = .ok (.iconst 0, 1) := by decide +kernel
theorem dX8_someOtherValueFits_10 : decode cX8_someOtherValueFits 10 = .ok (.istore_n 3, 1) := by decide +kernel
theorem dX8_someOtherValueFits_11 : decode cX8_someOtherValueFits 11 = .ok (.iconst 0, 1) := by decide +kernel
theorem dX8_someOtherValueFits_12 : decode cX8_someOtherValueFits 12 = .ok (.istore 4, 2) := by decide +kernel
theorem dX8_someOtherValueFits_14 : decode cX8_someOtherValueFits 14 = .ok (.iload 4, 2) := by decide +kernel
theorem dX8_someOtherValueFits_16 : decode cX8_someOtherValueFits 16 = .ok (.aload_n 0, 1) := by decide +kernel
theorem dX8_someOtherValueFits_17 : decode cX8_someOtherValueFits 17 = .ok (.getfield 10, 3) := by decide +kernel
theorem dX8_someOtherValueFits_20 : decode cX8_someOtherValueFits 20 = .ok (.getfield 187, 3) := by decide +kernel
theorem dX8_someOtherValueFits_23 : decode cX8_someOtherValueFits 23 = .ok (.if_icmp .ge 49, 3) := by decide +kernel
theorem dX8_someOtherValueFits_26 : decode cX8_someOtherValueFits 26 = .ok (.iload_n 3, 1) := by decide +kernel
theorem dX8_someOtherValueFits_27 : decode cX8_someOtherValueFits 27 = .ok (.ifCond .ne 45, 3) := by decide +kernel
theorem dX8_someOtherValueFits_30 : decode cX8_someOtherValueFits 30 = .ok (.aload_n 0, 1) := by decide +kernel
theorem dX8_someOtherValueFits_31 : decode cX8_someOtherValueFits 31 = .ok (.getfield 16, 3) := by decide +kernel
theorem dX8_someOtherValueFits_34 : decode cX8_someOtherValueFits 34 = .ok (.iload_n 1, 1) := by decide +kernel
theorem dX8_someOtherValueFits_35 : decode cX8_someOtherValueFits 35 = .ok (.iload 4, 2) := by decide +kernel
theorem dX8_someOtherValueFits_37 : decode cX8_someOtherValueFits 37 = .ok (.invokevirtual 114, 3) := by decide +kernel
theorem dX8_someOtherValueFits_40 : decode cX8_someOtherValueFits 40 = .ok (.iload 4, 2) := by decide +kernel
theorem dX8_someOtherValueFits_42 : decode cX8_someOtherValueFits 42 = .ok (.iload_n 2, 1) := by decide +kernel
theorem dX8_someOtherValueFits_43 : decode cX8_someOtherValueFits 43 = .ok (.if_icmp .eq 21, 3) := by decide +kernel
theorem dX8_someOtherValueFits_46 : decode cX8_someOtherValueFits 46 = .ok (.aload_n 0, 1) := by decide +kernel
theorem dX8_someOtherValueFits_47 : decode cX8_someOtherValueFits 47 = .ok (.aload_n 0, 1) := by decide +kernel
theorem dX8_someOtherValueFits_48 : decode cX8_someOtherValueFits 48 = .ok (.getfield 16, 3) := by decide +kernel
theorem dX8_someOtherValueFits_51 : decode cX8_someOtherValueFits 51 = .ok (.invokestatic 204, 3) := by decide +kernel
theorem dX8_someOtherValueFits_54 : decode cX8_someOtherValueFits 54 = .ok (.invokevirtual 207, 3) := by decide +kernel
theorem dX8_someOtherValueFits_57 : decode cX8_someOtherValueFits 57 = .ok (.ifCond .eq 7, 3) := by decide +kernel
theorem dX8_someOtherValueFits_60 : decode cX8_someOtherValueFits 60 = .ok (.iconst 1, 1) := by decide +kernel
theorem dX8_someOtherValueFits_61 : decode cX8_someOtherValueFits 61 = .ok (.goto 4, 3) := by decide +kernel
theorem dX8_someOtherValueFits_64 : decode cX8_someOtherValueFits 64 = .ok (.iconst 0, 1) := by decide +kernel
theorem dX8_someOtherValueFits_65 : decode cX8_someOtherValueFits 65 = .ok (.istore_n 3, 1) := by decide +kernel
theorem dX8_someOtherValueFits_66 : decode cX8_someOtherValueFits 66 = .ok (.iinc 4 1, 3) := by decide +kernel
theorem dX8_someOtherValueFits_69 : decode cX8_someOtherValueFits 69 = .ok (.goto (-55), 3) := by decide +kernel
theorem dX8_someOtherValueFits_72 : decode cX8_someOtherValueFits 72 = .ok (.aload_n 0, 1) := by decide +kernel
theorem dX8_someOtherValueFits_73 : decode cX8_someOtherValueFits 73 = .ok (.getfield 16, 3) := by decide +kernel
theorem dX8_someOtherValueFits_76 : decode cX8_someOtherValueFits 76 = .ok (.iload_n 1, 1) := by decide +kernel
theorem dX8_someOtherValueFits_77 : decode cX8_someOtherValueFits 77 = .ok (.iload_n 2, 1) := by decide +kernel
theorem dX8_someOtherValueFits_78 : decode cX8_someOtherValueFits 78 = .ok (.invokevirtual 114, 3) := by decide +kernel
theorem dX8_someOtherValueFits_81 : decode cX8_someOtherValueFits 81 = .ok (.iload_n 3, 1) := by decide +kernel
theorem dX8_someOtherValueFits_82 : decode cX8_someOtherValueFits 82 = .ok (.ireturn, 1) := by decide +kernel
theorem dX8_allSeenIs_0 : decode cX8_allSeenIs 0 = .ok (.iconst 0, 1) := by decide +kernel
theorem dX8_allSeenIs_1 : decode cX8_allSeenIs 1 = .ok (.istore_n 2, 1) := by decide +kernel
theorem dX8_allSeenIs_2 : decode cX8_allSeenIs 2 = .ok (.iload_n 2, 1) := by decide +kernel
theorem dX8_allSeenIs_3 : decode cX8_allSeenIs 3 = .ok (.aload_n 0, 1) := by decide +kernel
theorem dX8_allSeenIs_4 : decode cX8_allSeenIs 4 = .ok (.getfield 80, 3) := by decide +kernel
theorem dX8_allSeenIs_7 : decode cX8_allSeenIs 7 = .ok (.if_icmp .ge 21, 3) := by decide +kernel
theorem dX8_allSeenIs_10 : decode cX8_allSeenIs 10 = .ok (.aload_n 0, 1) := by decide +kernel
theorem dX8_allSeenIs_11 : decode cX8_allSeenIs 11 = .ok (.getfield 51, 3) := by decide +kernel
theorem dX8_allSeenIs_14 : decode cX8_allSeenIs 14 = .ok (.iload_n 2, 1) := by decide +kernel
theorem dX8_allSeenIs_15 : decode cX8_allSeenIs 15 = .ok (.iaload, 1) := by decide +kernel
theorem dX8_allSeenIs_16 : decode cX8_allSeenIs 16 = .ok (.iload_n 1, 1) := by decide +kernel
theorem dX8_allSeenIs_17 : decode cX8_allSeenIs 17 = .ok (.if_icmp .eq 5, 3) := by decide +kernel
theorem dX8_allSeenIs_20 : decode cX8_allSeenIs 20 = .ok (.iconst 0, 1) := by decide +kernel
theorem dX8_allSeenIs_21 : decode cX8_allSeenIs 21 = .ok (.ireturn, 1) := by decide +kernel
theorem dX8_allSeenIs_22 : decode cX8_allSeenIs 22 = .ok (.iinc 2 1, 3) := by decide +kernel
theorem dX8_allSeenIs_25 : decode cX8_allSeenIs 25 = .ok (.goto (-23), 3) := by decide +kernel
theorem dX8_allSeenIs_28 : decode cX8_allSeenIs 28 = .ok (.iconst 1, 1) := by decide +kernel
theorem dX8_allSeenIs_29 : decode cX8_allSeenIs 29 = .ok (.ireturn, 1) := by decide +kernel
set_option maxRecDepth 20000 in
theorem ggX8_keep_X6_copyFrom : GoodIn wsX8_keep wsX6_copyFrom := goodIn_r _ [9, 10, 11, 12, 13, 14, 15, 28, 29] (by decide +kernel) (by decide +kernel)
set_option maxRecDepth 20000 in
theorem gX8_keep_X6_copyFrom : GoodIn wsX8_keep (wsV RX8 73 RX6 yX6_copyFrom wsX6_copyFrom) := goodIn_app (goodIn_of _ (by decide +kernel)) ggX8_keep_X6_copyFrom
theorem dX8_keep_0 : decode cX8_keep 0 = .ok (.iload_n 1, 1) := by decide +kernel
theorem dX8_keep_1 : decode cX8_keep 1 = .ok (.ifCond .lt 12, 3) := by decide +kernel
theorem dX8_keep_4 : decode cX8_keep 4 = .ok (.iload_n 1, 1) := by decide +kernel
theorem dX8_keep_5 : decode cX8_keep 5 = .ok (.aload_n 0, 1) := by decide +kernel
theorem dX8_keep_6 : decode cX8_keep 6 = .ok (.getfield 54, 3) := by decide +kernel
theorem dX8_keep_9 : decode cX8_keep 9 = .ok (.arraylength, 1) := by decide +kernel
theorem dX8_keep_10 : decode cX8_keep 10 = .ok (.if_icmp .lt 6, 3) := by decide +kernel
theorem dX8_keep_13 : decode cX8_keep 13 = .ok (.bipush (-2), 2) := by decide +kernel
theorem dX8_keep_15 : decode cX8_keep 15 = .ok (.ireturn, 1) := by decide +kernel
theorem dX8_keep_16 : decode cX8_keep 16 = .ok (.aload_n 0, 1) := by decide +kernel
theorem dX8_keep_17 : decode cX8_keep 17 = .ok (.getfield 54, 3) := by decide +kernel
theorem dX8_keep_20 : decode cX8_keep 20 = .ok (.iload_n 1, 1) := by decide +kernel
theorem dX8_keep_21 : decode cX8_keep 21 = .ok (.aaload, 1) := by decide +kernel
theorem dX8_keep_22 : decode cX8_keep 22 = .ok (.aload_n 0, 1) := by decide +kernel
theorem dX8_keep_23 : decode cX8_keep 23 = .ok (.getfield 10, 3) := by decide +kernel
theorem dX8_keep_26 : decode cX8_keep 26 = .ok (.invokevirtual 73, 3) := by decide +kernel
theorem dX8_keep_29 : decode cX8_keep 29 = .ok (.aload_n 0, 1) := by decide +kernel
theorem dX8_keep_30 : decode cX8_keep 30 = .ok (.dup, 1) := by decide +kernel
theorem dX8_keep_31 : decode cX8_keep 31 = .ok (.getfield 83, 3) := by decide +kernel
theorem dX8_keep_34 : decode cX8_keep 34 = .ok (.iconst 1, 1) := by decide +kernel
theorem dX8_keep_35 : decode cX8_keep 35 = .ok (.iload_n 1, 1) := by decide +kernel
theorem dX8_keep_36 : decode cX8_keep 36 = .ok (.ishl, 1) := by decide +kernel
theorem dX8_keep_37 : decode cX8_keep 37 = .ok (.ior, 1) := by decide +kernel
theorem dX8_keep_38 : decode cX8_keep 38 = .ok (.putfield 83, 3) := by decide +kernel
theorem dX8_keep_41 : decode cX8_keep 41 = .ok (.aload_n 0, 1) := by decide +kernel
theorem dX8_keep_42 : decode cX8_keep 42 = .ok (.getfield 10, 3) := by decide +kernel
theorem dX8_keep_45 : decode cX8_keep 45 = .ok (.getfield 187, 3) := by decide +kernel
theorem dX8_keep_48 : decode cX8_keep 48 = .ok (.ireturn, 1) := by decide +kernel
set_option maxRecDepth 20000 in
theorem ggX8_back_X6_copyFrom : GoodIn wsX8_back wsX6_copyFrom := goodIn_r _ [10, 11, 12, 13, 14, 15, 16, 35, 36] (by decide +kernel) (by decide +kernel)
set_option maxRecDepth 20000 in
theorem gX8_back_X6_copyFrom : GoodIn wsX8_back (wsV RX8 73 RX6 yX6_copyFrom wsX6_copyFrom) := goodIn_app (goodIn_of _ (by decide +kernel)) ggX8_back_X6_copyFrom
set_option maxRecDepth 20000 in
theorem ggX8_back_X2_loseAll : GoodIn wsX8_back wsX2_loseAll := goodIn_r _ [21, 22, 37, 38, 39] (by decide +kernel) (by decide +kernel)
set_option maxRecDepth 20000 in
theorem gX8_back_X2_loseAll : GoodIn wsX8_back (wsV RX8 77 RX2 yX2_loseAll wsX2_loseAll) := goodIn_app (goodIn_of _ (by decide +kernel)) ggX8_back_X2_loseAll
theorem dX8_back_0 : decode cX8_back 0 = .ok (.iload_n 1, 1) := by decide +kernel
theorem dX8_back_1 : decode cX8_back 1 = .ok (.ifCond .lt 12, 3) := by decide +kernel
theorem dX8_back_4 : decode cX8_back 4 = .ok (.iload_n 1, 1) := by decide +kernel
theorem dX8_back_5 : decode cX8_back 5 = .ok (.aload_n 0, 1) := by decide +kernel
theorem dX8_back_6 : decode cX8_back 6 = .ok (.getfield 54, 3) := by decide +kernel
theorem dX8_back_9 : decode cX8_back 9 = .ok (.arraylength, 1) := by decide +kernel
theorem dX8_back_10 : decode cX8_back 10 = .ok (.if_icmp .lt 6, 3) := by decide +kernel
theorem dX8_back_13 : decode cX8_back 13 = .ok (.bipush (-2), 2) := by decide +kernel
theorem dX8_back_15 : decode cX8_back 15 = .ok (.ireturn, 1) := by decide +kernel
theorem dX8_back_16 : decode cX8_back 16 = .ok (.aload_n 0, 1) := by decide +kernel
theorem dX8_back_17 : decode cX8_back 17 = .ok (.getfield 83, 3) := by decide +kernel
theorem dX8_back_20 : decode cX8_back 20 = .ok (.iload_n 1, 1) := by decide +kernel
theorem dX8_back_21 : decode cX8_back 21 = .ok (.ishr, 1) := by decide +kernel
theorem dX8_back_22 : decode cX8_back 22 = .ok (.iconst 1, 1) := by decide +kernel
theorem dX8_back_23 : decode cX8_back 23 = .ok (.iand, 1) := by decide +kernel
theorem dX8_back_24 : decode cX8_back 24 = .ok (.ifCond .ne 6, 3) := by decide +kernel
theorem dX8_back_27 : decode cX8_back 27 = .ok (.bipush (-3), 2) := by decide +kernel
theorem dX8_back_29 : decode cX8_back 29 = .ok (.ireturn, 1) := by decide +kernel
theorem dX8_back_30 : decode cX8_back 30 = .ok (.aload_n 0, 1) := by decide +kernel
theorem dX8_back_31 : decode cX8_back 31 = .ok (.getfield 10, 3) := by decide +kernel
theorem dX8_back_34 : decode cX8_back 34 = .ok (.aload_n 0, 1) := by decide +kernel
theorem dX8_back_35 : decode cX8_back 35 = .ok (.getfield 54, 3) := by decide +kernel
theorem dX8_back_38 : decode cX8_back 38 = .ok (.iload_n 1, 1) := by decide +kernel
theorem dX8_back_39 : decode cX8_back 39 = .ok (.aaload, 1) := by decide +kernel
theorem dX8_back_40 : decode cX8_back 40 = .ok (.invokevirtual 73, 3) := by decide +kernel
theorem dX8_back_43 : decode cX8_back 43 = .ok (.aload_n 0, 1) := by decide +kernel
theorem dX8_back_44 : decode cX8_back 44 = .ok (.getfield 29, 3) := by decide +kernel
theorem dX8_back_47 : decode cX8_back 47 = .ok (.invokevirtual 77, 3) := by decide +kernel
theorem dX8_back_50 : decode cX8_back 50 = .ok (.aload_n 0, 1) := by decide +kernel
theorem dX8_back_51 : decode cX8_back 51 = .ok (.getfield 10, 3) := by decide +kernel
theorem dX8_back_54 : decode cX8_back 54 = .ok (.getfield 187, 3) := by decide +kernel
theorem dX8_back_57 : decode cX8_back 57 = .ok (.ireturn, 1) := by decide +kernel
set_option maxRecDepth 20000 in
theorem ggX8_count_X0_howMany : GoodIn wsX8_count wsX0_howMany := goodIn_r _ [12, 13, 14, 15, 16, 17, 18, 19, 20, 11, 21, 22, 23, 24, 25, 26, 27, 28, 29, 30, 31, 32, 33, 34, 35, 36, 37, 38, 39, 40, 117, 118] (by decide +kernel) (by decide +kernel)
set_option maxRecDepth 20000 in
theorem gX8_count_X0_howMany : GoodIn wsX8_count (va_wsS RX8 204 yX0_howMany wsX0_howMany) := goodIn_app (goodIn_of _ (by decide +kernel)) ggX8_count_X0_howMany
set_option maxRecDepth 20000 in
theorem ggX8_count_X1_seekIn : GoodIn wsX8_count wsX1_seekIn := goodIn_r _ [45, 46, 47, 48, 49, 50, 51, 52, 44, 53, 54, 55, 56, 57, 58, 59, 60, 27, 28, 16, 29, 30, 31, 32, 33, 61, 62, 63, 64, 35, 36, 37, 38, 39, 40, 117, 118, 119, 120, 121] (by decide +kernel) (by decide +kernel)
set_option maxRecDepth 20000 in
theorem gX8_count_X1_seekIn : GoodIn wsX8_count (wsV RX8 151 RX1 yX1_seekIn wsX1_seekIn) := goodIn_app (goodIn_of _ (by decide +kernel)) ggX8_count_X1_seekIn
set_option maxRecDepth 20000 in
theorem ggX8_count_X3_thatHold : GoodIn wsX8_count wsX3_thatHold := goodIn_r _ [68, 69, 70, 67, 71, 72, 73, 74, 75, 76, 77, 78, 79, 35, 36, 16, 37, 30, 38, 39, 40, 80, 27, 28, 29, 31, 32, 33, 117, 118] (by decide +kernel) (by decide +kernel)
set_option maxRecDepth 20000 in
theorem gX8_count_X3_thatHold : GoodIn wsX8_count (va_wsS RX8 213 yX3_thatHold wsX3_thatHold) := goodIn_app (goodIn_of _ (by decide +kernel)) ggX8_count_X3_thatHold
set_option maxRecDepth 20000 in
theorem ggX8_count_X4_howMany : GoodIn wsX8_count wsX4_howMany := goodIn_r _ [84, 85, 86, 87, 83, 88, 89, 90, 91, 92, 93, 94, 16, 95, 18, 96, 97, 98, 99, 14, 15, 17, 100, 101, 102, 103, 27, 28, 29, 30, 31, 32, 33, 104, 35, 36, 37, 38, 39, 40, 117, 118] (by decide +kernel) (by decide +kernel)
set_option maxRecDepth 20000 in
theorem gX8_count_X4_howMany : GoodIn wsX8_count (va_wsS RX8 216 yX4_howMany wsX4_howMany) := goodIn_app (goodIn_of _ (by decide +kernel)) ggX8_count_X4_howMany
theorem dX8_count_0 : decode cX8_count 0 = .ok (.iload_n 1, 1) := by decide +kernel
theorem dX8_count_1 : decode cX8_count 1 = .ok (.tableswitch 130 0 8 #[51, 59, 67, 86, 94, 103, 112, 117, 122], 51) := by decide +kernel
theorem dX8_count_52 : decode cX8_count 52 = .ok (.aload_n 0, 1) := by decide +kernel
theorem dX8_count_53 : decode cX8_count 53 = .ok (.getfield 10, 3) := by decide +kernel
theorem dX8_count_56 : decode cX8_count 56 = .ok (.getfield 187, 3) := by decide +kernel
theorem dX8_count_59 : decode cX8_count 59 = .ok (.ireturn, 1) := by decide +kernel
theorem dX8_count_60 : decode cX8_count 60 = .ok (.aload_n 0, 1) := by decide +kernel
theorem dX8_count_61 : decode cX8_count 61 = .ok (.getfield 10, 3) := by decide +kernel
theorem dX8_count_64 : decode cX8_count 64 = .ok (.invokestatic 204, 3) := by decide +kernel
theorem dX8_count_67 : decode cX8_count 67 = .ok (.ireturn, 1) := by decide +kernel
theorem dX8_count_68 : decode cX8_count 68 = .ok (.aload_n 0, 1) := by decide +kernel
theorem dX8_count_69 : decode cX8_count 69 = .ok (.getfield 36, 3) := by decide +kernel
theorem dX8_count_72 : decode cX8_count 72 = .ok (.aload_n 0, 1) := by decide +kernel
theorem dX8_count_73 : decode cX8_count 73 = .ok (.getfield 10, 3) := by decide +kernel
theorem dX8_count_76 : decode cX8_count 76 = .ok (.invokevirtual 151, 3) := by decide +kernel
theorem dX8_count_79 : decode cX8_count 79 = .ok (.aload_n 0, 1) := by decide +kernel
theorem dX8_count_80 : decode cX8_count 80 = .ok (.getfield 36, 3) := by decide +kernel
theorem dX8_count_83 : decode cX8_count 83 = .ok (.getfield 210, 3) := by decide +kernel
theorem dX8_count_86 : decode cX8_count 86 = .ok (.ireturn, 1) := by decide +kernel
theorem dX8_count_87 : decode cX8_count 87 = .ok (.aload_n 0, 1) := by decide +kernel
theorem dX8_count_88 : decode cX8_count 88 = .ok (.getfield 10, 3) := by decide +kernel
theorem dX8_count_91 : decode cX8_count 91 = .ok (.invokestatic 213, 3) := by decide +kernel
theorem dX8_count_94 : decode cX8_count 94 = .ok (.ireturn, 1) := by decide +kernel
theorem dX8_count_95 : decode cX8_count 95 = .ok (.aload_n 0, 1) := by decide +kernel
theorem dX8_count_96 : decode cX8_count 96 = .ok (.getfield 10, 3) := by decide +kernel
theorem dX8_count_99 : decode cX8_count 99 = .ok (.iconst 0, 1) := by decide +kernel
theorem dX8_count_100 : decode cX8_count 100 = .ok (.invokestatic 216, 3) := by decide +kernel
theorem dX8_count_103 : decode cX8_count 103 = .ok (.ireturn, 1) := by decide +kernel
theorem dX8_count_104 : decode cX8_count 104 = .ok (.aload_n 0, 1) := by decide +kernel
theorem dX8_count_105 : decode cX8_count 105 = .ok (.getfield 10, 3) := by decide +kernel
theorem dX8_count_108 : decode cX8_count 108 = .ok (.iconst 1, 1) := by decide +kernel
theorem dX8_count_109 : decode cX8_count 109 = .ok (.invokestatic 216, 3) := by decide +kernel
theorem dX8_count_112 : decode cX8_count 112 = .ok (.ireturn, 1) := by decide +kernel
theorem dX8_count_113 : decode cX8_count 113 = .ok (.aload_n 0, 1) := by decide +kernel
theorem dX8_count_114 : decode cX8_count 114 = .ok (.getfield 80, 3) := by decide +kernel
theorem dX8_count_117 : decode cX8_count 117 = .ok (.ireturn, 1) := by decide +kernel
theorem dX8_count_118 : decode cX8_count 118 = .ok (.aload_n 0, 1) := by decide +kernel
theorem dX8_count_119 : decode cX8_count 119 = .ok (.getfield 62, 3) := by decide +kernel
theorem dX8_count_122 : decode cX8_count 122 = .ok (.ireturn, 1) := by decide +kernel
theorem dX8_count_123 : decode cX8_count 123 = .ok (.aload_n 0, 1) := by decide +kernel
theorem dX8_count_124 : decode cX8_count 124 = .ok (.getfield 29, 3) := by decide +kernel
theorem dX8_count_127 : decode cX8_count 127 = .ok (.getfield 117, 3) := by decide +kernel
theorem dX8_count_130 : decode cX8_count 130 = .ok (.ireturn, 1) := by decide +kernel
theorem dX8_count_131 : decode cX8_count 131 = .ok (.bipush (-2), 2) := by decide +kernel
theorem dX8_count_133 : decode cX8_count 133 = .ok (.ireturn, 1) := by decide +kernel
theorem dX8_oneIf_0 : decode cX8_oneIf 0 = .ok (.iload_n 0, 1) := by decide +kernel
theorem dX8_oneIf_1 : decode cX8_oneIf 1 = .ok (.ifCond .eq 7, 3) := by decide +kernel
theorem dX8_oneIf_4 : decode cX8_oneIf 4 = .ok (.iconst 1, 1) := by decide +kernel
theorem dX8_oneIf_5 : decode cX8_oneIf 5 = .ok (.goto 4, 3) := by decide +kernel
theorem dX8_oneIf_8 : decode cX8_oneIf 8 = .ok (.iconst 0, 1) := by decide +kernel
theorem dX8_oneIf_9 : decode cX8_oneIf 9 = .ok (.ireturn, 1) := by decide +kernel
end
section
set_option maxRecDepth 20000 in
theorem ggX9_init_X9_begins : GoodIn wsX9_init wsX9_begins := goodIn_r _ [19] (by decide +kernel) (by decide +kernel)
set_option maxRecDepth 20000 in
theorem gX9_init_X9_begins : GoodIn wsX9_init (va_wsS RX9 39 yX9_begins wsX9_begins) := goodIn_app (goodIn_of _ (by decide +kernel)) ggX9_init_X9_begins
theorem dX9_init_0 : decode cX9_init 0 = .ok (.aload_n 0, 1) := by decide +kernel
theorem dX9_init_1 : decode cX9_init 1 = .ok (.invokespecial 1, 3) := by decide +kernel
theorem dX9_init_4 : decode cX9_init 4 = .ok (.aload_n 0, 1) := by decide +kernel
theorem dX9_init_5 : decode cX9_init 5 = .ok (.bipush 21, 2) := by decide +kernel
theorem dX9_init_7 : decode cX9_init 7 = .ok (.newarray .int, 2) := by decide +kernel
theorem dX9_init_9 : decode cX9_init 9 = .ok (.putfield 7, 3) := by decide +kernel
theorem dX9_init_12 : decode cX9_init 12 = .ok (.aload_n 0, 1) := by decide +kernel
theorem dX9_init_13 : decode cX9_init 13 = .ok (.sipush 252, 3) := by decide +kernel
theorem dX9_init_16 : decode cX9_init 16 = .ok (.newarray .int, 2) := by decide +kernel
theorem dX9_init_18 : decode cX9_init 18 = .ok (.putfield 13, 3) := by decide +kernel
theorem dX9_init_21 : decode cX9_init 21 = .ok (.aload_n 0, 1) := by decide +kernel
theorem dX9_init_22 : decode cX9_init 22 = .ok (.bipush 6, 2) := by decide +kernel
theorem dX9_init_24 : decode cX9_init 24 = .ok (.newarray .int, 2) := by decide +kernel
theorem dX9_init_26 : decode cX9_init 26 = .ok (.putfield 16, 3) := by decide +kernel
theorem dX9_init_29 : decode cX9_init 29 = .ok (.aload_n 0, 1) := by decide +kernel
theorem dX9_init_30 : decode cX9_init 30 = .ok (.iconst 2, 1) := by decide +kernel
theorem dX9_init_31 : decode cX9_init 31 = .ok (.newarray .boolean, 2) := by decide +kernel
theorem dX9_init_33 : decode cX9_init 33 = .ok (.putfield 19, 3) := by decide +kernel
theorem dX9_init_36 : decode cX9_init 36 = .ok (.aload_n 0, 1) := by decide +kernel
theorem dX9_init_37 : decode cX9_init 37 = .ok (.bipush 42, 2) := by decide +kernel
theorem dX9_init_39 : decode cX9_init 39 = .ok (.newarray .int, 2) := by decide +kernel
theorem dX9_init_41 : decode cX9_init 41 = .ok (.putfield 23, 3) := by decide +kernel
theorem dX9_init_44 : decode cX9_init 44 = .ok (.aload_n 0, 1) := by decide +kernel
theorem dX9_init_45 : decode cX9_init 45 = .ok (.bipush 60, 2) := by decide +kernel
theorem dX9_init_47 : decode cX9_init 47 = .ok (.newarray .int, 2) := by decide +kernel
theorem dX9_init_49 : decode cX9_init 49 = .ok (.putfield 26, 3) := by decide +kernel
theorem dX9_init_52 : decode cX9_init 52 = .ok (.aload_n 0, 1) := by decide +kernel
theorem dX9_init_53 : decode cX9_init 53 = .ok (.bipush 21, 2) := by decide +kernel
theorem dX9_init_55 : decode cX9_init 55 = .ok (.newarray .int, 2) := by decide +kernel
theorem dX9_init_57 : decode cX9_init 57 = .ok (.putfield 29, 3) := by decide +kernel
theorem dX9_init_60 : decode cX9_init 60 = .ok (.aload_n 0, 1) := by decide +kernel
theorem dX9_init_61 : decode cX9_init 61 = .ok (.bipush 16, 2) := by decide +kernel
theorem dX9_init_63 : decode cX9_init 63 = .ok (.newarray .int, 2) := by decide +kernel
theorem dX9_init_65 : decode cX9_init 65 = .ok (.putfield 32, 3) := by decide +kernel
theorem dX9_init_68 : decode cX9_init 68 = .ok (.aload_n 0, 1) := by decide +kernel
theorem dX9_init_69 : decode cX9_init 69 = .ok (.sipush 202, 3) := by decide +kernel
theorem dX9_init_72 : decode cX9_init 72 = .ok (.newarray .long, 2) := by decide +kernel
theorem dX9_init_74 : decode cX9_init 74 = .ok (.putfield 35, 3) := by decide +kernel
theorem dX9_init_77 : decode cX9_init 77 = .ok (.aload_n 0, 1) := by decide +kernel
theorem dX9_init_78 : decode cX9_init 78 = .ok (.getfield 7, 3) := by decide +kernel
theorem dX9_init_81 : decode cX9_init 81 = .ok (.iconst 2, 1) := by decide +kernel
theorem dX9_init_82 : decode cX9_init 82 = .ok (.invokestatic 39, 3) := by decide +kernel
theorem dX9_init_85 : decode cX9_init 85 = .ok (.return_, 1) := by decide +kernel
theorem dX9_in_0 : decode cX9_in 0 = .ok (.iload_n 0, 1) := by decide +kernel
theorem dX9_in_1 : decode cX9_in 1 = .ok (.iload_n 1, 1) := by decide +kernel
theorem dX9_in_2 : decode cX9_in 2 = .ok (.if_icmp .lt 12, 3) := by decide +kernel
theorem dX9_in_5 : decode cX9_in 5 = .ok (.iload_n 0, 1) := by decide +kernel
theorem dX9_in_6 : decode cX9_in 6 = .ok (.iload_n 2, 1) := by decide +kernel
theorem dX9_in_7 : decode cX9_in 7 = .ok (.if_icmp .gt 7, 3) := by decide +kernel
theorem dX9_in_10 : decode cX9_in 10 = .ok (.iconst 1, 1) := by decide +kernel
theorem dX9_in_11 : decode cX9_in 11 = .ok (.goto 4, 3) := by decide +kernel
theorem dX9_in_14 : decode cX9_in 14 = .ok (.iconst 0, 1) := by decide +kernel
theorem dX9_in_15 : decode cX9_in 15 = .ok (.ireturn, 1) := by decide +kernel
theorem dX9_has_0 : decode cX9_has 0 = .ok (.iload_n 0, 1) := by decide +kernel
theorem dX9_has_1 : decode cX9_has 1 = .ok (.iload_n 1, 1) := by decide +kernel
theorem dX9_has_2 : decode cX9_has 2 = .ok (.ishr, 1) := by decide +kernel
theorem dX9_has_3 : decode cX9_has 3 = .ok (.iconst 1, 1) := by decide +kernel
theorem dX9_has_4 : decode cX9_has 4 = .ok (.iand, 1) := by decide +kernel
theorem dX9_has_5 : decode cX9_has 5 = .ok (.iconst 1, 1) := by decide +kernel
theorem dX9_has_6 : decode cX9_has 6 = .ok (.if_icmp .ne 7, 3) := by decide +kernel
theorem dX9_has_9 : decode cX9_has 9 = .ok (.iconst 1, 1) := by decide +kernel
theorem dX9_has_10 : decode cX9_has 10 = .ok (.goto 4, 3) := by decide +kernel
theorem dX9_has_13 : decode cX9_has 13 = .ok (.iconst 0, 1) := by decide +kernel
theorem dX9_has_14 : decode cX9_has 14 = .ok (.ireturn, 1) := by decide +kernel
theorem dX9_begins_0 : decode cX9_begins 0 = .ok (.iconst 0, 1) := by decide +kernel
theorem dX9_begins_1 : decode cX9_begins 1 = .ok (.istore_n 2, 1) := by decide +kernel
theorem dX9_begins_2 : decode cX9_begins 2 = .ok (.iload_n 2, 1) := by decide +kernel
theorem dX9_begins_3 : decode cX9_begins 3 = .ok (.iconst 4, 1) := by decide +kernel
theorem dX9_begins_4 : decode cX9_begins 4 = .ok (.if_icmp .ge 37, 3) := by decide +kernel
theorem dX9_begins_7 : decode cX9_begins 7 = .ok (.iconst 0, 1) := by decide +kernel
theorem dX9_begins_8 : decode cX9_begins 8 = .ok (.istore_n 3, 1) := by decide +kernel
theorem dX9_begins_9 : decode cX9_begins 9 = .ok (.iload_n 3, 1) := by decide +kernel
theorem dX9_begins_10 : decode cX9_begins 10 = .ok (.iconst 4, 1) := by decide +kernel
theorem dX9_begins_11 : decode cX9_begins 11 = .ok (.if_icmp .ge 17, 3) := by decide +kernel
theorem dX9_begins_14 : decode cX9_begins 14 = .ok (.aload_n 0, 1) := by decide +kernel
theorem dX9_begins_15 : decode cX9_begins 15 = .ok (.iconst 4, 1) := by decide +kernel
theorem dX9_begins_16 : decode cX9_begins 16 = .ok (.iload_n 2, 1) := by decide +kernel
theorem dX9_begins_17 : decode cX9_begins 17 = .ok (.imul, 1) := by decide +kernel
theorem dX9_begins_18 : decode cX9_begins 18 = .ok (.iload_n 3, 1) := by decide +kernel
theorem dX9_begins_19 : decode cX9_begins 19 = .ok (.iadd, 1) := by decide +kernel
theorem dX9_begins_20 : decode cX9_begins 20 = .ok (.iload_n 2, 1) := by decide +kernel
theorem dX9_begins_21 : decode cX9_begins 21 = .ok (.iastore, 1) := by decide +kernel
theorem dX9_begins_22 : decode cX9_begins 22 = .ok (.iinc 3 1, 3) := by decide +kernel
theorem dX9_begins_25 : decode cX9_begins 25 = .ok (.goto (-16), 3) := by decide +kernel
theorem dX9_begins_28 : decode cX9_begins 28 = .ok (.aload_n 0, 1) := by decide +kernel
theorem dX9_begins_29 : decode cX9_begins 29 = .ok (.bipush 16, 2) := by decide +kernel
theorem dX9_begins_31 : decode cX9_begins 31 = .ok (.iload_n 2, 1) := by decide +kernel
theorem dX9_begins_32 : decode cX9_begins 32 = .ok (.iadd, 1) := by decide +kernel
theorem dX9_begins_33 : decode cX9_begins 33 = .ok (.iload_n 2, 1) := by decide +kernel
theorem dX9_begins_34 : decode cX9_begins 34 = .ok (.iastore, 1) := by decide +kernel
theorem dX9_begins_35 : decode cX9_begins 35 = .ok (.iinc 2 1, 3) := by decide +kernel
theorem dX9_begins_38 : decode cX9_begins 38 = .ok (.goto (-36), 3) := by decide +kernel
theorem dX9_begins_41 : decode cX9_begins 41 = .ok (.aload_n 0, 1) := by decide +kernel
theorem dX9_begins_42 : decode cX9_begins 42 = .ok (.bipush 20, 2) := by decide +kernel
theorem dX9_begins_44 : decode cX9_begins 44 = .ok (.iload_n 1, 1) := by decide +kernel
theorem dX9_begins_45 : decode cX9_begins 45 = .ok (.iastore, 1) := by decide +kernel
theorem dX9_begins_46 : decode cX9_begins 46 = .ok (.return_, 1) := by decide +kernel
theorem dX9_size_0 : decode cX9_size 0 = .ok (.aload_n 0, 1) := by decide +kernel
theorem dX9_size_1 : decode cX9_size 1 = .ok (.getfield 7, 3) := by decide +kernel
theorem dX9_size_4 : decode cX9_size 4 = .ok (.bipush 20, 2) := by decide +kernel
theorem dX9_size_6 : decode cX9_size 6 = .ok (.iaload, 1) := by decide +kernel
theorem dX9_size_7 : decode cX9_size 7 = .ok (.ireturn, 1) := by decide +kernel
theorem dX9_ff_0 : decode cX9_ff 0 = .ok (.aload_n 0, 1) := by decide +kernel
theorem dX9_ff_1 : decode cX9_ff 1 = .ok (.getfield 7, 3) := by decide +kernel
theorem dX9_ff_4 : decode cX9_ff 4 = .ok (.iconst 4, 1) := by decide +kernel
theorem dX9_ff_5 : decode cX9_ff 5 = .ok (.iload_n 1, 1) := by decide +kernel
theorem dX9_ff_6 : decode cX9_ff 6 = .ok (.imul, 1) := by decide +kernel
theorem dX9_ff_7 : decode cX9_ff 7 = .ok (.iload_n 2, 1) := by decide +kernel
theorem dX9_ff_8 : decode cX9_ff 8 = .ok (.iadd, 1) := by decide +kernel
theorem dX9_ff_9 : decode cX9_ff 9 = .ok (.iaload, 1) := by decide +kernel
theorem dX9_ff_10 : decode cX9_ff 10 = .ok (.ireturn, 1) := by decide +kernel
theorem dX9_gg_0 : decode cX9_gg 0 = .ok (.aload_n 0, 1) := by decide +kernel
theorem dX9_gg_1 : decode cX9_gg 1 = .ok (.getfield 7, 3) := by decide +kernel
theorem dX9_gg_4 : decode cX9_gg 4 = .ok (.bipush 16, 2) := by decide +kernel
theorem dX9_gg_6 : decode cX9_gg 6 = .ok (.iload_n 1, 1) := by decide +kernel
theorem dX9_gg_7 : decode cX9_gg 7 = .ok (.iadd, 1) := by decide +kernel
theorem dX9_gg_8 : decode cX9_gg 8 = .ok (.iaload, 1) := by decide +kernel
theorem dX9_gg_9 : decode cX9_gg 9 = .ok (.ireturn, 1) := by decide +kernel
set_option maxRecDepth 20000 in
theorem ggX9_is_X9_size : GoodIn wsX9_is wsX9_size := goodIn_r _ [5, 6, 10, 11, 12, 13, 14, 15, 16, 17, 18, 19, 20, 21, 22, 23, 24, 25, 26, 27, 28, 29, 30] (by decide +kernel) (by decide +kernel)
set_option maxRecDepth 20000 in
theorem gX9_is_X9_size : GoodIn wsX9_is (wsV RX9 43 RX9 yX9_size wsX9_size) := goodIn_app (goodIn_of _ (by decide +kernel)) ggX9_is_X9_size
set_option maxRecDepth 20000 in
theorem ggX9_is_X9_in : GoodIn wsX9_is wsX9_in := goodIn_r _ [9] (by decide +kernel) (by decide +kernel)
set_option maxRecDepth 20000 in
theorem gX9_is_X9_in : GoodIn wsX9_is (va_wsS RX9 47 yX9_in wsX9_in) := goodIn_app (goodIn_of _ (by decide +kernel)) ggX9_is_X9_in
theorem dX9_is_0 : decode cX9_is 0 = .ok (.iload_n 1, 1) := by decide +kernel
theorem dX9_is_1 : decode cX9_is 1 = .ok (.iconst 0, 1) := by decide +kernel
theorem dX9_is_2 : decode cX9_is 2 = .ok (.aload_n 0, 1) := by decide +kernel
theorem dX9_is_3 : decode cX9_is 3 = .ok (.invokevirtual 43, 3) := by decide +kernel
theorem dX9_is_6 : decode cX9_is 6 = .ok (.iconst 1, 1) := by decide +kernel
theorem dX9_is_7 : decode cX9_is 7 = .ok (.isub, 1) := by decide +kernel
theorem dX9_is_8 : decode cX9_is 8 = .ok (.invokestatic 47, 3) := by decide +kernel
theorem dX9_is_11 : decode cX9_is 11 = .ok (.ireturn, 1) := by decide +kernel
set_option maxRecDepth 20000 in
theorem ggX9_type_X9_in : GoodIn wsX9_type wsX9_in := goodIn_r _ [6] (by decide +kernel) (by decide +kernel)
set_option maxRecDepth 20000 in
theorem gX9_type_X9_in : GoodIn wsX9_type (va_wsS RX9 47 yX9_in wsX9_in) := goodIn_app (goodIn_of _ (by decide +kernel)) ggX9_type_X9_in
theorem dX9_type_0 : decode cX9_type 0 = .ok (.iload_n 1, 1) := by decide +kernel
theorem dX9_type_1 : decode cX9_type 1 = .ok (.iconst 0, 1) := by decide +kernel
theorem dX9_type_2 : decode cX9_type 2 = .ok (.sipush 255, 3) := by decide +kernel
theorem dX9_type_5 : decode cX9_type 5 = .ok (.invokestatic 47, 3) := by decide +kernel
theorem dX9_type_8 : decode cX9_type 8 = .ok (.ifCond .ne 6, 3) := by decide +kernel
theorem dX9_type_11 : decode cX9_type 11 = .ok (.bipush (-2), 2) := by decide +kernel
theorem dX9_type_13 : decode cX9_type 13 = .ok (.ireturn, 1) := by decide +kernel
theorem dX9_type_14 : decode cX9_type 14 = .ok (.aload_n 0, 1) := by decide +kernel
theorem dX9_type_15 : decode cX9_type 15 = .ok (.getfield 51, 3) := by decide +kernel
theorem dX9_type_18 : decode cX9_type 18 = .ok (.bipush 60, 2) := by decide +kernel
theorem dX9_type_20 : decode cX9_type 20 = .ok (.if_icmp .ne 6, 3) := by decide +kernel
theorem dX9_type_23 : decode cX9_type 23 = .ok (.bipush (-4), 2) := by decide +kernel
theorem dX9_type_25 : decode cX9_type 25 = .ok (.ireturn, 1) := by decide +kernel
theorem dX9_type_26 : decode cX9_type 26 = .ok (.aload_n 0, 1) := by decide +kernel
theorem dX9_type_27 : decode cX9_type 27 = .ok (.getfield 26, 3) := by decide +kernel
theorem dX9_type_30 : decode cX9_type 30 = .ok (.aload_n 0, 1) := by decide +kernel
theorem dX9_type_31 : decode cX9_type 31 = .ok (.getfield 51, 3) := by decide +kernel
theorem dX9_type_34 : decode cX9_type 34 = .ok (.iload_n 1, 1) := by decide +kernel
theorem dX9_type_35 : decode cX9_type 35 = .ok (.iastore, 1) := by decide +kernel
theorem dX9_type_36 : decode cX9_type 36 = .ok (.aload_n 0, 1) := by decide +kernel
theorem dX9_type_37 : decode cX9_type 37 = .ok (.dup, 1) := by decide +kernel
theorem dX9_type_38 : decode cX9_type 38 = .ok (.getfield 51, 3) := by decide +kernel
theorem dX9_type_41 : decode cX9_type 41 = .ok (.iconst 1, 1) := by decide +kernel
theorem dX9_type_42 : decode cX9_type 42 = .ok (.iadd, 1) := by decide +kernel
theorem dX9_type_43 : decode cX9_type 43 = .ok (.putfield 51, 3) := by decide +kernel
theorem dX9_type_46 : decode cX9_type 46 = .ok (.aload_n 0, 1) := by decide +kernel
theorem dX9_type_47 : decode cX9_type 47 = .ok (.getfield 51, 3) := by decide +kernel
theorem dX9_type_50 : decode cX9_type 50 = .ok (.ireturn, 1) := by decide +kernel
theorem dX9_clear_0 : decode cX9_clear 0 = .ok (.aload_n 0, 1) := by decide +kernel
theorem dX9_clear_1 : decode cX9_clear 1 = .ok (.getfield 51, 3) := by decide +kernel
theorem dX9_clear_4 : decode cX9_clear 4 = .ok (.istore_n 1, 1) := by decide +kernel
theorem dX9_clear_5 : decode cX9_clear 5 = .ok (.aload_n 0, 1) := by decide +kernel
theorem dX9_clear_6 : decode cX9_clear 6 = .ok (.iconst 0, 1) := by decide +kernel
theorem dX9_clear_7 : decode cX9_clear 7 = .ok (.putfield 51, 3) := by decide +kernel
theorem dX9_clear_10 : decode cX9_clear 10 = .ok (.iload_n 1, 1) := by decide +kernel
theorem dX9_clear_11 : decode cX9_clear 11 = .ok (.ireturn, 1) := by decide +kernel
theorem dX9_blanks_0 : decode cX9_blanks 0 = .ok (.aload_n 0, 1) := by decide +kernel
theorem dX9_blanks_1 : decode cX9_blanks 1 = .ok (.getfield 55, 3) := by decide +kernel
theorem dX9_blanks_4 : decode cX9_blanks 4 = .ok (.aload_n 0, 1) := by decide +kernel
theorem dX9_blanks_5 : decode cX9_blanks 5 = .ok (.getfield 51, 3) := by decide +kernel
theorem dX9_blanks_8 : decode cX9_blanks 8 = .ok (.if_icmp .ge 30, 3) := by decide +kernel
theorem dX9_blanks_11 : decode cX9_blanks 11 = .ok (.aload_n 0, 1) := by decide +kernel
theorem dX9_blanks_12 : decode cX9_blanks 12 = .ok (.getfield 26, 3) := by decide +kernel
theorem dX9_blanks_15 : decode cX9_blanks 15 = .ok (.aload_n 0, 1) := by decide +kernel
theorem dX9_blanks_16 : decode cX9_blanks 16 = .ok (.getfield 55, 3) := by decide +kernel
theorem dX9_blanks_19 : decode cX9_blanks 19 = .ok (.iaload, 1) := by decide +kernel
theorem dX9_blanks_20 : decode cX9_blanks 20 = .ok (.bipush 32, 2) := by decide +kernel
theorem dX9_blanks_22 : decode cX9_blanks 22 = .ok (.if_icmp .ne 16, 3) := by decide +kernel
theorem dX9_blanks_25 : decode cX9_blanks 25 = .ok (.aload_n 0, 1) := by decide +kernel
theorem dX9_blanks_26 : decode cX9_blanks 26 = .ok (.dup, 1) := by decide +kernel
theorem dX9_blanks_27 : decode cX9_blanks 27 = .ok (.getfield 55, 3) := by decide +kernel
theorem dX9_blanks_30 : decode cX9_blanks 30 = .ok (.iconst 1, 1) := by decide +kernel
theorem dX9_blanks_31 : decode cX9_blanks 31 = .ok (.iadd, 1) := by decide +kernel
theorem dX9_blanks_32 : decode cX9_blanks 32 = .ok (.putfield 55, 3) := by decide +kernel
theorem dX9_blanks_35 : decode cX9_blanks 35 = .ok (.goto (-35), 3) := by decide +kernel
theorem dX9_blanks_38 : decode cX9_blanks 38 = .ok (.return_, 1) := by decide +kernel
set_option maxRecDepth 20000 in
theorem ggX9_next_X9_blanks : GoodIn wsX9_next wsX9_blanks := goodIn_r _ [10, 1, 3, 4, 11, 12, 13, 14, 15, 16, 17, 18, 19, 20, 21, 22, 23, 24, 25, 26, 27, 28, 29, 30, 31] (by decide +kernel) (by decide +kernel)
set_option maxRecDepth 20000 in
theorem gX9_next_X9_blanks : GoodIn wsX9_next (wsV RX9 58 RX9 yX9_blanks wsX9_blanks) := goodIn_app (goodIn_of _ (by decide +kernel)) ggX9_next_X9_blanks
theorem dX9_next_0 : decode cX9_next 0 = .ok (.aload_n 0, 1) := by decide +kernel
theorem dX9_next_1 : decode cX9_next 1 = .ok (.invokevirtual 58, 3) := by decide +kernel
theorem dX9_next_4 : decode cX9_next 4 = .ok (.aload_n 0, 1) := by decide +kernel
theorem dX9_next_5 : decode cX9_next 5 = .ok (.aload_n 0, 1) := by decide +kernel
theorem dX9_next_6 : decode cX9_next 6 = .ok (.getfield 55, 3) := by decide +kernel
theorem dX9_next_9 : decode cX9_next 9 = .ok (.putfield 61, 3) := by decide +kernel
theorem dX9_next_12 : decode cX9_next 12 = .ok (.aload_n 0, 1) := by decide +kernel
theorem dX9_next_13 : decode cX9_next 13 = .ok (.aload_n 0, 1) := by decide +kernel
theorem dX9_next_14 : decode cX9_next 14 = .ok (.getfield 55, 3) := by decide +kernel
theorem dX9_next_17 : decode cX9_next 17 = .ok (.aload_n 0, 1) := by decide +kernel
theorem dX9_next_18 : decode cX9_next 18 = .ok (.getfield 51, 3) := by decide +kernel
theorem dX9_next_21 : decode cX9_next 21 = .ok (.if_icmp .ne 7, 3) := by decide +kernel
theorem dX9_next_24 : decode cX9_next 24 = .ok (.iconst (-1), 1) := by decide +kernel
theorem dX9_next_25 : decode cX9_next 25 = .ok (.goto 12, 3) := by decide +kernel
theorem dX9_next_28 : decode cX9_next 28 = .ok (.aload_n 0, 1) := by decide +kernel
theorem dX9_next_29 : decode cX9_next 29 = .ok (.getfield 26, 3) := by decide +kernel
theorem dX9_next_32 : decode cX9_next 32 = .ok (.aload_n 0, 1) := by decide +kernel
theorem dX9_next_33 : decode cX9_next 33 = .ok (.getfield 55, 3) := by decide +kernel
theorem dX9_next_36 : decode cX9_next 36 = .ok (.iaload, 1) := by decide +kernel
theorem dX9_next_37 : decode cX9_next 37 = .ok (.putfield 64, 3) := by decide +kernel
theorem dX9_next_40 : decode cX9_next 40 = .ok (.aload_n 0, 1) := by decide +kernel
theorem dX9_next_41 : decode cX9_next 41 = .ok (.dup, 1) := by decide +kernel
theorem dX9_next_42 : decode cX9_next 42 = .ok (.getfield 55, 3) := by decide +kernel
theorem dX9_next_45 : decode cX9_next 45 = .ok (.aload_n 0, 1) := by decide +kernel
theorem dX9_next_46 : decode cX9_next 46 = .ok (.getfield 55, 3) := by decide +kernel
theorem dX9_next_49 : decode cX9_next 49 = .ok (.aload_n 0, 1) := by decide +kernel
theorem dX9_next_50 : decode cX9_next 50 = .ok (.getfield 51, 3) := by decide +kernel
theorem dX9_next_53 : decode cX9_next 53 = .ok (.if_icmp .ne 7, 3) := by decide +kernel
theorem dX9_next_56 : decode cX9_next 56 = .ok (.iconst 0, 1) := by decide +kernel
theorem dX9_next_57 : decode cX9_next 57 = .ok (.goto 4, 3) := by decide +kernel
theorem dX9_next_60 : decode cX9_next 60 = .ok (.iconst 1, 1) := by decide +kernel
theorem dX9_next_61 : decode cX9_next 61 = .ok (.iadd, 1) := by decide +kernel
theorem dX9_next_62 : decode cX9_next 62 = .ok (.putfield 55, 3) := by decide +kernel
theorem dX9_next_65 : decode cX9_next 65 = .ok (.return_, 1) := by decide +kernel
set_option maxRecDepth 20000 in
theorem ggX9_figure_X9_next : GoodIn wsX9_figure wsX9_next := goodIn_r _ [6, 7, 8, 9, 10, 1, 11, 12, 13, 5, 14, 18, 19, 20, 21, 22, 23, 24, 25, 26, 27, 28, 29, 30, 31, 32, 33, 34, 35, 36, 37, 38] (by decide +kernel) (by decide +kernel)
set_option maxRecDepth 20000 in
theorem gX9_figure_X9_next : GoodIn wsX9_figure (wsV RX9 67 RX9 yX9_next wsX9_next) := goodIn_app (goodIn_of _ (by decide +kernel)) ggX9_figure_X9_next
set_option maxRecDepth 20000 in
theorem ggX9_figure_X9_in : GoodIn wsX9_figure wsX9_in := goodIn_r _ [17] (by decide +kernel) (by decide +kernel)
set_option maxRecDepth 20000 in
theorem gX9_figure_X9_in : GoodIn wsX9_figure (va_wsS RX9 47 yX9_in wsX9_in) := goodIn_app (goodIn_of _ (by decide +kernel)) ggX9_figure_X9_in
theorem dX9_figure_0 : decode cX9_figure 0 = .ok (.aload_n 0, 1) := by decide +kernel
theorem dX9_figure_1 : decode cX9_figure 1 = .ok (.invokevirtual 67, 3) := by decide +kernel
theorem dX9_figure_4 : decode cX9_figure 4 = .ok (.aload_n 0, 1) := by decide +kernel
theorem dX9_figure_5 : decode cX9_figure 5 = .ok (.getfield 64, 3) := by decide +kernel
theorem dX9_figure_8 : decode cX9_figure 8 = .ok (.bipush 48, 2) := by decide +kernel
theorem dX9_figure_10 : decode cX9_figure 10 = .ok (.iload_n 1, 1) := by decide +kernel
theorem dX9_figure_11 : decode cX9_figure 11 = .ok (.iadd, 1) := by decide +kernel
theorem dX9_figure_12 : decode cX9_figure 12 = .ok (.bipush 48, 2) := by decide +kernel
theorem dX9_figure_14 : decode cX9_figure 14 = .ok (.iload_n 2, 1) := by decide +kernel
theorem dX9_figure_15 : decode cX9_figure 15 = .ok (.iadd, 1) := by decide +kernel
theorem dX9_figure_16 : decode cX9_figure 16 = .ok (.invokestatic 47, 3) := by decide +kernel
theorem dX9_figure_19 : decode cX9_figure 19 = .ok (.ireturn, 1) := by decide +kernel
set_option maxRecDepth 20000 in
theorem ggX9_ends_X9_next : GoodIn wsX9_ends wsX9_next := goodIn_r _ [6, 7, 8, 9, 10, 1, 11, 12, 13, 5, 14, 15, 16, 17, 18, 19, 20, 21, 22, 23, 24, 25, 26, 27, 28, 29, 30, 31, 32, 33, 34, 35] (by decide +kernel) (by decide +kernel)
set_option maxRecDepth 20000 in
theorem gX9_ends_X9_next : GoodIn wsX9_ends (wsV RX9 67 RX9 yX9_next wsX9_next) := goodIn_app (goodIn_of _ (by decide +kernel)) ggX9_ends_X9_next
theorem dX9_ends_0 : decode cX9_ends 0 = .ok (.aload_n 0, 1) := by decide +kernel
theorem dX9_ends_1 : decode cX9_ends 1 = .ok (.invokevirtual 67, 3) := by decide +kernel
theorem dX9_ends_4 : decode cX9_ends 4 = .ok (.aload_n 0, 1) := by decide +kernel
theorem dX9_ends_5 : decode cX9_ends 5 = .ok (.getfield 64, 3) := by decide +kernel
theorem dX9_ends_8 : decode cX9_ends 8 = .ok (.bipush 59, 2) := by decide +kernel
theorem dX9_ends_10 : decode cX9_ends 10 = .ok (.if_icmp .ne 7, 3) := by decide +kernel
theorem dX9_ends_13 : decode cX9_ends 13 = .ok (.iconst 1, 1) := by decide +kernel
theorem dX9_ends_14 : decode cX9_ends 14 = .ok (.goto 4, 3) := by decide +kernel
theorem dX9_ends_17 : decode cX9_ends 17 = .ok (.iconst 0, 1) := by decide +kernel
theorem dX9_ends_18 : decode cX9_ends 18 = .ok (.ireturn, 1) := by decide +kernel
set_option maxRecDepth 20000 in
theorem ggX9_readsSize_X9_figure : GoodIn wsX9_readsSize wsX9_figure := goodIn_r _ [8, 3, 9, 10, 11, 7, 12, 13, 14, 15, 16, 17, 18, 19, 20, 21, 22, 23, 28, 29, 30, 31, 32, 33, 34, 35, 36, 37, 38, 39, 40, 41, 42, 43, 44, 45, 46, 47, 48] (by decide +kernel) (by decide +kernel)
set_option maxRecDepth 20000 in
theorem gX9_readsSize_X9_figure : GoodIn wsX9_readsSize (wsV RX9 73 RX9 yX9_figure wsX9_figure) := goodIn_app (goodIn_of _ (by decide +kernel)) ggX9_readsSize_X9_figure
set_option maxRecDepth 20000 in
theorem ggX9_readsSize_X9_ends : GoodIn wsX9_readsSize wsX9_ends := goodIn_r _ [27, 3, 9, 10, 11, 7, 12, 13, 14, 15, 16, 17, 18, 19, 20, 28, 29, 30, 31, 32, 33, 34, 35, 36, 37, 38, 39, 40, 41, 42, 43, 44, 45, 46, 47, 48] (by decide +kernel) (by decide +kernel)
set_option maxRecDepth 20000 in
theorem gX9_readsSize_X9_ends : GoodIn wsX9_readsSize (wsV RX9 77 RX9 yX9_ends wsX9_ends) := goodIn_app (goodIn_of _ (by decide +kernel)) ggX9_readsSize_X9_ends
theorem dX9_readsSize_0 : decode cX9_readsSize 0 = .ok (.aload_n 0, 1) := by decide +kernel
theorem dX9_readsSize_1 : decode cX9_readsSize 1 = .ok (.getfield 70, 3) := by decide +kernel
theorem dX9_readsSize_4 : decode cX9_readsSize 4 = .ok (.ifCond .gt 12, 3) := by decide +kernel
theorem dX9_readsSize_7 : decode cX9_readsSize 7 = .ok (.aload_n 0, 1) := by decide +kernel
theorem dX9_readsSize_8 : decode cX9_readsSize 8 = .ok (.iconst 1, 1) := by decide +kernel
theorem dX9_readsSize_9 : decode cX9_readsSize 9 = .ok (.iconst 4, 1) := by decide +kernel
theorem dX9_readsSize_10 : decode cX9_readsSize 10 = .ok (.invokevirtual 73, 3) := by decide +kernel
theorem dX9_readsSize_13 : decode cX9_readsSize 13 = .ok (.ifCond .ne 5, 3) := by decide +kernel
theorem dX9_readsSize_16 : decode cX9_readsSize 16 = .ok (.iconst 0, 1) := by decide +kernel
theorem dX9_readsSize_17 : decode cX9_readsSize 17 = .ok (.ireturn, 1) := by decide +kernel
theorem dX9_readsSize_18 : decode cX9_readsSize 18 = .ok (.aload_n 0, 1) := by decide +kernel
theorem dX9_readsSize_19 : decode cX9_readsSize 19 = .ok (.getfield 29, 3) := by decide +kernel
theorem dX9_readsSize_22 : decode cX9_readsSize 22 = .ok (.bipush 20, 2) := by decide +kernel
theorem dX9_readsSize_24 : decode cX9_readsSize 24 = .ok (.aload_n 0, 1) := by decide +kernel
theorem dX9_readsSize_25 : decode cX9_readsSize 25 = .ok (.getfield 64, 3) := by decide +kernel
theorem dX9_readsSize_28 : decode cX9_readsSize 28 = .ok (.bipush 48, 2) := by decide +kernel
theorem dX9_readsSize_30 : decode cX9_readsSize 30 = .ok (.isub, 1) := by decide +kernel
theorem dX9_readsSize_31 : decode cX9_readsSize 31 = .ok (.iastore, 1) := by decide +kernel
theorem dX9_readsSize_32 : decode cX9_readsSize 32 = .ok (.aload_n 0, 1) := by decide +kernel
theorem dX9_readsSize_33 : decode cX9_readsSize 33 = .ok (.invokevirtual 77, 3) := by decide +kernel
theorem dX9_readsSize_36 : decode cX9_readsSize 36 = .ok (.ireturn, 1) := by decide +kernel
set_option maxRecDepth 20000 in
theorem ggX9_readsF_X9_figure : GoodIn wsX9_readsF wsX9_figure := goodIn_r _ [7, 2, 8, 9, 10, 6, 11, 12, 13, 14, 15, 16, 17, 18, 19, 20, 21, 22, 27, 28, 29, 30, 31, 32, 33, 34, 35, 36, 37, 38, 39, 40, 41, 42, 43, 44, 45, 46, 47] (by decide +kernel) (by decide +kernel)
set_option maxRecDepth 20000 in
theorem gX9_readsF_X9_figure : GoodIn wsX9_readsF (wsV RX9 73 RX9 yX9_figure wsX9_figure) := goodIn_app (goodIn_of _ (by decide +kernel)) ggX9_readsF_X9_figure
set_option maxRecDepth 20000 in
theorem ggX9_readsF_X9_ends : GoodIn wsX9_readsF wsX9_ends := goodIn_r _ [26, 2, 8, 9, 10, 6, 11, 12, 13, 14, 15, 16, 17, 18, 19, 27, 28, 29, 30, 31, 32, 33, 34, 35, 36, 37, 38, 39, 40, 41, 42, 43, 44, 45, 46, 47] (by decide +kernel) (by decide +kernel)
set_option maxRecDepth 20000 in
theorem gX9_readsF_X9_ends : GoodIn wsX9_readsF (wsV RX9 77 RX9 yX9_ends wsX9_ends) := goodIn_app (goodIn_of _ (by decide +kernel)) ggX9_readsF_X9_ends
theorem dX9_readsF_0 : decode cX9_readsF 0 = .ok (.aload_n 0, 1) := by decide +kernel
theorem dX9_readsF_1 : decode cX9_readsF 1 = .ok (.getfield 29, 3) := by decide +kernel
theorem dX9_readsF_4 : decode cX9_readsF 4 = .ok (.bipush 20, 2) := by decide +kernel
theorem dX9_readsF_6 : decode cX9_readsF 6 = .ok (.iaload, 1) := by decide +kernel
theorem dX9_readsF_7 : decode cX9_readsF 7 = .ok (.istore_n 1, 1) := by decide +kernel
theorem dX9_readsF_8 : decode cX9_readsF 8 = .ok (.iconst 0, 1) := by decide +kernel
theorem dX9_readsF_9 : decode cX9_readsF 9 = .ok (.istore_n 2, 1) := by decide +kernel
theorem dX9_readsF_10 : decode cX9_readsF 10 = .ok (.iload_n 2, 1) := by decide +kernel
theorem dX9_readsF_11 : decode cX9_readsF 11 = .ok (.iload_n 1, 1) := by decide +kernel
theorem dX9_readsF_12 : decode cX9_readsF 12 = .ok (.iload_n 1, 1) := by decide +kernel
theorem dX9_readsF_13 : decode cX9_readsF 13 = .ok (.imul, 1) := by decide +kernel
theorem dX9_readsF_14 : decode cX9_readsF 14 = .ok (.if_icmp .ge 43, 3) := by decide +kernel
theorem dX9_readsF_17 : decode cX9_readsF 17 = .ok (.aload_n 0, 1) := by decide +kernel
theorem dX9_readsF_18 : decode cX9_readsF 18 = .ok (.iconst 0, 1) := by decide +kernel
theorem dX9_readsF_19 : decode cX9_readsF 19 = .ok (.iload_n 1, 1) := by decide +kernel
theorem dX9_readsF_20 : decode cX9_readsF 20 = .ok (.iconst 1, 1) := by decide +kernel
theorem dX9_readsF_21 : decode cX9_readsF 21 = .ok (.isub, 1) := by decide +kernel
theorem dX9_readsF_22 : decode cX9_readsF 22 = .ok (.invokevirtual 73, 3) := by decide +kernel
theorem dX9_readsF_25 : decode cX9_readsF 25 = .ok (.ifCond .ne 5, 3) := by decide +kernel
theorem dX9_readsF_28 : decode cX9_readsF 28 = .ok (.iconst 0, 1) := by decide +kernel
theorem dX9_readsF_29 : decode cX9_readsF 29 = .ok (.ireturn, 1) := by decide +kernel
theorem dX9_readsF_30 : decode cX9_readsF 30 = .ok (.aload_n 0, 1) := by decide +kernel
theorem dX9_readsF_31 : decode cX9_readsF 31 = .ok (.getfield 29, 3) := by decide +kernel
theorem dX9_readsF_34 : decode cX9_readsF 34 = .ok (.iconst 4, 1) := by decide +kernel
theorem dX9_readsF_35 : decode cX9_readsF 35 = .ok (.iload_n 2, 1) := by decide +kernel
theorem dX9_readsF_36 : decode cX9_readsF 36 = .ok (.iload_n 1, 1) := by decide +kernel
theorem dX9_readsF_37 : decode cX9_readsF 37 = .ok (.idiv, 1) := by decide +kernel
theorem dX9_readsF_38 : decode cX9_readsF 38 = .ok (.imul, 1) := by decide +kernel
theorem dX9_readsF_39 : decode cX9_readsF 39 = .ok (.iload_n 2, 1) := by decide +kernel
theorem dX9_readsF_40 : decode cX9_readsF 40 = .ok (.iload_n 1, 1) := by decide +kernel
theorem dX9_readsF_41 : decode cX9_readsF 41 = .ok (.irem, 1) := by decide +kernel
theorem dX9_readsF_42 : decode cX9_readsF 42 = .ok (.iadd, 1) := by decide +kernel
theorem dX9_readsF_43 : decode cX9_readsF 43 = .ok (.aload_n 0, 1) := by decide +kernel
theorem dX9_readsF_44 : decode cX9_readsF 44 = .ok (.getfield 64, 3) := by decide +kernel
theorem dX9_readsF_47 : decode cX9_readsF 47 = .ok (.bipush 48, 2) := by decide +kernel
theorem dX9_readsF_49 : decode cX9_readsF 49 = .ok (.isub, 1) := by decide +kernel
theorem dX9_readsF_50 : decode cX9_readsF 50 = .ok (.iastore, 1) := by decide +kernel
theorem dX9_readsF_51 : decode cX9_readsF 51 = .ok (.iinc 2 1, 3) := by decide +kernel
theorem dX9_readsF_54 : decode cX9_readsF 54 = .ok (.goto (-44), 3) := by decide +kernel
theorem dX9_readsF_57 : decode cX9_readsF 57 = .ok (.aload_n 0, 1) := by decide +kernel
theorem dX9_readsF_58 : decode cX9_readsF 58 = .ok (.invokevirtual 77, 3) := by decide +kernel
theorem dX9_readsF_61 : decode cX9_readsF 61 = .ok (.ireturn, 1) := by decide +kernel
set_option maxRecDepth 20000 in
theorem ggX9_readsG_X9_figure : GoodIn wsX9_readsG wsX9_figure := goodIn_r _ [7, 2, 8, 9, 10, 6, 11, 12, 13, 14, 15, 16, 17, 18, 19, 20, 21, 22, 27, 28, 29, 30, 31, 32, 33, 34, 35, 36, 37, 38, 39, 40, 41, 42, 43, 44, 45, 46, 47] (by decide +kernel) (by decide +kernel)
set_option maxRecDepth 20000 in
theorem gX9_readsG_X9_figure : GoodIn wsX9_readsG (wsV RX9 73 RX9 yX9_figure wsX9_figure) := goodIn_app (goodIn_of _ (by decide +kernel)) ggX9_readsG_X9_figure
set_option maxRecDepth 20000 in
theorem ggX9_readsG_X9_ends : GoodIn wsX9_readsG wsX9_ends := goodIn_r _ [26, 2, 8, 9, 10, 6, 11, 12, 13, 14, 15, 16, 17, 18, 19, 27, 28, 29, 30, 31, 32, 33, 34, 35, 36, 37, 38, 39, 40, 41, 42, 43, 44, 45, 46, 47] (by decide +kernel) (by decide +kernel)
set_option maxRecDepth 20000 in
theorem gX9_readsG_X9_ends : GoodIn wsX9_readsG (wsV RX9 77 RX9 yX9_ends wsX9_ends) := goodIn_app (goodIn_of _ (by decide +kernel)) ggX9_readsG_X9_ends
theorem dX9_readsG_0 : decode cX9_readsG 0 = .ok (.iconst 0, 1) := by decide +kernel
theorem dX9_readsG_1 : decode cX9_readsG 1 = .ok (.istore_n 1, 1) := by decide +kernel
theorem dX9_readsG_2 : decode cX9_readsG 2 = .ok (.iload_n 1, 1) := by decide +kernel
theorem dX9_readsG_3 : decode cX9_readsG 3 = .ok (.aload_n 0, 1) := by decide +kernel
theorem dX9_readsG_4 : decode cX9_readsG 4 = .ok (.getfield 29, 3) := by decide +kernel
theorem dX9_readsG_7 : decode cX9_readsG 7 = .ok (.bipush 20, 2) := by decide +kernel
theorem dX9_readsG_9 : decode cX9_readsG 9 = .ok (.iaload, 1) := by decide +kernel
theorem dX9_readsG_10 : decode cX9_readsG 10 = .ok (.if_icmp .ge 44, 3) := by decide +kernel
theorem dX9_readsG_13 : decode cX9_readsG 13 = .ok (.aload_n 0, 1) := by decide +kernel
theorem dX9_readsG_14 : decode cX9_readsG 14 = .ok (.iconst 0, 1) := by decide +kernel
theorem dX9_readsG_15 : decode cX9_readsG 15 = .ok (.aload_n 0, 1) := by decide +kernel
theorem dX9_readsG_16 : decode cX9_readsG 16 = .ok (.getfield 29, 3) := by decide +kernel
theorem dX9_readsG_19 : decode cX9_readsG 19 = .ok (.bipush 20, 2) := by decide +kernel
theorem dX9_readsG_21 : decode cX9_readsG 21 = .ok (.iaload, 1) := by decide +kernel
theorem dX9_readsG_22 : decode cX9_readsG 22 = .ok (.iconst 1, 1) := by decide +kernel
theorem dX9_readsG_23 : decode cX9_readsG 23 = .ok (.isub, 1) := by decide +kernel
theorem dX9_readsG_24 : decode cX9_readsG 24 = .ok (.invokevirtual 73, 3) := by decide +kernel
theorem dX9_readsG_27 : decode cX9_readsG 27 = .ok (.ifCond .ne 5, 3) := by decide +kernel
theorem dX9_readsG_30 : decode cX9_readsG 30 = .ok (.iconst 0, 1) := by decide +kernel
theorem dX9_readsG_31 : decode cX9_readsG 31 = .ok (.ireturn, 1) := by decide +kernel
theorem dX9_readsG_32 : decode cX9_readsG 32 = .ok (.aload_n 0, 1) := by decide +kernel
theorem dX9_readsG_33 : decode cX9_readsG 33 = .ok (.getfield 29, 3) := by decide +kernel
theorem dX9_readsG_36 : decode cX9_readsG 36 = .ok (.bipush 16, 2) := by decide +kernel
theorem dX9_readsG_38 : decode cX9_readsG 38 = .ok (.iload_n 1, 1) := by decide +kernel
theorem dX9_readsG_39 : decode cX9_readsG 39 = .ok (.iadd, 1) := by decide +kernel
theorem dX9_readsG_40 : decode cX9_readsG 40 = .ok (.aload_n 0, 1) := by decide +kernel
theorem dX9_readsG_41 : decode cX9_readsG 41 = .ok (.getfield 64, 3) := by decide +kernel
theorem dX9_readsG_44 : decode cX9_readsG 44 = .ok (.bipush 48, 2) := by decide +kernel
theorem dX9_readsG_46 : decode cX9_readsG 46 = .ok (.isub, 1) := by decide +kernel
theorem dX9_readsG_47 : decode cX9_readsG 47 = .ok (.iastore, 1) := by decide +kernel
theorem dX9_readsG_48 : decode cX9_readsG 48 = .ok (.iinc 1 1, 3) := by decide +kernel
theorem dX9_readsG_51 : decode cX9_readsG 51 = .ok (.goto (-49), 3) := by decide +kernel
theorem dX9_readsG_54 : decode cX9_readsG 54 = .ok (.aload_n 0, 1) := by decide +kernel
theorem dX9_readsG_55 : decode cX9_readsG 55 = .ok (.invokevirtual 77, 3) := by decide +kernel
theorem dX9_readsG_58 : decode cX9_readsG 58 = .ok (.ireturn, 1) := by decide +kernel
set_option maxRecDepth 20000 in
theorem ggX9_readsItem_X9_next : GoodIn wsX9_readsItem wsX9_next := goodIn_r _ [6, 7, 8, 9, 10, 1, 11, 12, 13, 5, 14, 40, 41, 42, 43, 44, 45, 46, 47, 48, 49, 50, 51, 52, 53, 54, 55, 56, 57, 58, 59, 60] (by decide +kernel) (by decide +kernel)
set_option maxRecDepth 20000 in
theorem gX9_readsItem_X9_next : GoodIn wsX9_readsItem (wsV RX9 67 RX9 yX9_next wsX9_next) := goodIn_app (goodIn_of _ (by decide +kernel)) ggX9_readsItem_X9_next
set_option maxRecDepth 20000 in
theorem ggX9_readsItem_X9_readsSize : GoodIn wsX9_readsItem wsX9_readsSize := goodIn_r _ [18, 19, 20, 1, 21, 22, 23, 5, 24, 2, 3, 4, 6, 7, 8, 9, 10, 11, 12, 13, 14, 25, 26, 27, 28, 29, 30, 31, 40, 41, 42, 43, 44, 45, 46, 47, 48, 49, 50, 51, 52, 53, 54, 55, 56, 57, 58, 59, 60] (by decide +kernel) (by decide +kernel)
set_option maxRecDepth 20000 in
theorem gX9_readsItem_X9_readsSize : GoodIn wsX9_readsItem (wsV RX9 81 RX9 yX9_readsSize wsX9_readsSize) := goodIn_app (goodIn_of _ (by decide +kernel)) ggX9_readsItem_X9_readsSize
set_option maxRecDepth 20000 in
theorem ggX9_readsItem_X9_readsF : GoodIn wsX9_readsItem wsX9_readsF := goodIn_r _ [35, 20, 1, 21, 22, 23, 5, 24, 2, 3, 4, 6, 7, 8, 9, 10, 11, 12, 13, 14, 25, 26, 27, 28, 29, 30, 31, 40, 41, 42, 43, 44, 45, 46, 47, 48, 49, 50, 51, 52, 53, 54, 55, 56, 57, 58, 59, 60] (by decide +kernel) (by decide +kernel)
set_option maxRecDepth 20000 in
theorem gX9_readsItem_X9_readsF : GoodIn wsX9_readsItem (wsV RX9 84 RX9 yX9_readsF wsX9_readsF) := goodIn_app (goodIn_of _ (by decide +kernel)) ggX9_readsItem_X9_readsF
set_option maxRecDepth 20000 in
theorem ggX9_readsItem_X9_readsG : GoodIn wsX9_readsItem wsX9_readsG := goodIn_r _ [39, 20, 1, 21, 22, 23, 5, 24, 2, 3, 4, 6, 7, 8, 9, 10, 11, 12, 13, 14, 25, 26, 27, 28, 29, 30, 31, 40, 41, 42, 43, 44, 45, 46, 47, 48, 49, 50, 51, 52, 53, 54, 55, 56, 57, 58, 59, 60] (by decide +kernel) (by decide +kernel)
set_option maxRecDepth 20000 in
theorem gX9_readsItem_X9_readsG : GoodIn wsX9_readsItem (wsV RX9 87 RX9 yX9_readsG wsX9_readsG) := goodIn_app (goodIn_of _ (by decide +kernel)) ggX9_readsItem_X9_readsG
theorem dX9_readsItem_0 : decode cX9_readsItem 0 = .ok (.aload_n 0, 1) := by decide +kernel
theorem dX9_readsItem_1 : decode cX9_readsItem 1 = .ok (.invokevirtual 67, 3) := by decide +kernel
theorem dX9_readsItem_4 : decode cX9_readsItem 4 = .ok (.aload_n 0, 1) := by decide +kernel
theorem dX9_readsItem_5 : decode cX9_readsItem 5 = .ok (.getfield 64, 3) := by decide +kernel
theorem dX9_readsItem_8 : decode cX9_readsItem 8 = .ok (.lookupswitch 51 #[(102, 41), (103, 46), (110, 36)], 36) := by decide +kernel
theorem dX9_readsItem_44 : decode cX9_readsItem 44 = .ok (.aload_n 0, 1) := by decide +kernel
theorem dX9_readsItem_45 : decode cX9_readsItem 45 = .ok (.invokevirtual 81, 3) := by decide +kernel
theorem dX9_readsItem_48 : decode cX9_readsItem 48 = .ok (.ireturn, 1) := by decide +kernel
theorem dX9_readsItem_49 : decode cX9_readsItem 49 = .ok (.aload_n 0, 1) := by decide +kernel
theorem dX9_readsItem_50 : decode cX9_readsItem 50 = .ok (.invokevirtual 84, 3) := by decide +kernel
theorem dX9_readsItem_53 : decode cX9_readsItem 53 = .ok (.ireturn, 1) := by decide +kernel
theorem dX9_readsItem_54 : decode cX9_readsItem 54 = .ok (.aload_n 0, 1) := by decide +kernel
theorem dX9_readsItem_55 : decode cX9_readsItem 55 = .ok (.invokevirtual 87, 3) := by decide +kernel
theorem dX9_readsItem_58 : decode cX9_readsItem 58 = .ok (.ireturn, 1) := by decide +kernel
theorem dX9_readsItem_59 : decode cX9_readsItem 59 = .ok (.iconst 0, 1) := by decide +kernel
theorem dX9_readsItem_60 : decode cX9_readsItem 60 = .ok (.ireturn, 1) := by decide +kernel
set_option maxRecDepth 20000 in
theorem ggX9_tables_X9_begins : GoodIn wsX9_tables wsX9_begins := goodIn_r _ [14] (by decide +kernel) (by decide +kernel)
set_option maxRecDepth 20000 in
theorem gX9_tables_X9_begins : GoodIn wsX9_tables (va_wsS RX9 39 yX9_begins wsX9_begins) := goodIn_app (goodIn_of _ (by decide +kernel)) ggX9_tables_X9_begins
set_option maxRecDepth 20000 in
theorem ggX9_tables_X9_blanks : GoodIn wsX9_tables wsX9_blanks := goodIn_r _ [18, 2, 4, 19, 52, 53, 54, 55, 56, 57, 58, 59, 60, 61, 62, 63, 64, 65, 66, 67, 68, 69, 70, 71, 72] (by decide +kernel) (by decide +kernel)
set_option maxRecDepth 20000 in
theorem gX9_tables_X9_blanks : GoodIn wsX9_tables (wsV RX9 58 RX9 yX9_blanks wsX9_blanks) := goodIn_app (goodIn_of _ (by decide +kernel)) ggX9_tables_X9_blanks
set_option maxRecDepth 20000 in
theorem ggX9_tables_X9_readsItem : GoodIn wsX9_tables wsX9_readsItem := goodIn_r _ [23, 24, 25, 26, 27, 13, 28, 2, 5, 4, 19, 15, 16, 17, 18, 29, 30, 31, 32, 3, 1, 33, 34, 35, 36, 37, 38, 39, 40, 41, 42, 43, 44, 45, 46, 47, 48, 49, 50, 51, 52, 53, 54, 55, 56, 57, 58, 59, 60, 61, 62, 63, 64, 65, 66, 67, 68, 69, 70, 71, 72] (by decide +kernel) (by decide +kernel)
set_option maxRecDepth 20000 in
theorem gX9_tables_X9_readsItem : GoodIn wsX9_tables (wsV RX9 90 RX9 yX9_readsItem wsX9_readsItem) := goodIn_app (goodIn_of _ (by decide +kernel)) ggX9_tables_X9_readsItem
theorem dX9_tables_0 : decode cX9_tables 0 = .ok (.aload_n 0, 1) := by decide +kernel
theorem dX9_tables_1 : decode cX9_tables 1 = .ok (.getfield 29, 3) := by decide +kernel
theorem dX9_tables_4 : decode cX9_tables 4 = .ok (.iconst 2, 1) := by decide +kernel
theorem dX9_tables_5 : decode cX9_tables 5 = .ok (.invokestatic 39, 3) := by decide +kernel
theorem dX9_tables_8 : decode cX9_tables 8 = .ok (.aload_n 0, 1) := by decide +kernel
theorem dX9_tables_9 : decode cX9_tables 9 = .ok (.iconst 0, 1) := by decide +kernel
theorem dX9_tables_10 : decode cX9_tables 10 = .ok (.putfield 55, 3) := by decide +kernel
theorem dX9_tables_13 : decode cX9_tables 13 = .ok (.aload_n 0, 1) := by decide +kernel
theorem dX9_tables_14 : decode cX9_tables 14 = .ok (.iconst 0, 1) := by decide +kernel
theorem dX9_tables_15 : decode cX9_tables 15 = .ok (.putfield 70, 3) := by decide +kernel
theorem dX9_tables_18 : decode cX9_tables 18 = .ok (.aload_n 0, 1) := by decide +kernel
theorem dX9_tables_19 : decode cX9_tables 19 = .ok (.invokevirtual 58, 3) := by decide +kernel
theorem dX9_tables_22 : decode cX9_tables 22 = .ok (.aload_n 0, 1) := by decide +kernel
theorem dX9_tables_23 : decode cX9_tables 23 = .ok (.getfield 55, 3) := by decide +kernel
theorem dX9_tables_26 : decode cX9_tables 26 = .ok (.aload_n 0, 1) := by decide +kernel
theorem dX9_tables_27 : decode cX9_tables 27 = .ok (.getfield 51, 3) := by decide +kernel
theorem dX9_tables_30 : decode cX9_tables 30 = .ok (.if_icmp .ge 43, 3) := by decide +kernel
theorem dX9_tables_33 : decode cX9_tables 33 = .ok (.aload_n 0, 1) := by decide +kernel
theorem dX9_tables_34 : decode cX9_tables 34 = .ok (.invokevirtual 90, 3) := by decide +kernel
theorem dX9_tables_37 : decode cX9_tables 37 = .ok (.ifCond .ne 19, 3) := by decide +kernel
theorem dX9_tables_40 : decode cX9_tables 40 = .ok (.aload_n 0, 1) := by decide +kernel
theorem dX9_tables_41 : decode cX9_tables 41 = .ok (.aload_n 0, 1) := by decide +kernel
theorem dX9_tables_42 : decode cX9_tables 42 = .ok (.getfield 61, 3) := by decide +kernel
theorem dX9_tables_45 : decode cX9_tables 45 = .ok (.putfield 93, 3) := by decide +kernel
theorem dX9_tables_48 : decode cX9_tables 48 = .ok (.bipush (-10), 2) := by decide +kernel
theorem dX9_tables_50 : decode cX9_tables 50 = .ok (.aload_n 0, 1) := by decide +kernel
theorem dX9_tables_51 : decode cX9_tables 51 = .ok (.getfield 93, 3) := by decide +kernel
theorem dX9_tables_54 : decode cX9_tables 54 = .ok (.isub, 1) := by decide +kernel
theorem dX9_tables_55 : decode cX9_tables 55 = .ok (.ireturn, 1) := by decide +kernel
theorem dX9_tables_56 : decode cX9_tables 56 = .ok (.aload_n 0, 1) := by decide +kernel
theorem dX9_tables_57 : decode cX9_tables 57 = .ok (.dup, 1) := by decide +kernel
theorem dX9_tables_58 : decode cX9_tables 58 = .ok (.getfield 70, 3) := by decide +kernel
theorem dX9_tables_61 : decode cX9_tables 61 = .ok (.iconst 1, 1) := by decide +kernel
theorem dX9_tables_62 : decode cX9_tables 62 = .ok (.iadd, 1) := by decide +kernel
theorem dX9_tables_63 : decode cX9_tables 63 = .ok (.putfield 70, 3) := by decide +kernel
theorem dX9_tables_66 : decode cX9_tables 66 = .ok (.aload_n 0, 1) := by decide +kernel
theorem dX9_tables_67 : decode cX9_tables 67 = .ok (.invokevirtual 58, 3) := by decide +kernel
theorem dX9_tables_70 : decode cX9_tables 70 = .ok (.goto (-48), 3) := by decide +kernel
theorem dX9_tables_73 : decode cX9_tables 73 = .ok (.aload_n 0, 1) := by decide +kernel
theorem dX9_tables_74 : decode cX9_tables 74 = .ok (.iconst 0, 1) := by decide +kernel
theorem dX9_tables_75 : decode cX9_tables 75 = .ok (.putfield 51, 3) := by decide +kernel
theorem dX9_tables_78 : decode cX9_tables 78 = .ok (.iconst 0, 1) := by decide +kernel
theorem dX9_tables_79 : decode cX9_tables 79 = .ok (.istore_n 1, 1) := by decide +kernel
theorem dX9_tables_80 : decode cX9_tables 80 = .ok (.iload_n 1, 1) := by decide +kernel
theorem dX9_tables_81 : decode cX9_tables 81 = .ok (.bipush 21, 2) := by decide +kernel
theorem dX9_tables_83 : decode cX9_tables 83 = .ok (.if_icmp .ge 21, 3) := by decide +kernel
theorem dX9_tables_86 : decode cX9_tables 86 = .ok (.aload_n 0, 1) := by decide +kernel
theorem dX9_tables_87 : decode cX9_tables 87 = .ok (.getfield 7, 3) := by decide +kernel
theorem dX9_tables_90 : decode cX9_tables 90 = .ok (.iload_n 1, 1) := by decide +kernel
theorem dX9_tables_91 : decode cX9_tables 91 = .ok (.aload_n 0, 1) := by decide +kernel
theorem dX9_tables_92 : decode cX9_tables 92 = .ok (.getfield 29, 3) := by decide +kernel
theorem dX9_tables_95 : decode cX9_tables 95 = .ok (.iload_n 1, 1) := by decide +kernel
theorem dX9_tables_96 : decode cX9_tables 96 = .ok (.iaload, 1) := by decide +kernel
theorem dX9_tables_97 : decode cX9_tables 97 = .ok (.iastore, 1) := by decide +kernel
theorem dX9_tables_98 : decode cX9_tables 98 = .ok (.iinc 1 1, 3) := by decide +kernel
theorem dX9_tables_101 : decode cX9_tables 101 = .ok (.goto (-21), 3) := by decide +kernel
theorem dX9_tables_104 : decode cX9_tables 104 = .ok (.aload_n 0, 1) := by decide +kernel
theorem dX9_tables_105 : decode cX9_tables 105 = .ok (.iconst 0, 1) := by decide +kernel
theorem dX9_tables_106 : decode cX9_tables 106 = .ok (.putfield 96, 3) := by decide +kernel
theorem dX9_tables_109 : decode cX9_tables 109 = .ok (.aload_n 0, 1) := by decide +kernel
theorem dX9_tables_110 : decode cX9_tables 110 = .ok (.iconst 0, 1) := by decide +kernel
theorem dX9_tables_111 : decode cX9_tables 111 = .ok (.putfield 99, 3) := by decide +kernel
theorem dX9_tables_114 : decode cX9_tables 114 = .ok (.aload_n 0, 1) := by decide +kernel
theorem dX9_tables_115 : decode cX9_tables 115 = .ok (.getfield 19, 3) := by decide +kernel
theorem dX9_tables_118 : decode cX9_tables 118 = .ok (.iconst 0, 1) := by decide +kernel
theorem dX9_tables_119 : decode cX9_tables 119 = .ok (.iconst 0, 1) := by decide +kernel
theorem dX9_tables_120 : decode cX9_tables 120 = .ok (.bastore, 1) := by decide +kernel
theorem dX9_tables_121 : decode cX9_tables 121 = .ok (.aload_n 0, 1) := by decide +kernel
theorem dX9_tables_122 : decode cX9_tables 122 = .ok (.getfield 19, 3) := by decide +kernel
theorem dX9_tables_125 : decode cX9_tables 125 = .ok (.iconst 1, 1) := by decide +kernel
theorem dX9_tables_126 : decode cX9_tables 126 = .ok (.iconst 0, 1) := by decide +kernel
theorem dX9_tables_127 : decode cX9_tables 127 = .ok (.bastore, 1) := by decide +kernel
theorem dX9_tables_128 : decode cX9_tables 128 = .ok (.aload_n 0, 1) := by decide +kernel
theorem dX9_tables_129 : decode cX9_tables 129 = .ok (.getfield 70, 3) := by decide +kernel
theorem dX9_tables_132 : decode cX9_tables 132 = .ok (.ireturn, 1) := by decide +kernel
set_option maxRecDepth 20000 in
theorem ggX9_f_X9_is : GoodIn wsX9_f wsX9_is := goodIn_r _ [5, 6, 7, 8, 4, 9, 10, 11, 12, 13, 18, 19, 20, 21, 22, 23, 24, 25, 26, 27, 28, 29, 30, 31, 32, 33, 34, 35, 36, 37, 38] (by decide +kernel) (by decide +kernel)
set_option maxRecDepth 20000 in
theorem gX9_f_X9_is : GoodIn wsX9_f (wsV RX9 102 RX9 yX9_is wsX9_is) := goodIn_app (goodIn_of _ (by decide +kernel)) ggX9_f_X9_is
set_option maxRecDepth 20000 in
theorem ggX9_f_X9_ff : GoodIn wsX9_f wsX9_ff := goodIn_r _ [17, 10, 18, 19, 20, 21, 22, 23, 24, 25, 26, 27, 28, 29, 30, 31, 32, 33, 34, 35, 36, 37, 38] (by decide +kernel) (by decide +kernel)
set_option maxRecDepth 20000 in
theorem gX9_f_X9_ff : GoodIn wsX9_f (wsV RX9 106 RX9 yX9_ff wsX9_ff) := goodIn_app (goodIn_of _ (by decide +kernel)) ggX9_f_X9_ff
theorem dX9_f_0 : decode cX9_f 0 = .ok (.aload_n 0, 1) := by decide +kernel
theorem dX9_f_1 : decode cX9_f 1 = .ok (.iload_n 1, 1) := by decide +kernel
theorem dX9_f_2 : decode cX9_f 2 = .ok (.invokevirtual 102, 3) := by decide +kernel
theorem dX9_f_5 : decode cX9_f 5 = .ok (.ifCond .eq 20, 3) := by decide +kernel
theorem dX9_f_8 : decode cX9_f 8 = .ok (.aload_n 0, 1) := by decide +kernel
theorem dX9_f_9 : decode cX9_f 9 = .ok (.iload_n 2, 1) := by decide +kernel
theorem dX9_f_10 : decode cX9_f 10 = .ok (.invokevirtual 102, 3) := by decide +kernel
theorem dX9_f_13 : decode cX9_f 13 = .ok (.ifCond .eq 12, 3) := by decide +kernel
theorem dX9_f_16 : decode cX9_f 16 = .ok (.aload_n 0, 1) := by decide +kernel
theorem dX9_f_17 : decode cX9_f 17 = .ok (.iload_n 1, 1) := by decide +kernel
theorem dX9_f_18 : decode cX9_f 18 = .ok (.iload_n 2, 1) := by decide +kernel
theorem dX9_f_19 : decode cX9_f 19 = .ok (.invokevirtual 106, 3) := by decide +kernel
theorem dX9_f_22 : decode cX9_f 22 = .ok (.goto 5, 3) := by decide +kernel
theorem dX9_f_25 : decode cX9_f 25 = .ok (.bipush (-2), 2) := by decide +kernel
theorem dX9_f_27 : decode cX9_f 27 = .ok (.ireturn, 1) := by decide +kernel
set_option maxRecDepth 20000 in
theorem ggX9_g_X9_is : GoodIn wsX9_g wsX9_is := goodIn_r _ [5, 6, 7, 8, 4, 9, 10, 11, 12, 13, 18, 19, 20, 21, 22, 23, 24, 25, 26, 27, 28, 29, 30, 31, 32, 33, 34, 35, 36, 37, 38] (by decide +kernel) (by decide +kernel)
set_option maxRecDepth 20000 in
theorem gX9_g_X9_is : GoodIn wsX9_g (wsV RX9 102 RX9 yX9_is wsX9_is) := goodIn_app (goodIn_of _ (by decide +kernel)) ggX9_g_X9_is
set_option maxRecDepth 20000 in
theorem ggX9_g_X9_gg : GoodIn wsX9_g wsX9_gg := goodIn_r _ [17, 10, 18, 19, 20, 21, 22, 23, 24, 25, 26, 27, 28, 29, 30, 31, 32, 33, 34, 35, 36, 37, 38] (by decide +kernel) (by decide +kernel)
set_option maxRecDepth 20000 in
theorem gX9_g_X9_gg : GoodIn wsX9_g (wsV RX9 110 RX9 yX9_gg wsX9_gg) := goodIn_app (goodIn_of _ (by decide +kernel)) ggX9_g_X9_gg
theorem dX9_g_0 : decode cX9_g 0 = .ok (.aload_n 0, 1) := by decide +kernel
theorem dX9_g_1 : decode cX9_g 1 = .ok (.iload_n 1, 1) := by decide +kernel
theorem dX9_g_2 : decode cX9_g 2 = .ok (.invokevirtual 102, 3) := by decide +kernel
theorem dX9_g_5 : decode cX9_g 5 = .ok (.ifCond .eq 11, 3) := by decide +kernel
theorem dX9_g_8 : decode cX9_g 8 = .ok (.aload_n 0, 1) := by decide +kernel
theorem dX9_g_9 : decode cX9_g 9 = .ok (.iload_n 1, 1) := by decide +kernel
theorem dX9_g_10 : decode cX9_g 10 = .ok (.invokevirtual 110, 3) := by decide +kernel
theorem dX9_g_13 : decode cX9_g 13 = .ok (.goto 5, 3) := by decide +kernel
theorem dX9_g_16 : decode cX9_g 16 = .ok (.bipush (-2), 2) := by decide +kernel
theorem dX9_g_18 : decode cX9_g 18 = .ok (.ireturn, 1) := by decide +kernel
set_option maxRecDepth 20000 in
theorem ggX9_sets_X9_is : GoodIn wsX9_sets wsX9_is := goodIn_r _ [9, 10, 11, 12, 8, 13, 1, 14, 15, 16, 17, 18, 19, 20, 21, 22, 23, 24, 25, 26, 27, 28, 29, 30, 31, 32, 33, 34, 35, 36, 37] (by decide +kernel) (by decide +kernel)
set_option maxRecDepth 20000 in
theorem gX9_sets_X9_is : GoodIn wsX9_sets (wsV RX9 102 RX9 yX9_is wsX9_is) := goodIn_app (goodIn_of _ (by decide +kernel)) ggX9_sets_X9_is
set_option maxRecDepth 20000 in
theorem ggX9_sets_X9_size : GoodIn wsX9_sets wsX9_size := goodIn_r _ [13, 1, 17, 18, 19, 20, 21, 22, 23, 24, 25, 26, 27, 28, 29, 30, 31, 32, 33, 34, 35, 36, 37] (by decide +kernel) (by decide +kernel)
set_option maxRecDepth 20000 in
theorem gX9_sets_X9_size : GoodIn wsX9_sets (wsV RX9 43 RX9 yX9_size wsX9_size) := goodIn_app (goodIn_of _ (by decide +kernel)) ggX9_sets_X9_size
set_option maxRecDepth 20000 in
theorem ggX9_sets_X9_in : GoodIn wsX9_sets wsX9_in := goodIn_r _ [16] (by decide +kernel) (by decide +kernel)
set_option maxRecDepth 20000 in
theorem gX9_sets_X9_in : GoodIn wsX9_sets (va_wsS RX9 47 yX9_in wsX9_in) := goodIn_app (goodIn_of _ (by decide +kernel)) ggX9_sets_X9_in
theorem dX9_sets_0 : decode cX9_sets 0 = .ok (.aload_n 0, 1) := by decide +kernel
theorem dX9_sets_1 : decode cX9_sets 1 = .ok (.iload_n 1, 1) := by decide +kernel
theorem dX9_sets_2 : decode cX9_sets 2 = .ok (.invokevirtual 102, 3) := by decide +kernel
theorem dX9_sets_5 : decode cX9_sets 5 = .ok (.ifCond .eq 25, 3) := by decide +kernel
theorem dX9_sets_8 : decode cX9_sets 8 = .ok (.iload_n 2, 1) := by decide +kernel
theorem dX9_sets_9 : decode cX9_sets 9 = .ok (.iconst (-1), 1) := by decide +kernel
theorem dX9_sets_10 : decode cX9_sets 10 = .ok (.aload_n 0, 1) := by decide +kernel
theorem dX9_sets_11 : decode cX9_sets 11 = .ok (.invokevirtual 43, 3) := by decide +kernel
theorem dX9_sets_14 : decode cX9_sets 14 = .ok (.iconst 1, 1) := by decide +kernel
theorem dX9_sets_15 : decode cX9_sets 15 = .ok (.isub, 1) := by decide +kernel
theorem dX9_sets_16 : decode cX9_sets 16 = .ok (.invokestatic 47, 3) := by decide +kernel
theorem dX9_sets_19 : decode cX9_sets 19 = .ok (.ifCond .eq 11, 3) := by decide +kernel
theorem dX9_sets_22 : decode cX9_sets 22 = .ok (.aload_n 0, 1) := by decide +kernel
theorem dX9_sets_23 : decode cX9_sets 23 = .ok (.iload_n 3, 1) := by decide +kernel
theorem dX9_sets_24 : decode cX9_sets 24 = .ok (.invokevirtual 102, 3) := by decide +kernel
theorem dX9_sets_27 : decode cX9_sets 27 = .ok (.ifCond .ne 6, 3) := by decide +kernel
theorem dX9_sets_30 : decode cX9_sets 30 = .ok (.bipush (-2), 2) := by decide +kernel
theorem dX9_sets_32 : decode cX9_sets 32 = .ok (.ireturn, 1) := by decide +kernel
theorem dX9_sets_33 : decode cX9_sets 33 = .ok (.iload_n 2, 1) := by decide +kernel
theorem dX9_sets_34 : decode cX9_sets 34 = .ok (.ifCond .ge 10, 3) := by decide +kernel
theorem dX9_sets_37 : decode cX9_sets 37 = .ok (.bipush 16, 2) := by decide +kernel
theorem dX9_sets_39 : decode cX9_sets 39 = .ok (.iload_n 1, 1) := by decide +kernel
theorem dX9_sets_40 : decode cX9_sets 40 = .ok (.iadd, 1) := by decide +kernel
theorem dX9_sets_41 : decode cX9_sets 41 = .ok (.goto 8, 3) := by decide +kernel
theorem dX9_sets_44 : decode cX9_sets 44 = .ok (.iconst 4, 1) := by decide +kernel
theorem dX9_sets_45 : decode cX9_sets 45 = .ok (.iload_n 1, 1) := by decide +kernel
theorem dX9_sets_46 : decode cX9_sets 46 = .ok (.imul, 1) := by decide +kernel
theorem dX9_sets_47 : decode cX9_sets 47 = .ok (.iload_n 2, 1) := by decide +kernel
theorem dX9_sets_48 : decode cX9_sets 48 = .ok (.iadd, 1) := by decide +kernel
theorem dX9_sets_49 : decode cX9_sets 49 = .ok (.istore 4, 2) := by decide +kernel
theorem dX9_sets_51 : decode cX9_sets 51 = .ok (.aload_n 0, 1) := by decide +kernel
theorem dX9_sets_52 : decode cX9_sets 52 = .ok (.getfield 7, 3) := by decide +kernel
theorem dX9_sets_55 : decode cX9_sets 55 = .ok (.iload 4, 2) := by decide +kernel
theorem dX9_sets_57 : decode cX9_sets 57 = .ok (.iaload, 1) := by decide +kernel
theorem dX9_sets_58 : decode cX9_sets 58 = .ok (.istore 5, 2) := by decide +kernel
theorem dX9_sets_60 : decode cX9_sets 60 = .ok (.iload 5, 2) := by decide +kernel
theorem dX9_sets_62 : decode cX9_sets 62 = .ok (.iload_n 3, 1) := by decide +kernel
theorem dX9_sets_63 : decode cX9_sets 63 = .ok (.if_icmp .ne 6, 3) := by decide +kernel
theorem dX9_sets_66 : decode cX9_sets 66 = .ok (.bipush (-3), 2) := by decide +kernel
theorem dX9_sets_68 : decode cX9_sets 68 = .ok (.ireturn, 1) := by decide +kernel
theorem dX9_sets_69 : decode cX9_sets 69 = .ok (.iconst 0, 1) := by decide +kernel
theorem dX9_sets_70 : decode cX9_sets 70 = .ok (.istore 6, 2) := by decide +kernel
theorem dX9_sets_72 : decode cX9_sets 72 = .ok (.iload 6, 2) := by decide +kernel
theorem dX9_sets_74 : decode cX9_sets 74 = .ok (.bipush 21, 2) := by decide +kernel
theorem dX9_sets_76 : decode cX9_sets 76 = .ok (.if_icmp .ge 31, 3) := by decide +kernel
theorem dX9_sets_79 : decode cX9_sets 79 = .ok (.aload_n 0, 1) := by decide +kernel
theorem dX9_sets_80 : decode cX9_sets 80 = .ok (.getfield 13, 3) := by decide +kernel
theorem dX9_sets_83 : decode cX9_sets 83 = .ok (.bipush 21, 2) := by decide +kernel
theorem dX9_sets_85 : decode cX9_sets 85 = .ok (.aload_n 0, 1) := by decide +kernel
theorem dX9_sets_86 : decode cX9_sets 86 = .ok (.getfield 114, 3) := by decide +kernel
theorem dX9_sets_89 : decode cX9_sets 89 = .ok (.imul, 1) := by decide +kernel
theorem dX9_sets_90 : decode cX9_sets 90 = .ok (.iload 6, 2) := by decide +kernel
theorem dX9_sets_92 : decode cX9_sets 92 = .ok (.iadd, 1) := by decide +kernel
theorem dX9_sets_93 : decode cX9_sets 93 = .ok (.aload_n 0, 1) := by decide +kernel
theorem dX9_sets_94 : decode cX9_sets 94 = .ok (.getfield 7, 3) := by decide +kernel
theorem dX9_sets_97 : decode cX9_sets 97 = .ok (.iload 6, 2) := by decide +kernel
theorem dX9_sets_99 : decode cX9_sets 99 = .ok (.iaload, 1) := by decide +kernel
theorem dX9_sets_100 : decode cX9_sets 100 = .ok (.iastore, 1) := by decide +kernel
theorem dX9_sets_101 : decode cX9_sets 101 = .ok (.iinc 6 1, 3) := by decide +kernel
theorem dX9_sets_104 : decode cX9_sets 104 = .ok (.goto (-32), 3) := by decide +kernel
theorem dX9_sets_107 : decode cX9_sets 107 = .ok (.aload_n 0, 1) := by decide +kernel
theorem dX9_sets_108 : decode cX9_sets 108 = .ok (.aload_n 0, 1) := by decide +kernel
theorem dX9_sets_109 : decode cX9_sets 109 = .ok (.getfield 114, 3) := by decide +kernel
theorem dX9_sets_112 : decode cX9_sets 112 = .ok (.iconst 1, 1) := by decide +kernel
theorem dX9_sets_113 : decode cX9_sets 113 = .ok (.iadd, 1) := by decide +kernel
theorem dX9_sets_114 : decode cX9_sets 114 = .ok (.bipush 12, 2) := by decide +kernel
theorem dX9_sets_116 : decode cX9_sets 116 = .ok (.irem, 1) := by decide +kernel
theorem dX9_sets_117 : decode cX9_sets 117 = .ok (.putfield 114, 3) := by decide +kernel
theorem dX9_sets_120 : decode cX9_sets 120 = .ok (.aload_n 0, 1) := by decide +kernel
theorem dX9_sets_121 : decode cX9_sets 121 = .ok (.dup, 1) := by decide +kernel
theorem dX9_sets_122 : decode cX9_sets 122 = .ok (.getfield 96, 3) := by decide +kernel
theorem dX9_sets_125 : decode cX9_sets 125 = .ok (.aload_n 0, 1) := by decide +kernel
theorem dX9_sets_126 : decode cX9_sets 126 = .ok (.getfield 96, 3) := by decide +kernel
theorem dX9_sets_129 : decode cX9_sets 129 = .ok (.bipush 12, 2) := by decide +kernel
theorem dX9_sets_131 : decode cX9_sets 131 = .ok (.if_icmp .ge 7, 3) := by decide +kernel
theorem dX9_sets_134 : decode cX9_sets 134 = .ok (.iconst 1, 1) := by decide +kernel
theorem dX9_sets_135 : decode cX9_sets 135 = .ok (.goto 4, 3) := by decide +kernel
theorem dX9_sets_138 : decode cX9_sets 138 = .ok (.iconst 0, 1) := by decide +kernel
theorem dX9_sets_139 : decode cX9_sets 139 = .ok (.iadd, 1) := by decide +kernel
theorem dX9_sets_140 : decode cX9_sets 140 = .ok (.putfield 96, 3) := by decide +kernel
theorem dX9_sets_143 : decode cX9_sets 143 = .ok (.aload_n 0, 1) := by decide +kernel
theorem dX9_sets_144 : decode cX9_sets 144 = .ok (.getfield 7, 3) := by decide +kernel
theorem dX9_sets_147 : decode cX9_sets 147 = .ok (.iload 4, 2) := by decide +kernel
theorem dX9_sets_149 : decode cX9_sets 149 = .ok (.iload_n 3, 1) := by decide +kernel
theorem dX9_sets_150 : decode cX9_sets 150 = .ok (.iastore, 1) := by decide +kernel
theorem dX9_sets_151 : decode cX9_sets 151 = .ok (.iload 5, 2) := by decide +kernel
theorem dX9_sets_153 : decode cX9_sets 153 = .ok (.ireturn, 1) := by decide +kernel
theorem dX9_undo_0 : decode cX9_undo 0 = .ok (.aload_n 0, 1) := by decide +kernel
theorem dX9_undo_1 : decode cX9_undo 1 = .ok (.getfield 96, 3) := by decide +kernel
theorem dX9_undo_4 : decode cX9_undo 4 = .ok (.ifCond .ne 6, 3) := by decide +kernel
theorem dX9_undo_7 : decode cX9_undo 7 = .ok (.bipush (-3), 2) := by decide +kernel
theorem dX9_undo_9 : decode cX9_undo 9 = .ok (.ireturn, 1) := by decide +kernel
theorem dX9_undo_10 : decode cX9_undo 10 = .ok (.aload_n 0, 1) := by decide +kernel
theorem dX9_undo_11 : decode cX9_undo 11 = .ok (.aload_n 0, 1) := by decide +kernel
theorem dX9_undo_12 : decode cX9_undo 12 = .ok (.getfield 114, 3) := by decide +kernel
theorem dX9_undo_15 : decode cX9_undo 15 = .ok (.bipush 12, 2) := by decide +kernel
theorem dX9_undo_17 : decode cX9_undo 17 = .ok (.iadd, 1) := by decide +kernel
theorem dX9_undo_18 : decode cX9_undo 18 = .ok (.iconst 1, 1) := by decide +kernel
theorem dX9_undo_19 : decode cX9_undo 19 = .ok (.isub, 1) := by decide +kernel
theorem dX9_undo_20 : decode cX9_undo 20 = .ok (.bipush 12, 2) := by decide +kernel
theorem dX9_undo_22 : decode cX9_undo 22 = .ok (.irem, 1) := by decide +kernel
theorem dX9_undo_23 : decode cX9_undo 23 = .ok (.putfield 114, 3) := by decide +kernel
theorem dX9_undo_26 : decode cX9_undo 26 = .ok (.aload_n 0, 1) := by decide +kernel
theorem dX9_undo_27 : decode cX9_undo 27 = .ok (.dup, 1) := by decide +kernel
theorem dX9_undo_28 : decode cX9_undo 28 = .ok (.getfield 96, 3) := by decide +kernel
theorem dX9_undo_31 : decode cX9_undo 31 = .ok (.iconst 1, 1) := by decide +kernel
theorem dX9_undo_32 : decode cX9_undo 32 = .ok (.isub, 1) := by decide +kernel
theorem dX9_undo_33 : decode cX9_undo 33 = .ok (.putfield 96, 3) := by decide +kernel
theorem dX9_undo_36 : decode cX9_undo 36 = .ok (.iconst 0, 1) := by decide +kernel
theorem dX9_undo_37 : decode cX9_undo 37 = .ok (.istore_n 1, 1) := by decide +kernel
theorem dX9_undo_38 : decode cX9_undo 38 = .ok (.iload_n 1, 1) := by decide +kernel
theorem dX9_undo_39 : decode cX9_undo 39 = .ok (.bipush 21, 2) := by decide +kernel
theorem dX9_undo_41 : decode cX9_undo 41 = .ok (.if_icmp .ge 29, 3) := by decide +kernel
theorem dX9_undo_44 : decode cX9_undo 44 = .ok (.aload_n 0, 1) := by decide +kernel
theorem dX9_undo_45 : decode cX9_undo 45 = .ok (.getfield 7, 3) := by decide +kernel
theorem dX9_undo_48 : decode cX9_undo 48 = .ok (.iload_n 1, 1) := by decide +kernel
theorem dX9_undo_49 : decode cX9_undo 49 = .ok (.aload_n 0, 1) := by decide +kernel
theorem dX9_undo_50 : decode cX9_undo 50 = .ok (.getfield 13, 3) := by decide +kernel
theorem dX9_undo_53 : decode cX9_undo 53 = .ok (.bipush 21, 2) := by decide +kernel
theorem dX9_undo_55 : decode cX9_undo 55 = .ok (.aload_n 0, 1) := by decide +kernel
theorem dX9_undo_56 : decode cX9_undo 56 = .ok (.getfield 114, 3) := by decide +kernel
theorem dX9_undo_59 : decode cX9_undo 59 = .ok (.imul, 1) := by decide +kernel
theorem dX9_undo_60 : decode cX9_undo 60 = .ok (.iload_n 1, 1) := by decide +kernel
theorem dX9_undo_61 : decode cX9_undo 61 = .ok (.iadd, 1) := by decide +kernel
theorem dX9_undo_62 : decode cX9_undo 62 = .ok (.iaload, 1) := by decide +kernel
theorem dX9_undo_63 : decode cX9_undo 63 = .ok (.iastore, 1) := by decide +kernel
theorem dX9_undo_64 : decode cX9_undo 64 = .ok (.iinc 1 1, 3) := by decide +kernel
theorem dX9_undo_67 : decode cX9_undo 67 = .ok (.goto (-29), 3) := by decide +kernel
theorem dX9_undo_70 : decode cX9_undo 70 = .ok (.aload_n 0, 1) := by decide +kernel
theorem dX9_undo_71 : decode cX9_undo 71 = .ok (.getfield 96, 3) := by decide +kernel
theorem dX9_undo_74 : decode cX9_undo 74 = .ok (.ireturn, 1) := by decide +kernel
set_option maxRecDepth 20000 in
theorem ggX9_wider_X9_size : GoodIn wsX9_wider wsX9_size := goodIn_r _ [5, 6, 18, 19, 20, 21, 22, 23, 24, 25, 26, 27, 28, 29, 30, 31, 32, 33, 34, 35, 36, 37, 38] (by decide +kernel) (by decide +kernel)
set_option maxRecDepth 20000 in
theorem gX9_wider_X9_size : GoodIn wsX9_wider (wsV RX9 43 RX9 yX9_size wsX9_size) := goodIn_app (goodIn_of _ (by decide +kernel)) ggX9_wider_X9_size
set_option maxRecDepth 20000 in
theorem ggX9_wider_X9_has : GoodIn wsX9_wider wsX9_has := goodIn_r _ [9] (by decide +kernel) (by decide +kernel)
set_option maxRecDepth 20000 in
theorem gX9_wider_X9_has : GoodIn wsX9_wider (va_wsS RX9 117 yX9_has wsX9_has) := goodIn_app (goodIn_of _ (by decide +kernel)) ggX9_wider_X9_has
set_option maxRecDepth 20000 in
theorem ggX9_wider_X9_gg : GoodIn wsX9_wider wsX9_gg := goodIn_r _ [13, 6, 18, 19, 20, 21, 22, 23, 24, 25, 26, 27, 28, 29, 30, 31, 32, 33, 34, 35, 36, 37, 38] (by decide +kernel) (by decide +kernel)
set_option maxRecDepth 20000 in
theorem gX9_wider_X9_gg : GoodIn wsX9_wider (wsV RX9 110 RX9 yX9_gg wsX9_gg) := goodIn_app (goodIn_of _ (by decide +kernel)) ggX9_wider_X9_gg
set_option maxRecDepth 20000 in
theorem ggX9_wider_X9_ff : GoodIn wsX9_wider wsX9_ff := goodIn_r _ [17, 6, 18, 19, 20, 21, 22, 23, 24, 25, 26, 27, 28, 29, 30, 31, 32, 33, 34, 35, 36, 37, 38] (by decide +kernel) (by decide +kernel)
set_option maxRecDepth 20000 in
theorem gX9_wider_X9_ff : GoodIn wsX9_wider (wsV RX9 106 RX9 yX9_ff wsX9_ff) := goodIn_app (goodIn_of _ (by decide +kernel)) ggX9_wider_X9_ff
theorem dX9_wider_0 : decode cX9_wider 0 = .ok (.iload_n 1, 1) := by decide +kernel
theorem dX9_wider_1 : decode cX9_wider 1 = .ok (.istore_n 2, 1) := by decide +kernel
theorem dX9_wider_2 : decode cX9_wider 2 = .ok (.iconst 0, 1) := by decide +kernel
theorem dX9_wider_3 : decode cX9_wider 3 = .ok (.istore_n 3, 1) := by decide +kernel
theorem dX9_wider_4 : decode cX9_wider 4 = .ok (.iload_n 3, 1) := by decide +kernel
theorem dX9_wider_5 : decode cX9_wider 5 = .ok (.aload_n 0, 1) := by decide +kernel
theorem dX9_wider_6 : decode cX9_wider 6 = .ok (.invokevirtual 43, 3) := by decide +kernel
theorem dX9_wider_9 : decode cX9_wider 9 = .ok (.if_icmp .ge 82, 3) := by decide +kernel
theorem dX9_wider_12 : decode cX9_wider 12 = .ok (.iload_n 2, 1) := by decide +kernel
theorem dX9_wider_13 : decode cX9_wider 13 = .ok (.iload_n 1, 1) := by decide +kernel
theorem dX9_wider_14 : decode cX9_wider 14 = .ok (.iload_n 3, 1) := by decide +kernel
theorem dX9_wider_15 : decode cX9_wider 15 = .ok (.invokestatic 117, 3) := by decide +kernel
theorem dX9_wider_18 : decode cX9_wider 18 = .ok (.ifCond .eq 13, 3) := by decide +kernel
theorem dX9_wider_21 : decode cX9_wider 21 = .ok (.iconst 1, 1) := by decide +kernel
theorem dX9_wider_22 : decode cX9_wider 22 = .ok (.aload_n 0, 1) := by decide +kernel
theorem dX9_wider_23 : decode cX9_wider 23 = .ok (.iload_n 3, 1) := by decide +kernel
theorem dX9_wider_24 : decode cX9_wider 24 = .ok (.invokevirtual 110, 3) := by decide +kernel
theorem dX9_wider_27 : decode cX9_wider 27 = .ok (.ishl, 1) := by decide +kernel
theorem dX9_wider_28 : decode cX9_wider 28 = .ok (.goto 4, 3) := by decide +kernel
theorem dX9_wider_31 : decode cX9_wider 31 = .ok (.iconst 0, 1) := by decide +kernel
theorem dX9_wider_32 : decode cX9_wider 32 = .ok (.ior, 1) := by decide +kernel
theorem dX9_wider_33 : decode cX9_wider 33 = .ok (.istore_n 2, 1) := by decide +kernel
theorem dX9_wider_34 : decode cX9_wider 34 = .ok (.iconst 0, 1) := by decide +kernel
theorem dX9_wider_35 : decode cX9_wider 35 = .ok (.istore 4, 2) := by decide +kernel
theorem dX9_wider_37 : decode cX9_wider 37 = .ok (.iload 4, 2) := by decide +kernel
theorem dX9_wider_39 : decode cX9_wider 39 = .ok (.aload_n 0, 1) := by decide +kernel
theorem dX9_wider_40 : decode cX9_wider 40 = .ok (.invokevirtual 43, 3) := by decide +kernel
theorem dX9_wider_43 : decode cX9_wider 43 = .ok (.if_icmp .ge 42, 3) := by decide +kernel
theorem dX9_wider_46 : decode cX9_wider 46 = .ok (.iload_n 2, 1) := by decide +kernel
theorem dX9_wider_47 : decode cX9_wider 47 = .ok (.iload_n 1, 1) := by decide +kernel
theorem dX9_wider_48 : decode cX9_wider 48 = .ok (.iload_n 3, 1) := by decide +kernel
theorem dX9_wider_49 : decode cX9_wider 49 = .ok (.invokestatic 117, 3) := by decide +kernel
theorem dX9_wider_52 : decode cX9_wider 52 = .ok (.ifCond .eq 24, 3) := by decide +kernel
theorem dX9_wider_55 : decode cX9_wider 55 = .ok (.iload_n 1, 1) := by decide +kernel
theorem dX9_wider_56 : decode cX9_wider 56 = .ok (.iload 4, 2) := by decide +kernel
theorem dX9_wider_58 : decode cX9_wider 58 = .ok (.invokestatic 117, 3) := by decide +kernel
theorem dX9_wider_61 : decode cX9_wider 61 = .ok (.ifCond .eq 15, 3) := by decide +kernel
theorem dX9_wider_64 : decode cX9_wider 64 = .ok (.iconst 1, 1) := by decide +kernel
theorem dX9_wider_65 : decode cX9_wider 65 = .ok (.aload_n 0, 1) := by decide +kernel
theorem dX9_wider_66 : decode cX9_wider 66 = .ok (.iload_n 3, 1) := by decide +kernel
theorem dX9_wider_67 : decode cX9_wider 67 = .ok (.iload 4, 2) := by decide +kernel
theorem dX9_wider_69 : decode cX9_wider 69 = .ok (.invokevirtual 106, 3) := by decide +kernel
theorem dX9_wider_72 : decode cX9_wider 72 = .ok (.ishl, 1) := by decide +kernel
theorem dX9_wider_73 : decode cX9_wider 73 = .ok (.goto 4, 3) := by decide +kernel
theorem dX9_wider_76 : decode cX9_wider 76 = .ok (.iconst 0, 1) := by decide +kernel
theorem dX9_wider_77 : decode cX9_wider 77 = .ok (.ior, 1) := by decide +kernel
theorem dX9_wider_78 : decode cX9_wider 78 = .ok (.istore_n 2, 1) := by decide +kernel
theorem dX9_wider_79 : decode cX9_wider 79 = .ok (.iinc 4 1, 3) := by decide +kernel
theorem dX9_wider_82 : decode cX9_wider 82 = .ok (.goto (-45), 3) := by decide +kernel
theorem dX9_wider_85 : decode cX9_wider 85 = .ok (.iinc 3 1, 3) := by decide +kernel
theorem dX9_wider_88 : decode cX9_wider 88 = .ok (.goto (-84), 3) := by decide +kernel
theorem dX9_wider_91 : decode cX9_wider 91 = .ok (.iload_n 2, 1) := by decide +kernel
theorem dX9_wider_92 : decode cX9_wider 92 = .ok (.ireturn, 1) := by decide +kernel
set_option maxRecDepth 20000 in
theorem ggX9_setMany_X9_size : GoodIn wsX9_setMany wsX9_size := goodIn_r _ [5, 6, 7, 8, 9, 10, 11, 12, 13, 14, 15, 16, 17, 18, 19, 20, 21, 22, 23, 24, 25, 26, 27] (by decide +kernel) (by decide +kernel)
set_option maxRecDepth 20000 in
theorem gX9_setMany_X9_size : GoodIn wsX9_setMany (wsV RX9 43 RX9 yX9_size wsX9_size) := goodIn_app (goodIn_of _ (by decide +kernel)) ggX9_setMany_X9_size
theorem dX9_setMany_0 : decode cX9_setMany 0 = .ok (.iconst 1, 1) := by decide +kernel
theorem dX9_setMany_1 : decode cX9_setMany 1 = .ok (.aload_n 0, 1) := by decide +kernel
theorem dX9_setMany_2 : decode cX9_setMany 2 = .ok (.invokevirtual 43, 3) := by decide +kernel
theorem dX9_setMany_5 : decode cX9_setMany 5 = .ok (.ishl, 1) := by decide +kernel
theorem dX9_setMany_6 : decode cX9_setMany 6 = .ok (.ireturn, 1) := by decide +kernel
set_option maxRecDepth 20000 in
theorem ggX9_made_X9_setMany : GoodIn wsX9_made wsX9_setMany := goodIn_r _ [5, 6, 7, 8, 4, 9, 10, 29, 30, 31, 32, 33, 34, 35, 36, 37, 38, 39, 40, 41, 42, 43, 44, 45, 46, 47, 48, 49] (by decide +kernel) (by decide +kernel)
set_option maxRecDepth 20000 in
theorem gX9_made_X9_setMany : GoodIn wsX9_made (wsV RX9 120 RX9 yX9_setMany wsX9_setMany) := goodIn_app (goodIn_of _ (by decide +kernel)) ggX9_made_X9_setMany
set_option maxRecDepth 20000 in
theorem ggX9_made_X9_in : GoodIn wsX9_made wsX9_in := goodIn_r _ [13] (by decide +kernel) (by decide +kernel)
set_option maxRecDepth 20000 in
theorem gX9_made_X9_in : GoodIn wsX9_made (va_wsS RX9 47 yX9_in wsX9_in) := goodIn_app (goodIn_of _ (by decide +kernel)) ggX9_made_X9_in
set_option maxRecDepth 20000 in
theorem ggX9_made_X9_wider : GoodIn wsX9_made wsX9_wider := goodIn_r _ [17, 6, 7, 8, 4, 9, 10, 18, 19, 20, 21, 22, 23, 24, 25, 26, 27, 28, 29, 30, 31, 32, 33, 34, 35, 36, 37, 38, 39, 40, 41, 42, 43, 44, 45, 46, 47, 48, 49] (by decide +kernel) (by decide +kernel)
set_option maxRecDepth 20000 in
theorem gX9_made_X9_wider : GoodIn wsX9_made (wsV RX9 123 RX9 yX9_wider wsX9_wider) := goodIn_app (goodIn_of _ (by decide +kernel)) ggX9_made_X9_wider
theorem dX9_made_0 : decode cX9_made 0 = .ok (.iload_n 1, 1) := by decide +kernel
theorem dX9_made_1 : decode cX9_made 1 = .ok (.iconst 0, 1) := by decide +kernel
theorem dX9_made_2 : decode cX9_made 2 = .ok (.aload_n 0, 1) := by decide +kernel
theorem dX9_made_3 : decode cX9_made 3 = .ok (.invokevirtual 120, 3) := by decide +kernel
theorem dX9_made_6 : decode cX9_made 6 = .ok (.iconst 1, 1) := by decide +kernel
theorem dX9_made_7 : decode cX9_made 7 = .ok (.isub, 1) := by decide +kernel
theorem dX9_made_8 : decode cX9_made 8 = .ok (.invokestatic 47, 3) := by decide +kernel
theorem dX9_made_11 : decode cX9_made 11 = .ok (.ifCond .ne 6, 3) := by decide +kernel
theorem dX9_made_14 : decode cX9_made 14 = .ok (.bipush (-2), 2) := by decide +kernel
theorem dX9_made_16 : decode cX9_made 16 = .ok (.ireturn, 1) := by decide +kernel
theorem dX9_made_17 : decode cX9_made 17 = .ok (.iload_n 1, 1) := by decide +kernel
theorem dX9_made_18 : decode cX9_made 18 = .ok (.istore_n 2, 1) := by decide +kernel
theorem dX9_made_19 : decode cX9_made 19 = .ok (.aload_n 0, 1) := by decide +kernel
theorem dX9_made_20 : decode cX9_made 20 = .ok (.iload_n 2, 1) := by decide +kernel
theorem dX9_made_21 : decode cX9_made 21 = .ok (.invokevirtual 123, 3) := by decide +kernel
theorem dX9_made_24 : decode cX9_made 24 = .ok (.iload_n 2, 1) := by decide +kernel
theorem dX9_made_25 : decode cX9_made 25 = .ok (.if_icmp .eq 12, 3) := by decide +kernel
theorem dX9_made_28 : decode cX9_made 28 = .ok (.aload_n 0, 1) := by decide +kernel
theorem dX9_made_29 : decode cX9_made 29 = .ok (.iload_n 2, 1) := by decide +kernel
theorem dX9_made_30 : decode cX9_made 30 = .ok (.invokevirtual 123, 3) := by decide +kernel
theorem dX9_made_33 : decode cX9_made 33 = .ok (.istore_n 2, 1) := by decide +kernel
theorem dX9_made_34 : decode cX9_made 34 = .ok (.goto (-15), 3) := by decide +kernel
theorem dX9_made_37 : decode cX9_made 37 = .ok (.iload_n 2, 1) := by decide +kernel
theorem dX9_made_38 : decode cX9_made 38 = .ok (.ireturn, 1) := by decide +kernel
set_option maxRecDepth 20000 in
theorem ggX9_closedOf_X9_setMany : GoodIn wsX9_closedOf wsX9_setMany := goodIn_r _ [5, 6, 7, 8, 4, 9, 10, 26, 27, 28, 29, 30, 31, 32, 33, 34, 35, 36, 37, 38, 39, 40, 41, 42, 43, 44, 45, 46] (by decide +kernel) (by decide +kernel)
set_option maxRecDepth 20000 in
theorem gX9_closedOf_X9_setMany : GoodIn wsX9_closedOf (wsV RX9 120 RX9 yX9_setMany wsX9_setMany) := goodIn_app (goodIn_of _ (by decide +kernel)) ggX9_closedOf_X9_setMany
set_option maxRecDepth 20000 in
theorem ggX9_closedOf_X9_wider : GoodIn wsX9_closedOf wsX9_wider := goodIn_r _ [14, 6, 7, 8, 4, 9, 10, 15, 16, 17, 18, 19, 20, 21, 22, 23, 24, 25, 26, 27, 28, 29, 30, 31, 32, 33, 34, 35, 36, 37, 38, 39, 40, 41, 42, 43, 44, 45, 46] (by decide +kernel) (by decide +kernel)
set_option maxRecDepth 20000 in
theorem gX9_closedOf_X9_wider : GoodIn wsX9_closedOf (wsV RX9 123 RX9 yX9_wider wsX9_wider) := goodIn_app (goodIn_of _ (by decide +kernel)) ggX9_closedOf_X9_wider
theorem dX9_closedOf_0 : decode cX9_closedOf 0 = .ok (.iconst 0, 1) := by decide +kernel
theorem dX9_closedOf_1 : decode cX9_closedOf 1 = .ok (.istore_n 2, 1) := by decide +kernel
theorem dX9_closedOf_2 : decode cX9_closedOf 2 = .ok (.iconst 0, 1) := by decide +kernel
theorem dX9_closedOf_3 : decode cX9_closedOf 3 = .ok (.istore_n 3, 1) := by decide +kernel
theorem dX9_closedOf_4 : decode cX9_closedOf 4 = .ok (.iload_n 3, 1) := by decide +kernel
theorem dX9_closedOf_5 : decode cX9_closedOf 5 = .ok (.aload_n 0, 1) := by decide +kernel
theorem dX9_closedOf_6 : decode cX9_closedOf 6 = .ok (.invokevirtual 120, 3) := by decide +kernel
theorem dX9_closedOf_9 : decode cX9_closedOf 9 = .ok (.if_icmp .ge 28, 3) := by decide +kernel
theorem dX9_closedOf_12 : decode cX9_closedOf 12 = .ok (.aload_n 0, 1) := by decide +kernel
theorem dX9_closedOf_13 : decode cX9_closedOf 13 = .ok (.iload_n 3, 1) := by decide +kernel
theorem dX9_closedOf_14 : decode cX9_closedOf 14 = .ok (.invokevirtual 123, 3) := by decide +kernel
theorem dX9_closedOf_17 : decode cX9_closedOf 17 = .ok (.iload_n 3, 1) := by decide +kernel
theorem dX9_closedOf_18 : decode cX9_closedOf 18 = .ok (.if_icmp .ne 13, 3) := by decide +kernel
theorem dX9_closedOf_21 : decode cX9_closedOf 21 = .ok (.iload_n 2, 1) := by decide +kernel
theorem dX9_closedOf_22 : decode cX9_closedOf 22 = .ok (.iload_n 1, 1) := by decide +kernel
theorem dX9_closedOf_23 : decode cX9_closedOf 23 = .ok (.if_icmp .ne 5, 3) := by decide +kernel
theorem dX9_closedOf_26 : decode cX9_closedOf 26 = .ok (.iload_n 3, 1) := by decide +kernel
theorem dX9_closedOf_27 : decode cX9_closedOf 27 = .ok (.ireturn, 1) := by decide +kernel
theorem dX9_closedOf_28 : decode cX9_closedOf 28 = .ok (.iinc 2 1, 3) := by decide +kernel
theorem dX9_closedOf_31 : decode cX9_closedOf 31 = .ok (.iinc 3 1, 3) := by decide +kernel
theorem dX9_closedOf_34 : decode cX9_closedOf 34 = .ok (.goto (-30), 3) := by decide +kernel
theorem dX9_closedOf_37 : decode cX9_closedOf 37 = .ok (.iload_n 1, 1) := by decide +kernel
theorem dX9_closedOf_38 : decode cX9_closedOf 38 = .ok (.ifCond .ge 7, 3) := by decide +kernel
theorem dX9_closedOf_41 : decode cX9_closedOf 41 = .ok (.iload_n 2, 1) := by decide +kernel
theorem dX9_closedOf_42 : decode cX9_closedOf 42 = .ok (.goto 5, 3) := by decide +kernel
theorem dX9_closedOf_45 : decode cX9_closedOf 45 = .ok (.bipush (-9), 2) := by decide +kernel
theorem dX9_closedOf_47 : decode cX9_closedOf 47 = .ok (.ireturn, 1) := by decide +kernel
set_option maxRecDepth 20000 in
theorem ggX9_closed_X9_closedOf : GoodIn wsX9_closed wsX9_closedOf := goodIn_r _ [5, 6, 7, 8, 4, 9, 10, 11, 12, 13, 14, 15, 16, 17, 18, 19, 20, 21, 22, 23, 24, 25, 26, 27, 28, 29, 30, 31, 32, 33, 34, 35, 36, 37, 38, 39, 40, 41, 42, 43, 44, 45, 46, 47, 48, 49, 50] (by decide +kernel) (by decide +kernel)
set_option maxRecDepth 20000 in
theorem gX9_closed_X9_closedOf : GoodIn wsX9_closed (wsV RX9 126 RX9 yX9_closedOf wsX9_closedOf) := goodIn_app (goodIn_of _ (by decide +kernel)) ggX9_closed_X9_closedOf
theorem dX9_closed_0 : decode cX9_closed 0 = .ok (.iload_n 1, 1) := by decide +kernel
theorem dX9_closed_1 : decode cX9_closed 1 = .ok (.ifCond .ge 8, 3) := by decide +kernel
theorem dX9_closed_4 : decode cX9_closed 4 = .ok (.bipush (-2), 2) := by decide +kernel
theorem dX9_closed_6 : decode cX9_closed 6 = .ok (.goto 8, 3) := by decide +kernel
theorem dX9_closed_9 : decode cX9_closed 9 = .ok (.aload_n 0, 1) := by decide +kernel
theorem dX9_closed_10 : decode cX9_closed 10 = .ok (.iload_n 1, 1) := by decide +kernel
theorem dX9_closed_11 : decode cX9_closed 11 = .ok (.invokevirtual 126, 3) := by decide +kernel
theorem dX9_closed_14 : decode cX9_closed 14 = .ok (.ireturn, 1) := by decide +kernel
set_option maxRecDepth 20000 in
theorem ggX9_isSo_X9_ff : GoodIn wsX9_isSo wsX9_ff := goodIn_r _ [5, 6, 11, 12, 13, 14, 15, 16, 17, 18, 19, 20, 21, 22, 23, 24, 25, 26, 27, 28, 29, 30, 31] (by decide +kernel) (by decide +kernel)
set_option maxRecDepth 20000 in
theorem gX9_isSo_X9_ff : GoodIn wsX9_isSo (wsV RX9 106 RX9 yX9_ff wsX9_ff) := goodIn_app (goodIn_of _ (by decide +kernel)) ggX9_isSo_X9_ff
set_option maxRecDepth 20000 in
theorem ggX9_isSo_X9_gg : GoodIn wsX9_isSo wsX9_gg := goodIn_r _ [10, 6, 11, 12, 13, 14, 15, 16, 17, 18, 19, 20, 21, 22, 23, 24, 25, 26, 27, 28, 29, 30, 31] (by decide +kernel) (by decide +kernel)
set_option maxRecDepth 20000 in
theorem gX9_isSo_X9_gg : GoodIn wsX9_isSo (wsV RX9 110 RX9 yX9_gg wsX9_gg) := goodIn_app (goodIn_of _ (by decide +kernel)) ggX9_isSo_X9_gg
theorem dX9_isSo_0 : decode cX9_isSo 0 = .ok (.iload_n 1, 1) := by decide +kernel
theorem dX9_isSo_1 : decode cX9_isSo 1 = .ok (.tableswitch 187 0 5 #[39, 55, 76, 109, 128, 161], 39) := by decide +kernel
theorem dX9_isSo_40 : decode cX9_isSo 40 = .ok (.aload_n 0, 1) := by decide +kernel
theorem dX9_isSo_41 : decode cX9_isSo 41 = .ok (.iload_n 2, 1) := by decide +kernel
theorem dX9_isSo_42 : decode cX9_isSo 42 = .ok (.iload_n 2, 1) := by decide +kernel
theorem dX9_isSo_43 : decode cX9_isSo 43 = .ok (.invokevirtual 106, 3) := by decide +kernel
theorem dX9_isSo_46 : decode cX9_isSo 46 = .ok (.iload_n 2, 1) := by decide +kernel
theorem dX9_isSo_47 : decode cX9_isSo 47 = .ok (.if_icmp .ne 7, 3) := by decide +kernel
theorem dX9_isSo_50 : decode cX9_isSo 50 = .ok (.iconst 1, 1) := by decide +kernel
theorem dX9_isSo_51 : decode cX9_isSo 51 = .ok (.goto 4, 3) := by decide +kernel
theorem dX9_isSo_54 : decode cX9_isSo 54 = .ok (.iconst 0, 1) := by decide +kernel
theorem dX9_isSo_55 : decode cX9_isSo 55 = .ok (.ireturn, 1) := by decide +kernel
theorem dX9_isSo_56 : decode cX9_isSo 56 = .ok (.aload_n 0, 1) := by decide +kernel
theorem dX9_isSo_57 : decode cX9_isSo 57 = .ok (.iload_n 2, 1) := by decide +kernel
theorem dX9_isSo_58 : decode cX9_isSo 58 = .ok (.iload_n 3, 1) := by decide +kernel
theorem dX9_isSo_59 : decode cX9_isSo 59 = .ok (.invokevirtual 106, 3) := by decide +kernel
theorem dX9_isSo_62 : decode cX9_isSo 62 = .ok (.aload_n 0, 1) := by decide +kernel
theorem dX9_isSo_63 : decode cX9_isSo 63 = .ok (.iload_n 3, 1) := by decide +kernel
theorem dX9_isSo_64 : decode cX9_isSo 64 = .ok (.iload_n 2, 1) := by decide +kernel
theorem dX9_isSo_65 : decode cX9_isSo 65 = .ok (.invokevirtual 106, 3) := by decide +kernel
theorem dX9_isSo_68 : decode cX9_isSo 68 = .ok (.if_icmp .ne 7, 3) := by decide +kernel
theorem dX9_isSo_71 : decode cX9_isSo 71 = .ok (.iconst 1, 1) := by decide +kernel
theorem dX9_isSo_72 : decode cX9_isSo 72 = .ok (.goto 4, 3) := by decide +kernel
theorem dX9_isSo_75 : decode cX9_isSo 75 = .ok (.iconst 0, 1) := by decide +kernel
theorem dX9_isSo_76 : decode cX9_isSo 76 = .ok (.ireturn, 1) := by decide +kernel
theorem dX9_isSo_77 : decode cX9_isSo 77 = .ok (.aload_n 0, 1) := by decide +kernel
theorem dX9_isSo_78 : decode cX9_isSo 78 = .ok (.aload_n 0, 1) := by decide +kernel
theorem dX9_isSo_79 : decode cX9_isSo 79 = .ok (.iload_n 2, 1) := by decide +kernel
theorem dX9_isSo_80 : decode cX9_isSo 80 = .ok (.iload_n 3, 1) := by decide +kernel
theorem dX9_isSo_81 : decode cX9_isSo 81 = .ok (.invokevirtual 106, 3) := by decide +kernel
theorem dX9_isSo_84 : decode cX9_isSo 84 = .ok (.iload 4, 2) := by decide +kernel
theorem dX9_isSo_86 : decode cX9_isSo 86 = .ok (.invokevirtual 106, 3) := by decide +kernel
theorem dX9_isSo_89 : decode cX9_isSo 89 = .ok (.aload_n 0, 1) := by decide +kernel
theorem dX9_isSo_90 : decode cX9_isSo 90 = .ok (.iload_n 2, 1) := by decide +kernel
theorem dX9_isSo_91 : decode cX9_isSo 91 = .ok (.aload_n 0, 1) := by decide +kernel
theorem dX9_isSo_92 : decode cX9_isSo 92 = .ok (.iload_n 3, 1) := by decide +kernel
theorem dX9_isSo_93 : decode cX9_isSo 93 = .ok (.iload 4, 2) := by decide +kernel
theorem dX9_isSo_95 : decode cX9_isSo 95 = .ok (.invokevirtual 106, 3) := by decide +kernel
theorem dX9_isSo_98 : decode cX9_isSo 98 = .ok (.invokevirtual 106, 3) := by decide +kernel
theorem dX9_isSo_101 : decode cX9_isSo 101 = .ok (.if_icmp .ne 7, 3) := by decide +kernel
theorem dX9_isSo_104 : decode cX9_isSo 104 = .ok (.iconst 1, 1) := by decide +kernel
theorem dX9_isSo_105 : decode cX9_isSo 105 = .ok (.goto 4, 3) := by decide +kernel
theorem dX9_isSo_108 : decode cX9_isSo 108 = .ok (.iconst 0, 1) := by decide +kernel
theorem dX9_isSo_109 : decode cX9_isSo 109 = .ok (.ireturn, 1) := by decide +kernel
theorem dX9_isSo_110 : decode cX9_isSo 110 = .ok (.aload_n 0, 1) := by decide +kernel
theorem dX9_isSo_111 : decode cX9_isSo 111 = .ok (.aload_n 0, 1) := by decide +kernel
theorem dX9_isSo_112 : decode cX9_isSo 112 = .ok (.iload_n 2, 1) := by decide +kernel
theorem dX9_isSo_113 : decode cX9_isSo 113 = .ok (.invokevirtual 110, 3) := by decide +kernel
theorem dX9_isSo_116 : decode cX9_isSo 116 = .ok (.invokevirtual 110, 3) := by decide +kernel
theorem dX9_isSo_119 : decode cX9_isSo 119 = .ok (.iload_n 2, 1) := by decide +kernel
theorem dX9_isSo_120 : decode cX9_isSo 120 = .ok (.if_icmp .ne 7, 3) := by decide +kernel
theorem dX9_isSo_123 : decode cX9_isSo 123 = .ok (.iconst 1, 1) := by decide +kernel
theorem dX9_isSo_124 : decode cX9_isSo 124 = .ok (.goto 4, 3) := by decide +kernel
theorem dX9_isSo_127 : decode cX9_isSo 127 = .ok (.iconst 0, 1) := by decide +kernel
theorem dX9_isSo_128 : decode cX9_isSo 128 = .ok (.ireturn, 1) := by decide +kernel
theorem dX9_isSo_129 : decode cX9_isSo 129 = .ok (.aload_n 0, 1) := by decide +kernel
theorem dX9_isSo_130 : decode cX9_isSo 130 = .ok (.aload_n 0, 1) := by decide +kernel
theorem dX9_isSo_131 : decode cX9_isSo 131 = .ok (.iload_n 2, 1) := by decide +kernel
theorem dX9_isSo_132 : decode cX9_isSo 132 = .ok (.iload_n 3, 1) := by decide +kernel
theorem dX9_isSo_133 : decode cX9_isSo 133 = .ok (.invokevirtual 106, 3) := by decide +kernel
theorem dX9_isSo_136 : decode cX9_isSo 136 = .ok (.invokevirtual 110, 3) := by decide +kernel
theorem dX9_isSo_139 : decode cX9_isSo 139 = .ok (.aload_n 0, 1) := by decide +kernel
theorem dX9_isSo_140 : decode cX9_isSo 140 = .ok (.aload_n 0, 1) := by decide +kernel
theorem dX9_isSo_141 : decode cX9_isSo 141 = .ok (.iload_n 3, 1) := by decide +kernel
theorem dX9_isSo_142 : decode cX9_isSo 142 = .ok (.invokevirtual 110, 3) := by decide +kernel
theorem dX9_isSo_145 : decode cX9_isSo 145 = .ok (.aload_n 0, 1) := by decide +kernel
theorem dX9_isSo_146 : decode cX9_isSo 146 = .ok (.iload_n 2, 1) := by decide +kernel
theorem dX9_isSo_147 : decode cX9_isSo 147 = .ok (.invokevirtual 110, 3) := by decide +kernel
theorem dX9_isSo_150 : decode cX9_isSo 150 = .ok (.invokevirtual 106, 3) := by decide +kernel
theorem dX9_isSo_153 : decode cX9_isSo 153 = .ok (.if_icmp .ne 7, 3) := by decide +kernel
theorem dX9_isSo_156 : decode cX9_isSo 156 = .ok (.iconst 1, 1) := by decide +kernel
theorem dX9_isSo_157 : decode cX9_isSo 157 = .ok (.goto 4, 3) := by decide +kernel
theorem dX9_isSo_160 : decode cX9_isSo 160 = .ok (.iconst 0, 1) := by decide +kernel
theorem dX9_isSo_161 : decode cX9_isSo 161 = .ok (.ireturn, 1) := by decide +kernel
theorem dX9_isSo_162 : decode cX9_isSo 162 = .ok (.aload_n 0, 1) := by decide +kernel
theorem dX9_isSo_163 : decode cX9_isSo 163 = .ok (.iload_n 2, 1) := by decide +kernel
theorem dX9_isSo_164 : decode cX9_isSo 164 = .ok (.aload_n 0, 1) := by decide +kernel
theorem dX9_isSo_165 : decode cX9_isSo 165 = .ok (.iload_n 2, 1) := by decide +kernel
theorem dX9_isSo_166 : decode cX9_isSo 166 = .ok (.iload_n 3, 1) := by decide +kernel
theorem dX9_isSo_167 : decode cX9_isSo 167 = .ok (.invokevirtual 106, 3) := by decide +kernel
theorem dX9_isSo_170 : decode cX9_isSo 170 = .ok (.invokevirtual 106, 3) := by decide +kernel
theorem dX9_isSo_173 : decode cX9_isSo 173 = .ok (.aload_n 0, 1) := by decide +kernel
theorem dX9_isSo_174 : decode cX9_isSo 174 = .ok (.iload_n 2, 1) := by decide +kernel
theorem dX9_isSo_175 : decode cX9_isSo 175 = .ok (.iload_n 3, 1) := by decide +kernel
theorem dX9_isSo_176 : decode cX9_isSo 176 = .ok (.invokevirtual 106, 3) := by decide +kernel
theorem dX9_isSo_179 : decode cX9_isSo 179 = .ok (.if_icmp .ne 7, 3) := by decide +kernel
theorem dX9_isSo_182 : decode cX9_isSo 182 = .ok (.iconst 1, 1) := by decide +kernel
theorem dX9_isSo_183 : decode cX9_isSo 183 = .ok (.goto 4, 3) := by decide +kernel
theorem dX9_isSo_186 : decode cX9_isSo 186 = .ok (.iconst 0, 1) := by decide +kernel
theorem dX9_isSo_187 : decode cX9_isSo 187 = .ok (.ireturn, 1) := by decide +kernel
theorem dX9_isSo_188 : decode cX9_isSo 188 = .ok (.aload_n 0, 1) := by decide +kernel
theorem dX9_isSo_189 : decode cX9_isSo 189 = .ok (.iload_n 2, 1) := by decide +kernel
theorem dX9_isSo_190 : decode cX9_isSo 190 = .ok (.aload_n 0, 1) := by decide +kernel
theorem dX9_isSo_191 : decode cX9_isSo 191 = .ok (.iload_n 2, 1) := by decide +kernel
theorem dX9_isSo_192 : decode cX9_isSo 192 = .ok (.invokevirtual 110, 3) := by decide +kernel
theorem dX9_isSo_195 : decode cX9_isSo 195 = .ok (.invokevirtual 106, 3) := by decide +kernel
theorem dX9_isSo_198 : decode cX9_isSo 198 = .ok (.aload_n 0, 1) := by decide +kernel
theorem dX9_isSo_199 : decode cX9_isSo 199 = .ok (.iload_n 3, 1) := by decide +kernel
theorem dX9_isSo_200 : decode cX9_isSo 200 = .ok (.aload_n 0, 1) := by decide +kernel
theorem dX9_isSo_201 : decode cX9_isSo 201 = .ok (.iload_n 3, 1) := by decide +kernel
theorem dX9_isSo_202 : decode cX9_isSo 202 = .ok (.invokevirtual 110, 3) := by decide +kernel
theorem dX9_isSo_205 : decode cX9_isSo 205 = .ok (.invokevirtual 106, 3) := by decide +kernel
theorem dX9_isSo_208 : decode cX9_isSo 208 = .ok (.if_icmp .ne 7, 3) := by decide +kernel
theorem dX9_isSo_211 : decode cX9_isSo 211 = .ok (.iconst 1, 1) := by decide +kernel
theorem dX9_isSo_212 : decode cX9_isSo 212 = .ok (.goto 4, 3) := by decide +kernel
theorem dX9_isSo_215 : decode cX9_isSo 215 = .ok (.iconst 0, 1) := by decide +kernel
theorem dX9_isSo_216 : decode cX9_isSo 216 = .ok (.ireturn, 1) := by decide +kernel
theorem dX9_named_0 : decode cX9_named 0 = .ok (.iload_n 0, 1) := by decide +kernel
theorem dX9_named_1 : decode cX9_named 1 = .ok (.ifCond .eq 8, 3) := by decide +kernel
theorem dX9_named_4 : decode cX9_named 4 = .ok (.iload_n 0, 1) := by decide +kernel
theorem dX9_named_5 : decode cX9_named 5 = .ok (.iconst 3, 1) := by decide +kernel
theorem dX9_named_6 : decode cX9_named 6 = .ok (.if_icmp .ne 7, 3) := by decide +kernel
theorem dX9_named_9 : decode cX9_named 9 = .ok (.iconst 1, 1) := by decide +kernel
theorem dX9_named_10 : decode cX9_named 10 = .ok (.goto 13, 3) := by decide +kernel
theorem dX9_named_13 : decode cX9_named 13 = .ok (.iload_n 0, 1) := by decide +kernel
theorem dX9_named_14 : decode cX9_named 14 = .ok (.iconst 2, 1) := by decide +kernel
theorem dX9_named_15 : decode cX9_named 15 = .ok (.if_icmp .ne 7, 3) := by decide +kernel
theorem dX9_named_18 : decode cX9_named 18 = .ok (.iconst 3, 1) := by decide +kernel
theorem dX9_named_19 : decode cX9_named 19 = .ok (.goto 4, 3) := by decide +kernel
theorem dX9_named_22 : decode cX9_named 22 = .ok (.iconst 2, 1) := by decide +kernel
theorem dX9_named_23 : decode cX9_named 23 = .ok (.ireturn, 1) := by decide +kernel
set_option maxRecDepth 20000 in
theorem ggX9_firstOf_X9_named : GoodIn wsX9_firstOf wsX9_named := goodIn_r _ [4] (by decide +kernel) (by decide +kernel)
set_option maxRecDepth 20000 in
theorem gX9_firstOf_X9_named : GoodIn wsX9_firstOf (va_wsS RX9 129 yX9_named wsX9_named) := goodIn_app (goodIn_of _ (by decide +kernel)) ggX9_firstOf_X9_named
set_option maxRecDepth 20000 in
theorem ggX9_firstOf_X9_size : GoodIn wsX9_firstOf wsX9_size := goodIn_r _ [8, 9, 22, 23, 24, 25, 26, 27, 28, 29, 30, 31, 32, 33, 34, 35, 36, 37, 38, 39, 40, 41, 42] (by decide +kernel) (by decide +kernel)
set_option maxRecDepth 20000 in
theorem gX9_firstOf_X9_size : GoodIn wsX9_firstOf (wsV RX9 43 RX9 yX9_size wsX9_size) := goodIn_app (goodIn_of _ (by decide +kernel)) ggX9_firstOf_X9_size
set_option maxRecDepth 20000 in
theorem ggX9_firstOf_X9_isSo : GoodIn wsX9_firstOf wsX9_isSo := goodIn_r _ [13, 14, 15, 16, 3, 17, 9, 18, 19, 20, 21, 22, 23, 24, 25, 26, 27, 28, 29, 30, 31, 32, 33, 34, 35, 36, 37, 38, 39, 40, 41, 42] (by decide +kernel) (by decide +kernel)
set_option maxRecDepth 20000 in
theorem gX9_firstOf_X9_isSo : GoodIn wsX9_firstOf (wsV RX9 132 RX9 yX9_isSo wsX9_isSo) := goodIn_app (goodIn_of _ (by decide +kernel)) ggX9_firstOf_X9_isSo
theorem dX9_firstOf_0 : decode cX9_firstOf 0 = .ok (.iload_n 1, 1) := by decide +kernel
theorem dX9_firstOf_1 : decode cX9_firstOf 1 = .ok (.invokestatic 129, 3) := by decide +kernel
theorem dX9_firstOf_4 : decode cX9_firstOf 4 = .ok (.istore_n 2, 1) := by decide +kernel
theorem dX9_firstOf_5 : decode cX9_firstOf 5 = .ok (.iconst 0, 1) := by decide +kernel
theorem dX9_firstOf_6 : decode cX9_firstOf 6 = .ok (.istore_n 3, 1) := by decide +kernel
theorem dX9_firstOf_7 : decode cX9_firstOf 7 = .ok (.iload_n 3, 1) := by decide +kernel
theorem dX9_firstOf_8 : decode cX9_firstOf 8 = .ok (.aload_n 0, 1) := by decide +kernel
theorem dX9_firstOf_9 : decode cX9_firstOf 9 = .ok (.invokevirtual 43, 3) := by decide +kernel
theorem dX9_firstOf_12 : decode cX9_firstOf 12 = .ok (.if_icmp .ge 90, 3) := by decide +kernel
theorem dX9_firstOf_15 : decode cX9_firstOf 15 = .ok (.iconst 0, 1) := by decide +kernel
theorem dX9_firstOf_16 : decode cX9_firstOf 16 = .ok (.istore 4, 2) := by decide +kernel
theorem dX9_firstOf_18 : decode cX9_firstOf 18 = .ok (.iload 4, 2) := by decide +kernel
theorem dX9_firstOf_20 : decode cX9_firstOf 20 = .ok (.iload_n 2, 1) := by decide +kernel
theorem dX9_firstOf_21 : decode cX9_firstOf 21 = .ok (.iconst 1, 1) := by decide +kernel
theorem dX9_firstOf_22 : decode cX9_firstOf 22 = .ok (.if_icmp .le 10, 3) := by decide +kernel
theorem dX9_firstOf_25 : decode cX9_firstOf 25 = .ok (.aload_n 0, 1) := by decide +kernel
theorem dX9_firstOf_26 : decode cX9_firstOf 26 = .ok (.invokevirtual 43, 3) := by decide +kernel
theorem dX9_firstOf_29 : decode cX9_firstOf 29 = .ok (.goto 4, 3) := by decide +kernel
theorem dX9_firstOf_32 : decode cX9_firstOf 32 = .ok (.iconst 1, 1) := by decide +kernel
theorem dX9_firstOf_33 : decode cX9_firstOf 33 = .ok (.if_icmp .ge 63, 3) := by decide +kernel
theorem dX9_firstOf_36 : decode cX9_firstOf 36 = .ok (.iconst 0, 1) := by decide +kernel
theorem dX9_firstOf_37 : decode cX9_firstOf 37 = .ok (.istore 5, 2) := by decide +kernel
theorem dX9_firstOf_39 : decode cX9_firstOf 39 = .ok (.iload 5, 2) := by decide +kernel
theorem dX9_firstOf_41 : decode cX9_firstOf 41 = .ok (.iload_n 2, 1) := by decide +kernel
theorem dX9_firstOf_42 : decode cX9_firstOf 42 = .ok (.iconst 2, 1) := by decide +kernel
theorem dX9_firstOf_43 : decode cX9_firstOf 43 = .ok (.if_icmp .le 10, 3) := by decide +kernel
theorem dX9_firstOf_46 : decode cX9_firstOf 46 = .ok (.aload_n 0, 1) := by decide +kernel
theorem dX9_firstOf_47 : decode cX9_firstOf 47 = .ok (.invokevirtual 43, 3) := by decide +kernel
theorem dX9_firstOf_50 : decode cX9_firstOf 50 = .ok (.goto 4, 3) := by decide +kernel
theorem dX9_firstOf_53 : decode cX9_firstOf 53 = .ok (.iconst 1, 1) := by decide +kernel
theorem dX9_firstOf_54 : decode cX9_firstOf 54 = .ok (.if_icmp .ge 36, 3) := by decide +kernel
theorem dX9_firstOf_57 : decode cX9_firstOf 57 = .ok (.aload_n 0, 1) := by decide +kernel
theorem dX9_firstOf_58 : decode cX9_firstOf 58 = .ok (.iload_n 1, 1) := by decide +kernel
theorem dX9_firstOf_59 : decode cX9_firstOf 59 = .ok (.iload_n 3, 1) := by decide +kernel
theorem dX9_firstOf_60 : decode cX9_firstOf 60 = .ok (.iload 4, 2) := by decide +kernel
theorem dX9_firstOf_62 : decode cX9_firstOf 62 = .ok (.iload 5, 2) := by decide +kernel
theorem dX9_firstOf_64 : decode cX9_firstOf 64 = .ok (.invokevirtual 132, 3) := by decide +kernel
theorem dX9_firstOf_67 : decode cX9_firstOf 67 = .ok (.ifCond .ne 17, 3) := by decide +kernel
theorem dX9_firstOf_70 : decode cX9_firstOf 70 = .ok (.bipush 100, 2) := by decide +kernel
theorem dX9_firstOf_72 : decode cX9_firstOf 72 = .ok (.iload_n 3, 1) := by decide +kernel
theorem dX9_firstOf_73 : decode cX9_firstOf 73 = .ok (.imul, 1) := by decide +kernel
theorem dX9_firstOf_74 : decode cX9_firstOf 74 = .ok (.bipush 10, 2) := by decide +kernel
theorem dX9_firstOf_76 : decode cX9_firstOf 76 = .ok (.iload 4, 2) := by decide +kernel
theorem dX9_firstOf_78 : decode cX9_firstOf 78 = .ok (.imul, 1) := by decide +kernel
theorem dX9_firstOf_79 : decode cX9_firstOf 79 = .ok (.iadd, 1) := by decide +kernel
theorem dX9_firstOf_80 : decode cX9_firstOf 80 = .ok (.iload 5, 2) := by decide +kernel
theorem dX9_firstOf_82 : decode cX9_firstOf 82 = .ok (.iadd, 1) := by decide +kernel
theorem dX9_firstOf_83 : decode cX9_firstOf 83 = .ok (.ireturn, 1) := by decide +kernel
theorem dX9_firstOf_84 : decode cX9_firstOf 84 = .ok (.iinc 5 1, 3) := by decide +kernel
theorem dX9_firstOf_87 : decode cX9_firstOf 87 = .ok (.goto (-48), 3) := by decide +kernel
theorem dX9_firstOf_90 : decode cX9_firstOf 90 = .ok (.iinc 4 1, 3) := by decide +kernel
theorem dX9_firstOf_93 : decode cX9_firstOf 93 = .ok (.goto (-75), 3) := by decide +kernel
theorem dX9_firstOf_96 : decode cX9_firstOf 96 = .ok (.iinc 3 1, 3) := by decide +kernel
theorem dX9_firstOf_99 : decode cX9_firstOf 99 = .ok (.goto (-92), 3) := by decide +kernel
theorem dX9_firstOf_102 : decode cX9_firstOf 102 = .ok (.bipush (-9), 2) := by decide +kernel
theorem dX9_firstOf_104 : decode cX9_firstOf 104 = .ok (.ireturn, 1) := by decide +kernel
set_option maxRecDepth 20000 in
theorem ggX9_law_X9_in : GoodIn wsX9_law wsX9_in := goodIn_r _ [4] (by decide +kernel) (by decide +kernel)
set_option maxRecDepth 20000 in
theorem gX9_law_X9_in : GoodIn wsX9_law (va_wsS RX9 47 yX9_in wsX9_in) := goodIn_app (goodIn_of _ (by decide +kernel)) ggX9_law_X9_in
set_option maxRecDepth 20000 in
theorem ggX9_law_X9_firstOf : GoodIn wsX9_law wsX9_firstOf := goodIn_r _ [8, 9, 10, 3, 11, 12, 13, 14, 15, 16, 17, 18, 19, 20, 21, 22, 23, 24, 25, 26, 27, 28, 29, 30, 31, 32, 33, 34, 35, 36, 37, 38, 39, 40, 41, 42, 43, 44, 45, 46, 47, 48, 49] (by decide +kernel) (by decide +kernel)
set_option maxRecDepth 20000 in
theorem gX9_law_X9_firstOf : GoodIn wsX9_law (wsV RX9 136 RX9 yX9_firstOf wsX9_firstOf) := goodIn_app (goodIn_of _ (by decide +kernel)) ggX9_law_X9_firstOf
theorem dX9_law_0 : decode cX9_law 0 = .ok (.iload_n 1, 1) := by decide +kernel
theorem dX9_law_1 : decode cX9_law 1 = .ok (.iconst 0, 1) := by decide +kernel
theorem dX9_law_2 : decode cX9_law 2 = .ok (.bipush 6, 2) := by decide +kernel
theorem dX9_law_4 : decode cX9_law 4 = .ok (.invokestatic 47, 3) := by decide +kernel
theorem dX9_law_7 : decode cX9_law 7 = .ok (.ifCond .eq 11, 3) := by decide +kernel
theorem dX9_law_10 : decode cX9_law 10 = .ok (.aload_n 0, 1) := by decide +kernel
theorem dX9_law_11 : decode cX9_law 11 = .ok (.iload_n 1, 1) := by decide +kernel
theorem dX9_law_12 : decode cX9_law 12 = .ok (.invokevirtual 136, 3) := by decide +kernel
theorem dX9_law_15 : decode cX9_law 15 = .ok (.goto 5, 3) := by decide +kernel
theorem dX9_law_18 : decode cX9_law 18 = .ok (.bipush (-2), 2) := by decide +kernel
theorem dX9_law_20 : decode cX9_law 20 = .ok (.ireturn, 1) := by decide +kernel
set_option maxRecDepth 20000 in
theorem ggX9_change_X9_in : GoodIn wsX9_change wsX9_in := goodIn_r _ [5] (by decide +kernel) (by decide +kernel)
set_option maxRecDepth 20000 in
theorem gX9_change_X9_in : GoodIn wsX9_change (va_wsS RX9 47 yX9_in wsX9_in) := goodIn_app (goodIn_of _ (by decide +kernel)) ggX9_change_X9_in
set_option maxRecDepth 20000 in
theorem ggX9_change_X9_firstOf : GoodIn wsX9_change wsX9_firstOf := goodIn_r _ [9, 10, 11, 4, 12, 13, 14, 15, 16, 1, 17, 18, 19, 20, 21, 22, 23, 24, 25, 26, 27, 28, 29, 30, 31, 32, 33, 34, 35, 36, 37, 38, 39, 40, 41, 42, 43, 44, 45, 46, 47, 48, 49] (by decide +kernel) (by decide +kernel)
set_option maxRecDepth 20000 in
theorem gX9_change_X9_firstOf : GoodIn wsX9_change (wsV RX9 136 RX9 yX9_firstOf wsX9_firstOf) := goodIn_app (goodIn_of _ (by decide +kernel)) ggX9_change_X9_firstOf
set_option maxRecDepth 20000 in
theorem ggX9_change_X9_size : GoodIn wsX9_change wsX9_size := goodIn_r _ [16, 1, 29, 30, 31, 32, 33, 34, 35, 36, 37, 38, 39, 40, 41, 42, 43, 44, 45, 46, 47, 48, 49] (by decide +kernel) (by decide +kernel)
set_option maxRecDepth 20000 in
theorem gX9_change_X9_size : GoodIn wsX9_change (wsV RX9 43 RX9 yX9_size wsX9_size) := goodIn_app (goodIn_of _ (by decide +kernel)) ggX9_change_X9_size
set_option maxRecDepth 20000 in
theorem ggX9_change_X9_ff : GoodIn wsX9_change wsX9_ff := goodIn_r _ [24, 1, 29, 30, 31, 32, 33, 34, 35, 36, 37, 38, 39, 40, 41, 42, 43, 44, 45, 46, 47, 48, 49] (by decide +kernel) (by decide +kernel)
set_option maxRecDepth 20000 in
theorem gX9_change_X9_ff : GoodIn wsX9_change (wsV RX9 106 RX9 yX9_ff wsX9_ff) := goodIn_app (goodIn_of _ (by decide +kernel)) ggX9_change_X9_ff
theorem dX9_change_0 : decode cX9_change 0 = .ok (.iload_n 1, 1) := by decide +kernel
theorem dX9_change_1 : decode cX9_change 1 = .ok (.iconst 0, 1) := by decide +kernel
theorem dX9_change_2 : decode cX9_change 2 = .ok (.bipush 6, 2) := by decide +kernel
theorem dX9_change_4 : decode cX9_change 4 = .ok (.invokestatic 47, 3) := by decide +kernel
theorem dX9_change_7 : decode cX9_change 7 = .ok (.ifCond .ne 6, 3) := by decide +kernel
theorem dX9_change_10 : decode cX9_change 10 = .ok (.bipush (-2), 2) := by decide +kernel
theorem dX9_change_12 : decode cX9_change 12 = .ok (.ireturn, 1) := by decide +kernel
theorem dX9_change_13 : decode cX9_change 13 = .ok (.aload_n 0, 1) := by decide +kernel
theorem dX9_change_14 : decode cX9_change 14 = .ok (.iload_n 1, 1) := by decide +kernel
theorem dX9_change_15 : decode cX9_change 15 = .ok (.invokevirtual 136, 3) := by decide +kernel
theorem dX9_change_18 : decode cX9_change 18 = .ok (.bipush (-9), 2) := by decide +kernel
theorem dX9_change_20 : decode cX9_change 20 = .ok (.if_icmp .ne 5, 3) := by decide +kernel
theorem dX9_change_23 : decode cX9_change 23 = .ok (.iconst (-1), 1) := by decide +kernel
theorem dX9_change_24 : decode cX9_change 24 = .ok (.ireturn, 1) := by decide +kernel
theorem dX9_change_25 : decode cX9_change 25 = .ok (.bipush (-9), 2) := by decide +kernel
theorem dX9_change_27 : decode cX9_change 27 = .ok (.istore_n 2, 1) := by decide +kernel
theorem dX9_change_28 : decode cX9_change 28 = .ok (.iconst 0, 1) := by decide +kernel
theorem dX9_change_29 : decode cX9_change 29 = .ok (.istore_n 3, 1) := by decide +kernel
theorem dX9_change_30 : decode cX9_change 30 = .ok (.iload_n 3, 1) := by decide +kernel
theorem dX9_change_31 : decode cX9_change 31 = .ok (.aload_n 0, 1) := by decide +kernel
theorem dX9_change_32 : decode cX9_change 32 = .ok (.invokevirtual 43, 3) := by decide +kernel
theorem dX9_change_35 : decode cX9_change 35 = .ok (.if_icmp .ge 114, 3) := by decide +kernel
theorem dX9_change_38 : decode cX9_change 38 = .ok (.iconst 0, 1) := by decide +kernel
theorem dX9_change_39 : decode cX9_change 39 = .ok (.istore 4, 2) := by decide +kernel
theorem dX9_change_41 : decode cX9_change 41 = .ok (.iload 4, 2) := by decide +kernel
theorem dX9_change_43 : decode cX9_change 43 = .ok (.aload_n 0, 1) := by decide +kernel
theorem dX9_change_44 : decode cX9_change 44 = .ok (.invokevirtual 43, 3) := by decide +kernel
theorem dX9_change_47 : decode cX9_change 47 = .ok (.if_icmp .ge 96, 3) := by decide +kernel
theorem dX9_change_50 : decode cX9_change 50 = .ok (.aload_n 0, 1) := by decide +kernel
theorem dX9_change_51 : decode cX9_change 51 = .ok (.iload_n 3, 1) := by decide +kernel
theorem dX9_change_52 : decode cX9_change 52 = .ok (.iload 4, 2) := by decide +kernel
theorem dX9_change_54 : decode cX9_change 54 = .ok (.invokevirtual 106, 3) := by decide +kernel
theorem dX9_change_57 : decode cX9_change 57 = .ok (.istore 5, 2) := by decide +kernel
theorem dX9_change_59 : decode cX9_change 59 = .ok (.iconst 0, 1) := by decide +kernel
theorem dX9_change_60 : decode cX9_change 60 = .ok (.istore 6, 2) := by decide +kernel
theorem dX9_change_62 : decode cX9_change 62 = .ok (.iload 6, 2) := by decide +kernel
theorem dX9_change_64 : decode cX9_change 64 = .ok (.aload_n 0, 1) := by decide +kernel
theorem dX9_change_65 : decode cX9_change 65 = .ok (.invokevirtual 43, 3) := by decide +kernel
theorem dX9_change_68 : decode cX9_change 68 = .ok (.if_icmp .ge 56, 3) := by decide +kernel
theorem dX9_change_71 : decode cX9_change 71 = .ok (.aload_n 0, 1) := by decide +kernel
theorem dX9_change_72 : decode cX9_change 72 = .ok (.getfield 7, 3) := by decide +kernel
theorem dX9_change_75 : decode cX9_change 75 = .ok (.iconst 4, 1) := by decide +kernel
theorem dX9_change_76 : decode cX9_change 76 = .ok (.iload_n 3, 1) := by decide +kernel
theorem dX9_change_77 : decode cX9_change 77 = .ok (.imul, 1) := by decide +kernel
theorem dX9_change_78 : decode cX9_change 78 = .ok (.iload 4, 2) := by decide +kernel
theorem dX9_change_80 : decode cX9_change 80 = .ok (.iadd, 1) := by decide +kernel
theorem dX9_change_81 : decode cX9_change 81 = .ok (.iload 6, 2) := by decide +kernel
theorem dX9_change_83 : decode cX9_change 83 = .ok (.iastore, 1) := by decide +kernel
theorem dX9_change_84 : decode cX9_change 84 = .ok (.iload_n 2, 1) := by decide +kernel
theorem dX9_change_85 : decode cX9_change 85 = .ok (.bipush (-9), 2) := by decide +kernel
theorem dX9_change_87 : decode cX9_change 87 = .ok (.if_icmp .ne 29, 3) := by decide +kernel
theorem dX9_change_90 : decode cX9_change 90 = .ok (.aload_n 0, 1) := by decide +kernel
theorem dX9_change_91 : decode cX9_change 91 = .ok (.iload_n 1, 1) := by decide +kernel
theorem dX9_change_92 : decode cX9_change 92 = .ok (.invokevirtual 136, 3) := by decide +kernel
theorem dX9_change_95 : decode cX9_change 95 = .ok (.bipush (-9), 2) := by decide +kernel
theorem dX9_change_97 : decode cX9_change 97 = .ok (.if_icmp .ne 19, 3) := by decide +kernel
theorem dX9_change_100 : decode cX9_change 100 = .ok (.bipush 100, 2) := by decide +kernel
theorem dX9_change_102 : decode cX9_change 102 = .ok (.iload_n 3, 1) := by decide +kernel
theorem dX9_change_103 : decode cX9_change 103 = .ok (.imul, 1) := by decide +kernel
theorem dX9_change_104 : decode cX9_change 104 = .ok (.bipush 10, 2) := by decide +kernel
theorem dX9_change_106 : decode cX9_change 106 = .ok (.iload 4, 2) := by decide +kernel
theorem dX9_change_108 : decode cX9_change 108 = .ok (.imul, 1) := by decide +kernel
theorem dX9_change_109 : decode cX9_change 109 = .ok (.iadd, 1) := by decide +kernel
theorem dX9_change_110 : decode cX9_change 110 = .ok (.iload 6, 2) := by decide +kernel
theorem dX9_change_112 : decode cX9_change 112 = .ok (.iadd, 1) := by decide +kernel
theorem dX9_change_113 : decode cX9_change 113 = .ok (.goto 4, 3) := by decide +kernel
theorem dX9_change_116 : decode cX9_change 116 = .ok (.iload_n 2, 1) := by decide +kernel
theorem dX9_change_117 : decode cX9_change 117 = .ok (.istore_n 2, 1) := by decide +kernel
theorem dX9_change_118 : decode cX9_change 118 = .ok (.iinc 6 1, 3) := by decide +kernel
theorem dX9_change_121 : decode cX9_change 121 = .ok (.goto (-59), 3) := by decide +kernel
theorem dX9_change_124 : decode cX9_change 124 = .ok (.aload_n 0, 1) := by decide +kernel
theorem dX9_change_125 : decode cX9_change 125 = .ok (.getfield 7, 3) := by decide +kernel
theorem dX9_change_128 : decode cX9_change 128 = .ok (.iconst 4, 1) := by decide +kernel
theorem dX9_change_129 : decode cX9_change 129 = .ok (.iload_n 3, 1) := by decide +kernel
theorem dX9_change_130 : decode cX9_change 130 = .ok (.imul, 1) := by decide +kernel
theorem dX9_change_131 : decode cX9_change 131 = .ok (.iload 4, 2) := by decide +kernel
theorem dX9_change_133 : decode cX9_change 133 = .ok (.iadd, 1) := by decide +kernel
theorem dX9_change_134 : decode cX9_change 134 = .ok (.iload 5, 2) := by decide +kernel
theorem dX9_change_136 : decode cX9_change 136 = .ok (.iastore, 1) := by decide +kernel
theorem dX9_change_137 : decode cX9_change 137 = .ok (.iinc 4 1, 3) := by decide +kernel
theorem dX9_change_140 : decode cX9_change 140 = .ok (.goto (-99), 3) := by decide +kernel
theorem dX9_change_143 : decode cX9_change 143 = .ok (.iinc 3 1, 3) := by decide +kernel
theorem dX9_change_146 : decode cX9_change 146 = .ok (.goto (-116), 3) := by decide +kernel
theorem dX9_change_149 : decode cX9_change 149 = .ok (.iload_n 2, 1) := by decide +kernel
theorem dX9_change_150 : decode cX9_change 150 = .ok (.ireturn, 1) := by decide +kernel
theorem dX9_figureOf_0 : decode cX9_figureOf 0 = .ok (.iload_n 0, 1) := by decide +kernel
theorem dX9_figureOf_1 : decode cX9_figureOf 1 = .ok (.iconst 2, 1) := by decide +kernel
theorem dX9_figureOf_2 : decode cX9_figureOf 2 = .ok (.iconst 3, 1) := by decide +kernel
theorem dX9_figureOf_3 : decode cX9_figureOf 3 = .ok (.iload_n 1, 1) := by decide +kernel
theorem dX9_figureOf_4 : decode cX9_figureOf 4 = .ok (.isub, 1) := by decide +kernel
theorem dX9_figureOf_5 : decode cX9_figureOf 5 = .ok (.imul, 1) := by decide +kernel
theorem dX9_figureOf_6 : decode cX9_figureOf 6 = .ok (.ishr, 1) := by decide +kernel
theorem dX9_figureOf_7 : decode cX9_figureOf 7 = .ok (.iconst 3, 1) := by decide +kernel
theorem dX9_figureOf_8 : decode cX9_figureOf 8 = .ok (.iand, 1) := by decide +kernel
theorem dX9_figureOf_9 : decode cX9_figureOf 9 = .ok (.ireturn, 1) := by decide +kernel
set_option maxRecDepth 20000 in
theorem ggX9_isWith_X9_figureOf : GoodIn wsX9_isWith wsX9_figureOf := goodIn_r _ [4] (by decide +kernel) (by decide +kernel)
set_option maxRecDepth 20000 in
theorem gX9_isWith_X9_figureOf : GoodIn wsX9_isWith (va_wsS RX9 139 yX9_figureOf wsX9_figureOf) := goodIn_app (goodIn_of _ (by decide +kernel)) ggX9_isWith_X9_figureOf
theorem dX9_isWith_0 : decode cX9_isWith 0 = .ok (.iload_n 1, 1) := by decide +kernel
theorem dX9_isWith_1 : decode cX9_isWith 1 = .ok (.iload_n 2, 1) := by decide +kernel
theorem dX9_isWith_2 : decode cX9_isWith 2 = .ok (.invokestatic 139, 3) := by decide +kernel
theorem dX9_isWith_5 : decode cX9_isWith 5 = .ok (.iload_n 1, 1) := by decide +kernel
theorem dX9_isWith_6 : decode cX9_isWith 6 = .ok (.iload_n 3, 1) := by decide +kernel
theorem dX9_isWith_7 : decode cX9_isWith 7 = .ok (.invokestatic 139, 3) := by decide +kernel
theorem dX9_isWith_10 : decode cX9_isWith 10 = .ok (.if_icmp .ne 7, 3) := by decide +kernel
theorem dX9_isWith_13 : decode cX9_isWith 13 = .ok (.iconst 1, 1) := by decide +kernel
theorem dX9_isWith_14 : decode cX9_isWith 14 = .ok (.goto 4, 3) := by decide +kernel
theorem dX9_isWith_17 : decode cX9_isWith 17 = .ok (.iconst 0, 1) := by decide +kernel
theorem dX9_isWith_18 : decode cX9_isWith 18 = .ok (.ireturn, 1) := by decide +kernel
set_option maxRecDepth 20000 in
theorem ggX9_isPartition_X9_figureOf : GoodIn wsX9_isPartition wsX9_figureOf := goodIn_r _ [4] (by decide +kernel) (by decide +kernel)
set_option maxRecDepth 20000 in
theorem gX9_isPartition_X9_figureOf : GoodIn wsX9_isPartition (va_wsS RX9 139 yX9_figureOf wsX9_figureOf) := goodIn_app (goodIn_of _ (by decide +kernel)) ggX9_isPartition_X9_figureOf
set_option maxRecDepth 20000 in
theorem ggX9_isPartition_X9_size : GoodIn wsX9_isPartition wsX9_size := goodIn_r _ [8, 9, 10, 11, 12, 13, 14, 15, 16, 17, 18, 19, 20, 21, 22, 23, 24, 25, 26, 27, 28, 29, 30] (by decide +kernel) (by decide +kernel)
set_option maxRecDepth 20000 in
theorem gX9_isPartition_X9_size : GoodIn wsX9_isPartition (wsV RX9 43 RX9 yX9_size wsX9_size) := goodIn_app (goodIn_of _ (by decide +kernel)) ggX9_isPartition_X9_size
theorem dX9_isPartition_0 : decode cX9_isPartition 0 = .ok (.iconst 1, 1) := by decide +kernel
theorem dX9_isPartition_1 : decode cX9_isPartition 1 = .ok (.istore_n 2, 1) := by decide +kernel
theorem dX9_isPartition_2 : decode cX9_isPartition 2 = .ok (.iconst 0, 1) := by decide +kernel
theorem dX9_isPartition_3 : decode cX9_isPartition 3 = .ok (.istore_n 3, 1) := by decide +kernel
theorem dX9_isPartition_4 : decode cX9_isPartition 4 = .ok (.iload_n 3, 1) := by decide +kernel
theorem dX9_isPartition_5 : decode cX9_isPartition 5 = .ok (.iconst 4, 1) := by decide +kernel
theorem dX9_isPartition_6 : decode cX9_isPartition 6 = .ok (.if_icmp .ge 59, 3) := by decide +kernel
theorem dX9_isPartition_9 : decode cX9_isPartition 9 = .ok (.iload_n 1, 1) := by decide +kernel
theorem dX9_isPartition_10 : decode cX9_isPartition 10 = .ok (.iload_n 3, 1) := by decide +kernel
theorem dX9_isPartition_11 : decode cX9_isPartition 11 = .ok (.invokestatic 139, 3) := by decide +kernel
theorem dX9_isPartition_14 : decode cX9_isPartition 14 = .ok (.istore 4, 2) := by decide +kernel
theorem dX9_isPartition_16 : decode cX9_isPartition 16 = .ok (.iload_n 2, 1) := by decide +kernel
theorem dX9_isPartition_17 : decode cX9_isPartition 17 = .ok (.ifCond .eq 40, 3) := by decide +kernel
theorem dX9_isPartition_20 : decode cX9_isPartition 20 = .ok (.iload_n 3, 1) := by decide +kernel
theorem dX9_isPartition_21 : decode cX9_isPartition 21 = .ok (.aload_n 0, 1) := by decide +kernel
theorem dX9_isPartition_22 : decode cX9_isPartition 22 = .ok (.invokevirtual 43, 3) := by decide +kernel
theorem dX9_isPartition_25 : decode cX9_isPartition 25 = .ok (.if_icmp .ge 23, 3) := by decide +kernel
theorem dX9_isPartition_28 : decode cX9_isPartition 28 = .ok (.iload 4, 2) := by decide +kernel
theorem dX9_isPartition_30 : decode cX9_isPartition 30 = .ok (.iload_n 3, 1) := by decide +kernel
theorem dX9_isPartition_31 : decode cX9_isPartition 31 = .ok (.if_icmp .gt 26, 3) := by decide +kernel
theorem dX9_isPartition_34 : decode cX9_isPartition 34 = .ok (.iload_n 1, 1) := by decide +kernel
theorem dX9_isPartition_35 : decode cX9_isPartition 35 = .ok (.iload 4, 2) := by decide +kernel
theorem dX9_isPartition_37 : decode cX9_isPartition 37 = .ok (.invokestatic 139, 3) := by decide +kernel
theorem dX9_isPartition_40 : decode cX9_isPartition 40 = .ok (.iload 4, 2) := by decide +kernel
theorem dX9_isPartition_42 : decode cX9_isPartition 42 = .ok (.if_icmp .ne 15, 3) := by decide +kernel
theorem dX9_isPartition_45 : decode cX9_isPartition 45 = .ok (.goto 8, 3) := by decide +kernel
theorem dX9_isPartition_48 : decode cX9_isPartition 48 = .ok (.iload 4, 2) := by decide +kernel
theorem dX9_isPartition_50 : decode cX9_isPartition 50 = .ok (.ifCond .ne 7, 3) := by decide +kernel
theorem dX9_isPartition_53 : decode cX9_isPartition 53 = .ok (.iconst 1, 1) := by decide +kernel
theorem dX9_isPartition_54 : decode cX9_isPartition 54 = .ok (.goto 4, 3) := by decide +kernel
theorem dX9_isPartition_57 : decode cX9_isPartition 57 = .ok (.iconst 0, 1) := by decide +kernel
theorem dX9_isPartition_58 : decode cX9_isPartition 58 = .ok (.istore_n 2, 1) := by decide +kernel
theorem dX9_isPartition_59 : decode cX9_isPartition 59 = .ok (.iinc 3 1, 3) := by decide +kernel
theorem dX9_isPartition_62 : decode cX9_isPartition 62 = .ok (.goto (-58), 3) := by decide +kernel
theorem dX9_isPartition_65 : decode cX9_isPartition 65 = .ok (.iload_n 2, 1) := by decide +kernel
theorem dX9_isPartition_66 : decode cX9_isPartition 66 = .ok (.ireturn, 1) := by decide +kernel
set_option maxRecDepth 20000 in
theorem ggX9_goesAlong_X9_size : GoodIn wsX9_goesAlong wsX9_size := goodIn_r _ [5, 6, 22, 23, 24, 25, 26, 27, 28, 29, 30, 31, 32, 33, 34, 35, 36, 37, 38, 39, 40, 41, 42] (by decide +kernel) (by decide +kernel)
set_option maxRecDepth 20000 in
theorem gX9_goesAlong_X9_size : GoodIn wsX9_goesAlong (wsV RX9 43 RX9 yX9_size wsX9_size) := goodIn_app (goodIn_of _ (by decide +kernel)) ggX9_goesAlong_X9_size
set_option maxRecDepth 20000 in
theorem ggX9_goesAlong_X9_isWith : GoodIn wsX9_goesAlong wsX9_isWith := goodIn_r _ [10, 11, 12, 4, 13] (by decide +kernel) (by decide +kernel)
set_option maxRecDepth 20000 in
theorem gX9_goesAlong_X9_isWith : GoodIn wsX9_goesAlong (wsV RX9 142 RX9 yX9_isWith wsX9_isWith) := goodIn_app (goodIn_of _ (by decide +kernel)) ggX9_goesAlong_X9_isWith
set_option maxRecDepth 20000 in
theorem ggX9_goesAlong_X9_gg : GoodIn wsX9_goesAlong wsX9_gg := goodIn_r _ [17, 6, 22, 23, 24, 25, 26, 27, 28, 29, 30, 31, 32, 33, 34, 35, 36, 37, 38, 39, 40, 41, 42] (by decide +kernel) (by decide +kernel)
set_option maxRecDepth 20000 in
theorem gX9_goesAlong_X9_gg : GoodIn wsX9_goesAlong (wsV RX9 110 RX9 yX9_gg wsX9_gg) := goodIn_app (goodIn_of _ (by decide +kernel)) ggX9_goesAlong_X9_gg
set_option maxRecDepth 20000 in
theorem ggX9_goesAlong_X9_ff : GoodIn wsX9_goesAlong wsX9_ff := goodIn_r _ [21, 6, 22, 23, 24, 25, 26, 27, 28, 29, 30, 31, 32, 33, 34, 35, 36, 37, 38, 39, 40, 41, 42] (by decide +kernel) (by decide +kernel)
set_option maxRecDepth 20000 in
theorem gX9_goesAlong_X9_ff : GoodIn wsX9_goesAlong (wsV RX9 106 RX9 yX9_ff wsX9_ff) := goodIn_app (goodIn_of _ (by decide +kernel)) ggX9_goesAlong_X9_ff
theorem dX9_goesAlong_0 : decode cX9_goesAlong 0 = .ok (.iconst 0, 1) := by decide +kernel
theorem dX9_goesAlong_1 : decode cX9_goesAlong 1 = .ok (.istore_n 2, 1) := by decide +kernel
theorem dX9_goesAlong_2 : decode cX9_goesAlong 2 = .ok (.iload_n 2, 1) := by decide +kernel
theorem dX9_goesAlong_3 : decode cX9_goesAlong 3 = .ok (.aload_n 0, 1) := by decide +kernel
theorem dX9_goesAlong_4 : decode cX9_goesAlong 4 = .ok (.invokevirtual 43, 3) := by decide +kernel
theorem dX9_goesAlong_7 : decode cX9_goesAlong 7 = .ok (.if_icmp .ge 133, 3) := by decide +kernel
theorem dX9_goesAlong_10 : decode cX9_goesAlong 10 = .ok (.iconst 0, 1) := by decide +kernel
theorem dX9_goesAlong_11 : decode cX9_goesAlong 11 = .ok (.istore_n 3, 1) := by decide +kernel
theorem dX9_goesAlong_12 : decode cX9_goesAlong 12 = .ok (.iload_n 3, 1) := by decide +kernel
theorem dX9_goesAlong_13 : decode cX9_goesAlong 13 = .ok (.aload_n 0, 1) := by decide +kernel
theorem dX9_goesAlong_14 : decode cX9_goesAlong 14 = .ok (.invokevirtual 43, 3) := by decide +kernel
theorem dX9_goesAlong_17 : decode cX9_goesAlong 17 = .ok (.if_icmp .ge 117, 3) := by decide +kernel
theorem dX9_goesAlong_20 : decode cX9_goesAlong 20 = .ok (.aload_n 0, 1) := by decide +kernel
theorem dX9_goesAlong_21 : decode cX9_goesAlong 21 = .ok (.iload_n 1, 1) := by decide +kernel
theorem dX9_goesAlong_22 : decode cX9_goesAlong 22 = .ok (.iload_n 2, 1) := by decide +kernel
theorem dX9_goesAlong_23 : decode cX9_goesAlong 23 = .ok (.iload_n 3, 1) := by decide +kernel
theorem dX9_goesAlong_24 : decode cX9_goesAlong 24 = .ok (.invokevirtual 142, 3) := by decide +kernel
theorem dX9_goesAlong_27 : decode cX9_goesAlong 27 = .ok (.ifCond .eq 101, 3) := by decide +kernel
theorem dX9_goesAlong_30 : decode cX9_goesAlong 30 = .ok (.aload_n 0, 1) := by decide +kernel
theorem dX9_goesAlong_31 : decode cX9_goesAlong 31 = .ok (.iload_n 1, 1) := by decide +kernel
theorem dX9_goesAlong_32 : decode cX9_goesAlong 32 = .ok (.aload_n 0, 1) := by decide +kernel
theorem dX9_goesAlong_33 : decode cX9_goesAlong 33 = .ok (.iload_n 2, 1) := by decide +kernel
theorem dX9_goesAlong_34 : decode cX9_goesAlong 34 = .ok (.invokevirtual 110, 3) := by decide +kernel
theorem dX9_goesAlong_37 : decode cX9_goesAlong 37 = .ok (.aload_n 0, 1) := by decide +kernel
theorem dX9_goesAlong_38 : decode cX9_goesAlong 38 = .ok (.iload_n 3, 1) := by decide +kernel
theorem dX9_goesAlong_39 : decode cX9_goesAlong 39 = .ok (.invokevirtual 110, 3) := by decide +kernel
theorem dX9_goesAlong_42 : decode cX9_goesAlong 42 = .ok (.invokevirtual 142, 3) := by decide +kernel
theorem dX9_goesAlong_45 : decode cX9_goesAlong 45 = .ok (.istore 4, 2) := by decide +kernel
theorem dX9_goesAlong_47 : decode cX9_goesAlong 47 = .ok (.iconst 0, 1) := by decide +kernel
theorem dX9_goesAlong_48 : decode cX9_goesAlong 48 = .ok (.istore 5, 2) := by decide +kernel
theorem dX9_goesAlong_50 : decode cX9_goesAlong 50 = .ok (.iload 5, 2) := by decide +kernel
theorem dX9_goesAlong_52 : decode cX9_goesAlong 52 = .ok (.aload_n 0, 1) := by decide +kernel
theorem dX9_goesAlong_53 : decode cX9_goesAlong 53 = .ok (.invokevirtual 43, 3) := by decide +kernel
theorem dX9_goesAlong_56 : decode cX9_goesAlong 56 = .ok (.if_icmp .ge 65, 3) := by decide +kernel
theorem dX9_goesAlong_59 : decode cX9_goesAlong 59 = .ok (.iload 4, 2) := by decide +kernel
theorem dX9_goesAlong_61 : decode cX9_goesAlong 61 = .ok (.ifCond .eq 51, 3) := by decide +kernel
theorem dX9_goesAlong_64 : decode cX9_goesAlong 64 = .ok (.aload_n 0, 1) := by decide +kernel
theorem dX9_goesAlong_65 : decode cX9_goesAlong 65 = .ok (.iload_n 1, 1) := by decide +kernel
theorem dX9_goesAlong_66 : decode cX9_goesAlong 66 = .ok (.aload_n 0, 1) := by decide +kernel
theorem dX9_goesAlong_67 : decode cX9_goesAlong 67 = .ok (.iload_n 2, 1) := by decide +kernel
theorem dX9_goesAlong_68 : decode cX9_goesAlong 68 = .ok (.iload 5, 2) := by decide +kernel
theorem dX9_goesAlong_70 : decode cX9_goesAlong 70 = .ok (.invokevirtual 106, 3) := by decide +kernel
theorem dX9_goesAlong_73 : decode cX9_goesAlong 73 = .ok (.aload_n 0, 1) := by decide +kernel
theorem dX9_goesAlong_74 : decode cX9_goesAlong 74 = .ok (.iload_n 3, 1) := by decide +kernel
theorem dX9_goesAlong_75 : decode cX9_goesAlong 75 = .ok (.iload 5, 2) := by decide +kernel
theorem dX9_goesAlong_77 : decode cX9_goesAlong 77 = .ok (.invokevirtual 106, 3) := by decide +kernel
theorem dX9_goesAlong_80 : decode cX9_goesAlong 80 = .ok (.invokevirtual 142, 3) := by decide +kernel
theorem dX9_goesAlong_83 : decode cX9_goesAlong 83 = .ok (.ifCond .eq 29, 3) := by decide +kernel
theorem dX9_goesAlong_86 : decode cX9_goesAlong 86 = .ok (.aload_n 0, 1) := by decide +kernel
theorem dX9_goesAlong_87 : decode cX9_goesAlong 87 = .ok (.iload_n 1, 1) := by decide +kernel
theorem dX9_goesAlong_88 : decode cX9_goesAlong 88 = .ok (.aload_n 0, 1) := by decide +kernel
theorem dX9_goesAlong_89 : decode cX9_goesAlong 89 = .ok (.iload 5, 2) := by decide +kernel
theorem dX9_goesAlong_91 : decode cX9_goesAlong 91 = .ok (.iload_n 2, 1) := by decide +kernel
theorem dX9_goesAlong_92 : decode cX9_goesAlong 92 = .ok (.invokevirtual 106, 3) := by decide +kernel
theorem dX9_goesAlong_95 : decode cX9_goesAlong 95 = .ok (.aload_n 0, 1) := by decide +kernel
theorem dX9_goesAlong_96 : decode cX9_goesAlong 96 = .ok (.iload 5, 2) := by decide +kernel
theorem dX9_goesAlong_98 : decode cX9_goesAlong 98 = .ok (.iload_n 3, 1) := by decide +kernel
theorem dX9_goesAlong_99 : decode cX9_goesAlong 99 = .ok (.invokevirtual 106, 3) := by decide +kernel
theorem dX9_goesAlong_102 : decode cX9_goesAlong 102 = .ok (.invokevirtual 142, 3) := by decide +kernel
theorem dX9_goesAlong_105 : decode cX9_goesAlong 105 = .ok (.ifCond .eq 7, 3) := by decide +kernel
theorem dX9_goesAlong_108 : decode cX9_goesAlong 108 = .ok (.iconst 1, 1) := by decide +kernel
theorem dX9_goesAlong_109 : decode cX9_goesAlong 109 = .ok (.goto 4, 3) := by decide +kernel
theorem dX9_goesAlong_112 : decode cX9_goesAlong 112 = .ok (.iconst 0, 1) := by decide +kernel
theorem dX9_goesAlong_113 : decode cX9_goesAlong 113 = .ok (.istore 4, 2) := by decide +kernel
theorem dX9_goesAlong_115 : decode cX9_goesAlong 115 = .ok (.iinc 5 1, 3) := by decide +kernel
theorem dX9_goesAlong_118 : decode cX9_goesAlong 118 = .ok (.goto (-68), 3) := by decide +kernel
theorem dX9_goesAlong_121 : decode cX9_goesAlong 121 = .ok (.iload 4, 2) := by decide +kernel
theorem dX9_goesAlong_123 : decode cX9_goesAlong 123 = .ok (.ifCond .ne 5, 3) := by decide +kernel
theorem dX9_goesAlong_126 : decode cX9_goesAlong 126 = .ok (.iconst 0, 1) := by decide +kernel
theorem dX9_goesAlong_127 : decode cX9_goesAlong 127 = .ok (.ireturn, 1) := by decide +kernel
theorem dX9_goesAlong_128 : decode cX9_goesAlong 128 = .ok (.iinc 3 1, 3) := by decide +kernel
theorem dX9_goesAlong_131 : decode cX9_goesAlong 131 = .ok (.goto (-119), 3) := by decide +kernel
theorem dX9_goesAlong_134 : decode cX9_goesAlong 134 = .ok (.iinc 2 1, 3) := by decide +kernel
theorem dX9_goesAlong_137 : decode cX9_goesAlong 137 = .ok (.goto (-135), 3) := by decide +kernel
theorem dX9_goesAlong_140 : decode cX9_goesAlong 140 = .ok (.iconst 1, 1) := by decide +kernel
theorem dX9_goesAlong_141 : decode cX9_goesAlong 141 = .ok (.ireturn, 1) := by decide +kernel
set_option maxRecDepth 20000 in
theorem ggX9_layCongruences_X9_isPartition : GoodIn wsX9_layCongruences wsX9_isPartition := goodIn_r _ [7, 8, 9, 6, 10, 11, 12, 13, 14, 15, 32, 33, 34, 35, 36, 37, 38, 39, 40, 41, 42, 43, 44, 45, 46, 47, 48, 49, 50, 51, 52] (by decide +kernel) (by decide +kernel)
set_option maxRecDepth 20000 in
theorem gX9_layCongruences_X9_isPartition : GoodIn wsX9_layCongruences (wsV RX9 148 RX9 yX9_isPartition wsX9_isPartition) := goodIn_app (goodIn_of _ (by decide +kernel)) ggX9_layCongruences_X9_isPartition
set_option maxRecDepth 20000 in
theorem ggX9_layCongruences_X9_goesAlong : GoodIn wsX9_layCongruences wsX9_goesAlong := goodIn_r _ [19, 11, 12, 13, 6, 14, 15, 20, 21, 22, 23, 8, 9, 10, 24, 25, 26, 27, 28, 29, 30, 31, 32, 33, 34, 35, 36, 37, 38, 39, 40, 41, 42, 43, 44, 45, 46, 47, 48, 49, 50, 51, 52] (by decide +kernel) (by decide +kernel)
set_option maxRecDepth 20000 in
theorem gX9_layCongruences_X9_goesAlong : GoodIn wsX9_layCongruences (wsV RX9 151 RX9 yX9_goesAlong wsX9_goesAlong) := goodIn_app (goodIn_of _ (by decide +kernel)) ggX9_layCongruences_X9_goesAlong
theorem dX9_layCongruences_0 : decode cX9_layCongruences 0 = .ok (.aload_n 0, 1) := by decide +kernel
theorem dX9_layCongruences_1 : decode cX9_layCongruences 1 = .ok (.iconst 0, 1) := by decide +kernel
theorem dX9_layCongruences_2 : decode cX9_layCongruences 2 = .ok (.putfield 145, 3) := by decide +kernel
theorem dX9_layCongruences_5 : decode cX9_layCongruences 5 = .ok (.iconst 0, 1) := by decide +kernel
theorem dX9_layCongruences_6 : decode cX9_layCongruences 6 = .ok (.istore_n 1, 1) := by decide +kernel
theorem dX9_layCongruences_7 : decode cX9_layCongruences 7 = .ok (.iload_n 1, 1) := by decide +kernel
theorem dX9_layCongruences_8 : decode cX9_layCongruences 8 = .ok (.sipush 256, 3) := by decide +kernel
theorem dX9_layCongruences_11 : decode cX9_layCongruences 11 = .ok (.if_icmp .ge 45, 3) := by decide +kernel
theorem dX9_layCongruences_14 : decode cX9_layCongruences 14 = .ok (.aload_n 0, 1) := by decide +kernel
theorem dX9_layCongruences_15 : decode cX9_layCongruences 15 = .ok (.iload_n 1, 1) := by decide +kernel
theorem dX9_layCongruences_16 : decode cX9_layCongruences 16 = .ok (.invokevirtual 148, 3) := by decide +kernel
theorem dX9_layCongruences_19 : decode cX9_layCongruences 19 = .ok (.ifCond .eq 31, 3) := by decide +kernel
theorem dX9_layCongruences_22 : decode cX9_layCongruences 22 = .ok (.aload_n 0, 1) := by decide +kernel
theorem dX9_layCongruences_23 : decode cX9_layCongruences 23 = .ok (.iload_n 1, 1) := by decide +kernel
theorem dX9_layCongruences_24 : decode cX9_layCongruences 24 = .ok (.invokevirtual 151, 3) := by decide +kernel
theorem dX9_layCongruences_27 : decode cX9_layCongruences 27 = .ok (.ifCond .eq 23, 3) := by decide +kernel
theorem dX9_layCongruences_30 : decode cX9_layCongruences 30 = .ok (.aload_n 0, 1) := by decide +kernel
theorem dX9_layCongruences_31 : decode cX9_layCongruences 31 = .ok (.getfield 32, 3) := by decide +kernel
theorem dX9_layCongruences_34 : decode cX9_layCongruences 34 = .ok (.aload_n 0, 1) := by decide +kernel
theorem dX9_layCongruences_35 : decode cX9_layCongruences 35 = .ok (.getfield 145, 3) := by decide +kernel
theorem dX9_layCongruences_38 : decode cX9_layCongruences 38 = .ok (.iload_n 1, 1) := by decide +kernel
theorem dX9_layCongruences_39 : decode cX9_layCongruences 39 = .ok (.iastore, 1) := by decide +kernel
theorem dX9_layCongruences_40 : decode cX9_layCongruences 40 = .ok (.aload_n 0, 1) := by decide +kernel
theorem dX9_layCongruences_41 : decode cX9_layCongruences 41 = .ok (.dup, 1) := by decide +kernel
theorem dX9_layCongruences_42 : decode cX9_layCongruences 42 = .ok (.getfield 145, 3) := by decide +kernel
theorem dX9_layCongruences_45 : decode cX9_layCongruences 45 = .ok (.iconst 1, 1) := by decide +kernel
theorem dX9_layCongruences_46 : decode cX9_layCongruences 46 = .ok (.iadd, 1) := by decide +kernel
theorem dX9_layCongruences_47 : decode cX9_layCongruences 47 = .ok (.putfield 145, 3) := by decide +kernel
theorem dX9_layCongruences_50 : decode cX9_layCongruences 50 = .ok (.iinc 1 1, 3) := by decide +kernel
theorem dX9_layCongruences_53 : decode cX9_layCongruences 53 = .ok (.goto (-46), 3) := by decide +kernel
theorem dX9_layCongruences_56 : decode cX9_layCongruences 56 = .ok (.return_, 1) := by decide +kernel
set_option maxRecDepth 20000 in
theorem ggX9_nameOf_X9_size : GoodIn wsX9_nameOf wsX9_size := goodIn_r _ [5, 6, 10, 11, 12, 13, 14, 15, 16, 17, 18, 19, 20, 21, 22, 23, 24, 25, 26, 27, 28, 29, 30] (by decide +kernel) (by decide +kernel)
set_option maxRecDepth 20000 in
theorem gX9_nameOf_X9_size : GoodIn wsX9_nameOf (wsV RX9 43 RX9 yX9_size wsX9_size) := goodIn_app (goodIn_of _ (by decide +kernel)) ggX9_nameOf_X9_size
set_option maxRecDepth 20000 in
theorem ggX9_nameOf_X9_figureOf : GoodIn wsX9_nameOf wsX9_figureOf := goodIn_r _ [9] (by decide +kernel) (by decide +kernel)
set_option maxRecDepth 20000 in
theorem gX9_nameOf_X9_figureOf : GoodIn wsX9_nameOf (va_wsS RX9 139 yX9_figureOf wsX9_figureOf) := goodIn_app (goodIn_of _ (by decide +kernel)) ggX9_nameOf_X9_figureOf
theorem dX9_nameOf_0 : decode cX9_nameOf 0 = .ok (.iconst 0, 1) := by decide +kernel
theorem dX9_nameOf_1 : decode cX9_nameOf 1 = .ok (.istore_n 2, 1) := by decide +kernel
theorem dX9_nameOf_2 : decode cX9_nameOf 2 = .ok (.iconst 0, 1) := by decide +kernel
theorem dX9_nameOf_3 : decode cX9_nameOf 3 = .ok (.istore_n 3, 1) := by decide +kernel
theorem dX9_nameOf_4 : decode cX9_nameOf 4 = .ok (.iload_n 3, 1) := by decide +kernel
theorem dX9_nameOf_5 : decode cX9_nameOf 5 = .ok (.aload_n 0, 1) := by decide +kernel
theorem dX9_nameOf_6 : decode cX9_nameOf 6 = .ok (.invokevirtual 43, 3) := by decide +kernel
theorem dX9_nameOf_9 : decode cX9_nameOf 9 = .ok (.if_icmp .ge 20, 3) := by decide +kernel
theorem dX9_nameOf_12 : decode cX9_nameOf 12 = .ok (.bipush 10, 2) := by decide +kernel
theorem dX9_nameOf_14 : decode cX9_nameOf 14 = .ok (.iload_n 2, 1) := by decide +kernel
theorem dX9_nameOf_15 : decode cX9_nameOf 15 = .ok (.imul, 1) := by decide +kernel
theorem dX9_nameOf_16 : decode cX9_nameOf 16 = .ok (.iload_n 1, 1) := by decide +kernel
theorem dX9_nameOf_17 : decode cX9_nameOf 17 = .ok (.iload_n 3, 1) := by decide +kernel
theorem dX9_nameOf_18 : decode cX9_nameOf 18 = .ok (.invokestatic 139, 3) := by decide +kernel
theorem dX9_nameOf_21 : decode cX9_nameOf 21 = .ok (.iadd, 1) := by decide +kernel
theorem dX9_nameOf_22 : decode cX9_nameOf 22 = .ok (.istore_n 2, 1) := by decide +kernel
theorem dX9_nameOf_23 : decode cX9_nameOf 23 = .ok (.iinc 3 1, 3) := by decide +kernel
theorem dX9_nameOf_26 : decode cX9_nameOf 26 = .ok (.goto (-22), 3) := by decide +kernel
theorem dX9_nameOf_29 : decode cX9_nameOf 29 = .ok (.iload_n 2, 1) := by decide +kernel
theorem dX9_nameOf_30 : decode cX9_nameOf 30 = .ok (.ireturn, 1) := by decide +kernel
set_option maxRecDepth 20000 in
theorem ggX9_congruence_X9_layCongruences : GoodIn wsX9_congruence wsX9_layCongruences := goodIn_r _ [7, 1, 2, 8, 9, 10, 6, 11, 12, 13, 14, 15, 16, 17, 18, 19, 20, 21, 22, 23, 24, 25, 26, 27, 28, 29, 30, 31, 32, 33, 34, 35, 40, 41, 42, 43, 44, 45, 46, 47, 48, 49, 50, 51, 52, 53, 54, 55, 56, 57, 58, 59, 60] (by decide +kernel) (by decide +kernel)
set_option maxRecDepth 20000 in
theorem gX9_congruence_X9_layCongruences : GoodIn wsX9_congruence (wsV RX9 154 RX9 yX9_layCongruences wsX9_layCongruences) := goodIn_app (goodIn_of _ (by decide +kernel)) ggX9_congruence_X9_layCongruences
set_option maxRecDepth 20000 in
theorem ggX9_congruence_X9_nameOf : GoodIn wsX9_congruence wsX9_nameOf := goodIn_r _ [39, 15, 16, 17, 6, 18, 19, 12, 13, 14, 40, 41, 42, 43, 44, 45, 46, 47, 48, 49, 50, 51, 52, 53, 54, 55, 56, 57, 58, 59, 60] (by decide +kernel) (by decide +kernel)
set_option maxRecDepth 20000 in
theorem gX9_congruence_X9_nameOf : GoodIn wsX9_congruence (wsV RX9 157 RX9 yX9_nameOf wsX9_nameOf) := goodIn_app (goodIn_of _ (by decide +kernel)) ggX9_congruence_X9_nameOf
theorem dX9_congruence_0 : decode cX9_congruence 0 = .ok (.iload_n 1, 1) := by decide +kernel
theorem dX9_congruence_1 : decode cX9_congruence 1 = .ok (.ifCond .ge 6, 3) := by decide +kernel
theorem dX9_congruence_4 : decode cX9_congruence 4 = .ok (.bipush (-2), 2) := by decide +kernel
theorem dX9_congruence_6 : decode cX9_congruence 6 = .ok (.ireturn, 1) := by decide +kernel
theorem dX9_congruence_7 : decode cX9_congruence 7 = .ok (.aload_n 0, 1) := by decide +kernel
theorem dX9_congruence_8 : decode cX9_congruence 8 = .ok (.invokevirtual 154, 3) := by decide +kernel
theorem dX9_congruence_11 : decode cX9_congruence 11 = .ok (.iload_n 1, 1) := by decide +kernel
theorem dX9_congruence_12 : decode cX9_congruence 12 = .ok (.aload_n 0, 1) := by decide +kernel
theorem dX9_congruence_13 : decode cX9_congruence 13 = .ok (.getfield 145, 3) := by decide +kernel
theorem dX9_congruence_16 : decode cX9_congruence 16 = .ok (.if_icmp .ge 16, 3) := by decide +kernel
theorem dX9_congruence_19 : decode cX9_congruence 19 = .ok (.aload_n 0, 1) := by decide +kernel
theorem dX9_congruence_20 : decode cX9_congruence 20 = .ok (.aload_n 0, 1) := by decide +kernel
theorem dX9_congruence_21 : decode cX9_congruence 21 = .ok (.getfield 32, 3) := by decide +kernel
theorem dX9_congruence_24 : decode cX9_congruence 24 = .ok (.iload_n 1, 1) := by decide +kernel
theorem dX9_congruence_25 : decode cX9_congruence 25 = .ok (.iaload, 1) := by decide +kernel
theorem dX9_congruence_26 : decode cX9_congruence 26 = .ok (.invokevirtual 157, 3) := by decide +kernel
theorem dX9_congruence_29 : decode cX9_congruence 29 = .ok (.goto 5, 3) := by decide +kernel
theorem dX9_congruence_32 : decode cX9_congruence 32 = .ok (.bipush (-9), 2) := by decide +kernel
theorem dX9_congruence_34 : decode cX9_congruence 34 = .ok (.ireturn, 1) := by decide +kernel
set_option maxRecDepth 20000 in
theorem ggX9_isFiner_X9_size : GoodIn wsX9_isFiner wsX9_size := goodIn_r _ [5, 6, 14, 15, 16, 17, 18, 19, 20, 21, 22, 23, 24, 25, 26, 27, 28, 29, 30, 31, 32, 33, 34] (by decide +kernel) (by decide +kernel)
set_option maxRecDepth 20000 in
theorem gX9_isFiner_X9_size : GoodIn wsX9_isFiner (wsV RX9 43 RX9 yX9_size wsX9_size) := goodIn_app (goodIn_of _ (by decide +kernel)) ggX9_isFiner_X9_size
set_option maxRecDepth 20000 in
theorem ggX9_isFiner_X9_isWith : GoodIn wsX9_isFiner wsX9_isWith := goodIn_r _ [10, 11, 12, 4, 13] (by decide +kernel) (by decide +kernel)
set_option maxRecDepth 20000 in
theorem gX9_isFiner_X9_isWith : GoodIn wsX9_isFiner (wsV RX9 142 RX9 yX9_isWith wsX9_isWith) := goodIn_app (goodIn_of _ (by decide +kernel)) ggX9_isFiner_X9_isWith
theorem dX9_isFiner_0 : decode cX9_isFiner 0 = .ok (.iconst 1, 1) := by decide +kernel
theorem dX9_isFiner_1 : decode cX9_isFiner 1 = .ok (.istore_n 3, 1) := by decide +kernel
theorem dX9_isFiner_2 : decode cX9_isFiner 2 = .ok (.iconst 0, 1) := by decide +kernel
theorem dX9_isFiner_3 : decode cX9_isFiner 3 = .ok (.istore 4, 2) := by decide +kernel
theorem dX9_isFiner_5 : decode cX9_isFiner 5 = .ok (.iload 4, 2) := by decide +kernel
theorem dX9_isFiner_7 : decode cX9_isFiner 7 = .ok (.aload_n 0, 1) := by decide +kernel
theorem dX9_isFiner_8 : decode cX9_isFiner 8 = .ok (.invokevirtual 43, 3) := by decide +kernel
theorem dX9_isFiner_11 : decode cX9_isFiner 11 = .ok (.if_icmp .ge 59, 3) := by decide +kernel
theorem dX9_isFiner_14 : decode cX9_isFiner 14 = .ok (.iconst 0, 1) := by decide +kernel
theorem dX9_isFiner_15 : decode cX9_isFiner 15 = .ok (.istore 5, 2) := by decide +kernel
theorem dX9_isFiner_17 : decode cX9_isFiner 17 = .ok (.iload 5, 2) := by decide +kernel
theorem dX9_isFiner_19 : decode cX9_isFiner 19 = .ok (.iload 4, 2) := by decide +kernel
theorem dX9_isFiner_21 : decode cX9_isFiner 21 = .ok (.if_icmp .ge 43, 3) := by decide +kernel
theorem dX9_isFiner_24 : decode cX9_isFiner 24 = .ok (.iload_n 3, 1) := by decide +kernel
theorem dX9_isFiner_25 : decode cX9_isFiner 25 = .ok (.ifCond .eq 31, 3) := by decide +kernel
theorem dX9_isFiner_28 : decode cX9_isFiner 28 = .ok (.aload_n 0, 1) := by decide +kernel
theorem dX9_isFiner_29 : decode cX9_isFiner 29 = .ok (.iload_n 1, 1) := by decide +kernel
theorem dX9_isFiner_30 : decode cX9_isFiner 30 = .ok (.iload 4, 2) := by decide +kernel
theorem dX9_isFiner_32 : decode cX9_isFiner 32 = .ok (.iload 5, 2) := by decide +kernel
theorem dX9_isFiner_34 : decode cX9_isFiner 34 = .ok (.invokevirtual 142, 3) := by decide +kernel
theorem dX9_isFiner_37 : decode cX9_isFiner 37 = .ok (.ifCond .eq 15, 3) := by decide +kernel
theorem dX9_isFiner_40 : decode cX9_isFiner 40 = .ok (.aload_n 0, 1) := by decide +kernel
theorem dX9_isFiner_41 : decode cX9_isFiner 41 = .ok (.iload_n 2, 1) := by decide +kernel
theorem dX9_isFiner_42 : decode cX9_isFiner 42 = .ok (.iload 4, 2) := by decide +kernel
theorem dX9_isFiner_44 : decode cX9_isFiner 44 = .ok (.iload 5, 2) := by decide +kernel
theorem dX9_isFiner_46 : decode cX9_isFiner 46 = .ok (.invokevirtual 142, 3) := by decide +kernel
theorem dX9_isFiner_49 : decode cX9_isFiner 49 = .ok (.ifCond .eq 7, 3) := by decide +kernel
theorem dX9_isFiner_52 : decode cX9_isFiner 52 = .ok (.iconst 1, 1) := by decide +kernel
theorem dX9_isFiner_53 : decode cX9_isFiner 53 = .ok (.goto 4, 3) := by decide +kernel
theorem dX9_isFiner_56 : decode cX9_isFiner 56 = .ok (.iconst 0, 1) := by decide +kernel
theorem dX9_isFiner_57 : decode cX9_isFiner 57 = .ok (.istore_n 3, 1) := by decide +kernel
theorem dX9_isFiner_58 : decode cX9_isFiner 58 = .ok (.iinc 5 1, 3) := by decide +kernel
theorem dX9_isFiner_61 : decode cX9_isFiner 61 = .ok (.goto (-44), 3) := by decide +kernel
theorem dX9_isFiner_64 : decode cX9_isFiner 64 = .ok (.iinc 4 1, 3) := by decide +kernel
theorem dX9_isFiner_67 : decode cX9_isFiner 67 = .ok (.goto (-62), 3) := by decide +kernel
theorem dX9_isFiner_70 : decode cX9_isFiner 70 = .ok (.iload_n 3, 1) := by decide +kernel
theorem dX9_isFiner_71 : decode cX9_isFiner 71 = .ok (.ireturn, 1) := by decide +kernel
set_option maxRecDepth 20000 in
theorem ggX9_blocks_X9_size : GoodIn wsX9_blocks wsX9_size := goodIn_r _ [5, 6, 10, 11, 12, 13, 14, 15, 16, 17, 18, 19, 20, 21, 22, 23, 24, 25, 26, 27, 28, 29, 30] (by decide +kernel) (by decide +kernel)
set_option maxRecDepth 20000 in
theorem gX9_blocks_X9_size : GoodIn wsX9_blocks (wsV RX9 43 RX9 yX9_size wsX9_size) := goodIn_app (goodIn_of _ (by decide +kernel)) ggX9_blocks_X9_size
set_option maxRecDepth 20000 in
theorem ggX9_blocks_X9_figureOf : GoodIn wsX9_blocks wsX9_figureOf := goodIn_r _ [9] (by decide +kernel) (by decide +kernel)
set_option maxRecDepth 20000 in
theorem gX9_blocks_X9_figureOf : GoodIn wsX9_blocks (va_wsS RX9 139 yX9_figureOf wsX9_figureOf) := goodIn_app (goodIn_of _ (by decide +kernel)) ggX9_blocks_X9_figureOf
theorem dX9_blocks_0 : decode cX9_blocks 0 = .ok (.iconst 0, 1) := by decide +kernel
theorem dX9_blocks_1 : decode cX9_blocks 1 = .ok (.istore_n 2, 1) := by decide +kernel
theorem dX9_blocks_2 : decode cX9_blocks 2 = .ok (.iconst 0, 1) := by decide +kernel
theorem dX9_blocks_3 : decode cX9_blocks 3 = .ok (.istore_n 3, 1) := by decide +kernel
theorem dX9_blocks_4 : decode cX9_blocks 4 = .ok (.iload_n 3, 1) := by decide +kernel
theorem dX9_blocks_5 : decode cX9_blocks 5 = .ok (.aload_n 0, 1) := by decide +kernel
theorem dX9_blocks_6 : decode cX9_blocks 6 = .ok (.invokevirtual 43, 3) := by decide +kernel
theorem dX9_blocks_9 : decode cX9_blocks 9 = .ok (.if_icmp .ge 26, 3) := by decide +kernel
theorem dX9_blocks_12 : decode cX9_blocks 12 = .ok (.iload_n 2, 1) := by decide +kernel
theorem dX9_blocks_13 : decode cX9_blocks 13 = .ok (.iload_n 1, 1) := by decide +kernel
theorem dX9_blocks_14 : decode cX9_blocks 14 = .ok (.iload_n 3, 1) := by decide +kernel
theorem dX9_blocks_15 : decode cX9_blocks 15 = .ok (.invokestatic 139, 3) := by decide +kernel
theorem dX9_blocks_18 : decode cX9_blocks 18 = .ok (.iload_n 3, 1) := by decide +kernel
theorem dX9_blocks_19 : decode cX9_blocks 19 = .ok (.if_icmp .ne 7, 3) := by decide +kernel
theorem dX9_blocks_22 : decode cX9_blocks 22 = .ok (.iconst 1, 1) := by decide +kernel
theorem dX9_blocks_23 : decode cX9_blocks 23 = .ok (.goto 4, 3) := by decide +kernel
theorem dX9_blocks_26 : decode cX9_blocks 26 = .ok (.iconst 0, 1) := by decide +kernel
theorem dX9_blocks_27 : decode cX9_blocks 27 = .ok (.iadd, 1) := by decide +kernel
theorem dX9_blocks_28 : decode cX9_blocks 28 = .ok (.istore_n 2, 1) := by decide +kernel
theorem dX9_blocks_29 : decode cX9_blocks 29 = .ok (.iinc 3 1, 3) := by decide +kernel
theorem dX9_blocks_32 : decode cX9_blocks 32 = .ok (.goto (-28), 3) := by decide +kernel
theorem dX9_blocks_35 : decode cX9_blocks 35 = .ok (.iload_n 2, 1) := by decide +kernel
theorem dX9_blocks_36 : decode cX9_blocks 36 = .ok (.ireturn, 1) := by decide +kernel
set_option maxRecDepth 20000 in
theorem ggX9_principal_X9_is : GoodIn wsX9_principal wsX9_is := goodIn_r _ [7, 8, 9, 10, 6, 11, 12, 13, 14, 15, 47, 48, 49, 50, 51, 52, 53, 54, 55, 56, 57, 58, 59, 60, 61, 62, 63, 64, 65, 66, 67] (by decide +kernel) (by decide +kernel)
set_option maxRecDepth 20000 in
theorem gX9_principal_X9_is : GoodIn wsX9_principal (wsV RX9 102 RX9 yX9_is wsX9_is) := goodIn_app (goodIn_of _ (by decide +kernel)) ggX9_principal_X9_is
set_option maxRecDepth 20000 in
theorem ggX9_principal_X9_layCongruences : GoodIn wsX9_principal wsX9_layCongruences := goodIn_r _ [19, 1, 2, 20, 21, 22, 6, 23, 24, 25, 26, 8, 9, 10, 11, 12, 27, 28, 29, 30, 31, 32, 33, 34, 35, 36, 37, 38, 39, 40, 41, 42, 47, 48, 49, 50, 51, 52, 53, 54, 55, 56, 57, 58, 59, 60, 61, 62, 63, 64, 65, 66, 67] (by decide +kernel) (by decide +kernel)
set_option maxRecDepth 20000 in
theorem gX9_principal_X9_layCongruences : GoodIn wsX9_principal (wsV RX9 154 RX9 yX9_layCongruences wsX9_layCongruences) := goodIn_app (goodIn_of _ (by decide +kernel)) ggX9_principal_X9_layCongruences
set_option maxRecDepth 20000 in
theorem ggX9_principal_X9_isWith : GoodIn wsX9_principal wsX9_isWith := goodIn_r _ [34, 24, 25, 6, 26] (by decide +kernel) (by decide +kernel)
set_option maxRecDepth 20000 in
theorem gX9_principal_X9_isWith : GoodIn wsX9_principal (wsV RX9 142 RX9 yX9_isWith wsX9_isWith) := goodIn_app (goodIn_of _ (by decide +kernel)) ggX9_principal_X9_isWith
set_option maxRecDepth 20000 in
theorem ggX9_principal_X9_blocks : GoodIn wsX9_principal wsX9_blocks := goodIn_r _ [46, 8, 9, 10, 6, 11, 12, 24, 25, 26, 47, 48, 49, 50, 51, 52, 53, 54, 55, 56, 57, 58, 59, 60, 61, 62, 63, 64, 65, 66, 67] (by decide +kernel) (by decide +kernel)
set_option maxRecDepth 20000 in
theorem gX9_principal_X9_blocks : GoodIn wsX9_principal (wsV RX9 160 RX9 yX9_blocks wsX9_blocks) := goodIn_app (goodIn_of _ (by decide +kernel)) ggX9_principal_X9_blocks
theorem dX9_principal_0 : decode cX9_principal 0 = .ok (.aload_n 0, 1) := by decide +kernel
theorem dX9_principal_1 : decode cX9_principal 1 = .ok (.iload_n 1, 1) := by decide +kernel
theorem dX9_principal_2 : decode cX9_principal 2 = .ok (.invokevirtual 102, 3) := by decide +kernel
theorem dX9_principal_5 : decode cX9_principal 5 = .ok (.ifCond .eq 11, 3) := by decide +kernel
theorem dX9_principal_8 : decode cX9_principal 8 = .ok (.aload_n 0, 1) := by decide +kernel
theorem dX9_principal_9 : decode cX9_principal 9 = .ok (.iload_n 2, 1) := by decide +kernel
theorem dX9_principal_10 : decode cX9_principal 10 = .ok (.invokevirtual 102, 3) := by decide +kernel
theorem dX9_principal_13 : decode cX9_principal 13 = .ok (.ifCond .ne 6, 3) := by decide +kernel
theorem dX9_principal_16 : decode cX9_principal 16 = .ok (.bipush (-2), 2) := by decide +kernel
theorem dX9_principal_18 : decode cX9_principal 18 = .ok (.ireturn, 1) := by decide +kernel
theorem dX9_principal_19 : decode cX9_principal 19 = .ok (.aload_n 0, 1) := by decide +kernel
theorem dX9_principal_20 : decode cX9_principal 20 = .ok (.invokevirtual 154, 3) := by decide +kernel
theorem dX9_principal_23 : decode cX9_principal 23 = .ok (.bipush (-9), 2) := by decide +kernel
theorem dX9_principal_25 : decode cX9_principal 25 = .ok (.istore_n 3, 1) := by decide +kernel
theorem dX9_principal_26 : decode cX9_principal 26 = .ok (.iconst 0, 1) := by decide +kernel
theorem dX9_principal_27 : decode cX9_principal 27 = .ok (.istore 4, 2) := by decide +kernel
theorem dX9_principal_29 : decode cX9_principal 29 = .ok (.iload 4, 2) := by decide +kernel
theorem dX9_principal_31 : decode cX9_principal 31 = .ok (.aload_n 0, 1) := by decide +kernel
theorem dX9_principal_32 : decode cX9_principal 32 = .ok (.getfield 145, 3) := by decide +kernel
theorem dX9_principal_35 : decode cX9_principal 35 = .ok (.if_icmp .ge 74, 3) := by decide +kernel
theorem dX9_principal_38 : decode cX9_principal 38 = .ok (.aload_n 0, 1) := by decide +kernel
theorem dX9_principal_39 : decode cX9_principal 39 = .ok (.aload_n 0, 1) := by decide +kernel
theorem dX9_principal_40 : decode cX9_principal 40 = .ok (.getfield 32, 3) := by decide +kernel
theorem dX9_principal_43 : decode cX9_principal 43 = .ok (.iload 4, 2) := by decide +kernel
theorem dX9_principal_45 : decode cX9_principal 45 = .ok (.iaload, 1) := by decide +kernel
theorem dX9_principal_46 : decode cX9_principal 46 = .ok (.iload_n 1, 1) := by decide +kernel
theorem dX9_principal_47 : decode cX9_principal 47 = .ok (.iload_n 2, 1) := by decide +kernel
theorem dX9_principal_48 : decode cX9_principal 48 = .ok (.invokevirtual 142, 3) := by decide +kernel
theorem dX9_principal_51 : decode cX9_principal 51 = .ok (.ifCond .eq 37, 3) := by decide +kernel
theorem dX9_principal_54 : decode cX9_principal 54 = .ok (.iload_n 3, 1) := by decide +kernel
theorem dX9_principal_55 : decode cX9_principal 55 = .ok (.bipush (-9), 2) := by decide +kernel
theorem dX9_principal_57 : decode cX9_principal 57 = .ok (.if_icmp .eq 27, 3) := by decide +kernel
theorem dX9_principal_60 : decode cX9_principal 60 = .ok (.aload_n 0, 1) := by decide +kernel
theorem dX9_principal_61 : decode cX9_principal 61 = .ok (.aload_n 0, 1) := by decide +kernel
theorem dX9_principal_62 : decode cX9_principal 62 = .ok (.getfield 32, 3) := by decide +kernel
theorem dX9_principal_65 : decode cX9_principal 65 = .ok (.iload 4, 2) := by decide +kernel
theorem dX9_principal_67 : decode cX9_principal 67 = .ok (.iaload, 1) := by decide +kernel
theorem dX9_principal_68 : decode cX9_principal 68 = .ok (.invokevirtual 160, 3) := by decide +kernel
theorem dX9_principal_71 : decode cX9_principal 71 = .ok (.aload_n 0, 1) := by decide +kernel
theorem dX9_principal_72 : decode cX9_principal 72 = .ok (.aload_n 0, 1) := by decide +kernel
theorem dX9_principal_73 : decode cX9_principal 73 = .ok (.getfield 32, 3) := by decide +kernel
theorem dX9_principal_76 : decode cX9_principal 76 = .ok (.iload_n 3, 1) := by decide +kernel
theorem dX9_principal_77 : decode cX9_principal 77 = .ok (.iaload, 1) := by decide +kernel
theorem dX9_principal_78 : decode cX9_principal 78 = .ok (.invokevirtual 160, 3) := by decide +kernel
theorem dX9_principal_81 : decode cX9_principal 81 = .ok (.if_icmp .le 7, 3) := by decide +kernel
theorem dX9_principal_84 : decode cX9_principal 84 = .ok (.iconst 1, 1) := by decide +kernel
theorem dX9_principal_85 : decode cX9_principal 85 = .ok (.goto 4, 3) := by decide +kernel
theorem dX9_principal_88 : decode cX9_principal 88 = .ok (.iconst 0, 1) := by decide +kernel
theorem dX9_principal_89 : decode cX9_principal 89 = .ok (.istore 5, 2) := by decide +kernel
theorem dX9_principal_91 : decode cX9_principal 91 = .ok (.iload 5, 2) := by decide +kernel
theorem dX9_principal_93 : decode cX9_principal 93 = .ok (.ifCond .eq 8, 3) := by decide +kernel
theorem dX9_principal_96 : decode cX9_principal 96 = .ok (.iload 4, 2) := by decide +kernel
theorem dX9_principal_98 : decode cX9_principal 98 = .ok (.goto 4, 3) := by decide +kernel
theorem dX9_principal_101 : decode cX9_principal 101 = .ok (.iload_n 3, 1) := by decide +kernel
theorem dX9_principal_102 : decode cX9_principal 102 = .ok (.istore_n 3, 1) := by decide +kernel
theorem dX9_principal_103 : decode cX9_principal 103 = .ok (.iinc 4 1, 3) := by decide +kernel
theorem dX9_principal_106 : decode cX9_principal 106 = .ok (.goto (-77), 3) := by decide +kernel
theorem dX9_principal_109 : decode cX9_principal 109 = .ok (.iload_n 3, 1) := by decide +kernel
theorem dX9_principal_110 : decode cX9_principal 110 = .ok (.ireturn, 1) := by decide +kernel
set_option maxRecDepth 20000 in
theorem ggX9_between_X9_isFiner : GoodIn wsX9_between wsX9_isFiner := goodIn_r _ [7, 8, 9, 10, 6, 11, 12, 13, 14, 15, 16, 17, 18, 19, 24, 25, 26, 27, 28, 29, 30, 31, 32, 33, 34, 35, 36, 37, 38, 39, 40, 41, 42, 43, 44] (by decide +kernel) (by decide +kernel)
set_option maxRecDepth 20000 in
theorem gX9_between_X9_isFiner : GoodIn wsX9_between (wsV RX9 163 RX9 yX9_isFiner wsX9_isFiner) := goodIn_app (goodIn_of _ (by decide +kernel)) ggX9_between_X9_isFiner
set_option maxRecDepth 20000 in
theorem ggX9_between_X9_blocks : GoodIn wsX9_between wsX9_blocks := goodIn_r _ [23, 8, 9, 10, 6, 11, 12, 17, 18, 19, 24, 25, 26, 27, 28, 29, 30, 31, 32, 33, 34, 35, 36, 37, 38, 39, 40, 41, 42, 43, 44] (by decide +kernel) (by decide +kernel)
set_option maxRecDepth 20000 in
theorem gX9_between_X9_blocks : GoodIn wsX9_between (wsV RX9 160 RX9 yX9_blocks wsX9_blocks) := goodIn_app (goodIn_of _ (by decide +kernel)) ggX9_between_X9_blocks
theorem dX9_between_0 : decode cX9_between 0 = .ok (.bipush (-9), 2) := by decide +kernel
theorem dX9_between_2 : decode cX9_between 2 = .ok (.istore 4, 2) := by decide +kernel
theorem dX9_between_4 : decode cX9_between 4 = .ok (.iconst 0, 1) := by decide +kernel
theorem dX9_between_5 : decode cX9_between 5 = .ok (.istore 5, 2) := by decide +kernel
theorem dX9_between_7 : decode cX9_between 7 = .ok (.iload 5, 2) := by decide +kernel
theorem dX9_between_9 : decode cX9_between 9 = .ok (.aload_n 0, 1) := by decide +kernel
theorem dX9_between_10 : decode cX9_between 10 = .ok (.getfield 145, 3) := by decide +kernel
theorem dX9_between_13 : decode cX9_between 13 = .ok (.if_icmp .ge 146, 3) := by decide +kernel
theorem dX9_between_16 : decode cX9_between 16 = .ok (.aload_n 0, 1) := by decide +kernel
theorem dX9_between_17 : decode cX9_between 17 = .ok (.getfield 32, 3) := by decide +kernel
theorem dX9_between_20 : decode cX9_between 20 = .ok (.iload 5, 2) := by decide +kernel
theorem dX9_between_22 : decode cX9_between 22 = .ok (.iaload, 1) := by decide +kernel
theorem dX9_between_23 : decode cX9_between 23 = .ok (.istore 6, 2) := by decide +kernel
theorem dX9_between_25 : decode cX9_between 25 = .ok (.iload_n 3, 1) := by decide +kernel
theorem dX9_between_26 : decode cX9_between 26 = .ok (.ifCond .eq 31, 3) := by decide +kernel
theorem dX9_between_29 : decode cX9_between 29 = .ok (.aload_n 0, 1) := by decide +kernel
theorem dX9_between_30 : decode cX9_between 30 = .ok (.iload_n 1, 1) := by decide +kernel
theorem dX9_between_31 : decode cX9_between 31 = .ok (.iload 6, 2) := by decide +kernel
theorem dX9_between_33 : decode cX9_between 33 = .ok (.invokevirtual 163, 3) := by decide +kernel
theorem dX9_between_36 : decode cX9_between 36 = .ok (.ifCond .eq 17, 3) := by decide +kernel
theorem dX9_between_39 : decode cX9_between 39 = .ok (.aload_n 0, 1) := by decide +kernel
theorem dX9_between_40 : decode cX9_between 40 = .ok (.iload_n 2, 1) := by decide +kernel
theorem dX9_between_41 : decode cX9_between 41 = .ok (.iload 6, 2) := by decide +kernel
theorem dX9_between_43 : decode cX9_between 43 = .ok (.invokevirtual 163, 3) := by decide +kernel
theorem dX9_between_46 : decode cX9_between 46 = .ok (.ifCond .eq 7, 3) := by decide +kernel
theorem dX9_between_49 : decode cX9_between 49 = .ok (.iconst 1, 1) := by decide +kernel
theorem dX9_between_50 : decode cX9_between 50 = .ok (.goto 32, 3) := by decide +kernel
theorem dX9_between_53 : decode cX9_between 53 = .ok (.iconst 0, 1) := by decide +kernel
theorem dX9_between_54 : decode cX9_between 54 = .ok (.goto 28, 3) := by decide +kernel
theorem dX9_between_57 : decode cX9_between 57 = .ok (.aload_n 0, 1) := by decide +kernel
theorem dX9_between_58 : decode cX9_between 58 = .ok (.iload 6, 2) := by decide +kernel
theorem dX9_between_60 : decode cX9_between 60 = .ok (.iload_n 1, 1) := by decide +kernel
theorem dX9_between_61 : decode cX9_between 61 = .ok (.invokevirtual 163, 3) := by decide +kernel
theorem dX9_between_64 : decode cX9_between 64 = .ok (.ifCond .eq 17, 3) := by decide +kernel
theorem dX9_between_67 : decode cX9_between 67 = .ok (.aload_n 0, 1) := by decide +kernel
theorem dX9_between_68 : decode cX9_between 68 = .ok (.iload 6, 2) := by decide +kernel
theorem dX9_between_70 : decode cX9_between 70 = .ok (.iload_n 2, 1) := by decide +kernel
theorem dX9_between_71 : decode cX9_between 71 = .ok (.invokevirtual 163, 3) := by decide +kernel
theorem dX9_between_74 : decode cX9_between 74 = .ok (.ifCond .eq 7, 3) := by decide +kernel
theorem dX9_between_77 : decode cX9_between 77 = .ok (.iconst 1, 1) := by decide +kernel
theorem dX9_between_78 : decode cX9_between 78 = .ok (.goto 4, 3) := by decide +kernel
theorem dX9_between_81 : decode cX9_between 81 = .ok (.iconst 0, 1) := by decide +kernel
theorem dX9_between_82 : decode cX9_between 82 = .ok (.istore 7, 2) := by decide +kernel
theorem dX9_between_84 : decode cX9_between 84 = .ok (.iload 4, 2) := by decide +kernel
theorem dX9_between_86 : decode cX9_between 86 = .ok (.bipush (-9), 2) := by decide +kernel
theorem dX9_between_88 : decode cX9_between 88 = .ok (.if_icmp .ne 7, 3) := by decide +kernel
theorem dX9_between_91 : decode cX9_between 91 = .ok (.iconst 1, 1) := by decide +kernel
theorem dX9_between_92 : decode cX9_between 92 = .ok (.goto 21, 3) := by decide +kernel
theorem dX9_between_95 : decode cX9_between 95 = .ok (.aload_n 0, 1) := by decide +kernel
theorem dX9_between_96 : decode cX9_between 96 = .ok (.iload 6, 2) := by decide +kernel
theorem dX9_between_98 : decode cX9_between 98 = .ok (.invokevirtual 160, 3) := by decide +kernel
theorem dX9_between_101 : decode cX9_between 101 = .ok (.aload_n 0, 1) := by decide +kernel
theorem dX9_between_102 : decode cX9_between 102 = .ok (.aload_n 0, 1) := by decide +kernel
theorem dX9_between_103 : decode cX9_between 103 = .ok (.getfield 32, 3) := by decide +kernel
theorem dX9_between_106 : decode cX9_between 106 = .ok (.iload 4, 2) := by decide +kernel
theorem dX9_between_108 : decode cX9_between 108 = .ok (.iaload, 1) := by decide +kernel
theorem dX9_between_109 : decode cX9_between 109 = .ok (.invokevirtual 160, 3) := by decide +kernel
theorem dX9_between_112 : decode cX9_between 112 = .ok (.isub, 1) := by decide +kernel
theorem dX9_between_113 : decode cX9_between 113 = .ok (.istore 8, 2) := by decide +kernel
theorem dX9_between_115 : decode cX9_between 115 = .ok (.iload 7, 2) := by decide +kernel
theorem dX9_between_117 : decode cX9_between 117 = .ok (.ifCond .eq 32, 3) := by decide +kernel
theorem dX9_between_120 : decode cX9_between 120 = .ok (.iload 4, 2) := by decide +kernel
theorem dX9_between_122 : decode cX9_between 122 = .ok (.bipush (-9), 2) := by decide +kernel
theorem dX9_between_124 : decode cX9_between 124 = .ok (.if_icmp .eq 20, 3) := by decide +kernel
theorem dX9_between_127 : decode cX9_between 127 = .ok (.iload_n 3, 1) := by decide +kernel
theorem dX9_between_128 : decode cX9_between 128 = .ok (.ifCond .eq 11, 3) := by decide +kernel
theorem dX9_between_131 : decode cX9_between 131 = .ok (.iload 8, 2) := by decide +kernel
theorem dX9_between_133 : decode cX9_between 133 = .ok (.ifCond .le 16, 3) := by decide +kernel
theorem dX9_between_136 : decode cX9_between 136 = .ok (.goto 8, 3) := by decide +kernel
theorem dX9_between_139 : decode cX9_between 139 = .ok (.iload 8, 2) := by decide +kernel
theorem dX9_between_141 : decode cX9_between 141 = .ok (.ifCond .ge 8, 3) := by decide +kernel
theorem dX9_between_144 : decode cX9_between 144 = .ok (.iload 5, 2) := by decide +kernel
theorem dX9_between_146 : decode cX9_between 146 = .ok (.goto 5, 3) := by decide +kernel
theorem dX9_between_149 : decode cX9_between 149 = .ok (.iload 4, 2) := by decide +kernel
theorem dX9_between_151 : decode cX9_between 151 = .ok (.istore 4, 2) := by decide +kernel
theorem dX9_between_153 : decode cX9_between 153 = .ok (.iinc 5 1, 3) := by decide +kernel
theorem dX9_between_156 : decode cX9_between 156 = .ok (.goto (-149), 3) := by decide +kernel
theorem dX9_between_159 : decode cX9_between 159 = .ok (.iload 4, 2) := by decide +kernel
theorem dX9_between_161 : decode cX9_between 161 = .ok (.ireturn, 1) := by decide +kernel
set_option maxRecDepth 20000 in
theorem ggX9_isThrough_X9_size : GoodIn wsX9_isThrough wsX9_size := goodIn_r _ [5, 6, 14, 15, 16, 17, 18, 19, 20, 21, 22, 23, 24, 25, 26, 27, 28, 29, 30, 31, 32, 33, 34] (by decide +kernel) (by decide +kernel)
set_option maxRecDepth 20000 in
theorem gX9_isThrough_X9_size : GoodIn wsX9_isThrough (wsV RX9 43 RX9 yX9_size wsX9_size) := goodIn_app (goodIn_of _ (by decide +kernel)) ggX9_isThrough_X9_size
set_option maxRecDepth 20000 in
theorem ggX9_isThrough_X9_isWith : GoodIn wsX9_isThrough wsX9_isWith := goodIn_r _ [10, 11, 12, 4, 13] (by decide +kernel) (by decide +kernel)
set_option maxRecDepth 20000 in
theorem gX9_isThrough_X9_isWith : GoodIn wsX9_isThrough (wsV RX9 142 RX9 yX9_isWith wsX9_isWith) := goodIn_app (goodIn_of _ (by decide +kernel)) ggX9_isThrough_X9_isWith
theorem dX9_isThrough_0 : decode cX9_isThrough 0 = .ok (.iconst 0, 1) := by decide +kernel
theorem dX9_isThrough_1 : decode cX9_isThrough 1 = .ok (.istore 5, 2) := by decide +kernel
theorem dX9_isThrough_3 : decode cX9_isThrough 3 = .ok (.iconst 0, 1) := by decide +kernel
theorem dX9_isThrough_4 : decode cX9_isThrough 4 = .ok (.istore 6, 2) := by decide +kernel
theorem dX9_isThrough_6 : decode cX9_isThrough 6 = .ok (.iload 6, 2) := by decide +kernel
theorem dX9_isThrough_8 : decode cX9_isThrough 8 = .ok (.aload_n 0, 1) := by decide +kernel
theorem dX9_isThrough_9 : decode cX9_isThrough 9 = .ok (.invokevirtual 43, 3) := by decide +kernel
theorem dX9_isThrough_12 : decode cX9_isThrough 12 = .ok (.if_icmp .ge 44, 3) := by decide +kernel
theorem dX9_isThrough_15 : decode cX9_isThrough 15 = .ok (.iload 5, 2) := by decide +kernel
theorem dX9_isThrough_17 : decode cX9_isThrough 17 = .ok (.ifCond .ne 26, 3) := by decide +kernel
theorem dX9_isThrough_20 : decode cX9_isThrough 20 = .ok (.aload_n 0, 1) := by decide +kernel
theorem dX9_isThrough_21 : decode cX9_isThrough 21 = .ok (.iload_n 1, 1) := by decide +kernel
theorem dX9_isThrough_22 : decode cX9_isThrough 22 = .ok (.iload_n 3, 1) := by decide +kernel
theorem dX9_isThrough_23 : decode cX9_isThrough 23 = .ok (.iload 6, 2) := by decide +kernel
theorem dX9_isThrough_25 : decode cX9_isThrough 25 = .ok (.invokevirtual 142, 3) := by decide +kernel
theorem dX9_isThrough_28 : decode cX9_isThrough 28 = .ok (.ifCond .eq 19, 3) := by decide +kernel
theorem dX9_isThrough_31 : decode cX9_isThrough 31 = .ok (.aload_n 0, 1) := by decide +kernel
theorem dX9_isThrough_32 : decode cX9_isThrough 32 = .ok (.iload_n 2, 1) := by decide +kernel
theorem dX9_isThrough_33 : decode cX9_isThrough 33 = .ok (.iload 6, 2) := by decide +kernel
theorem dX9_isThrough_35 : decode cX9_isThrough 35 = .ok (.iload 4, 2) := by decide +kernel
theorem dX9_isThrough_37 : decode cX9_isThrough 37 = .ok (.invokevirtual 142, 3) := by decide +kernel
theorem dX9_isThrough_40 : decode cX9_isThrough 40 = .ok (.ifCond .eq 7, 3) := by decide +kernel
theorem dX9_isThrough_43 : decode cX9_isThrough 43 = .ok (.iconst 1, 1) := by decide +kernel
theorem dX9_isThrough_44 : decode cX9_isThrough 44 = .ok (.goto 4, 3) := by decide +kernel
theorem dX9_isThrough_47 : decode cX9_isThrough 47 = .ok (.iconst 0, 1) := by decide +kernel
theorem dX9_isThrough_48 : decode cX9_isThrough 48 = .ok (.istore 5, 2) := by decide +kernel
theorem dX9_isThrough_50 : decode cX9_isThrough 50 = .ok (.iinc 6 1, 3) := by decide +kernel
theorem dX9_isThrough_53 : decode cX9_isThrough 53 = .ok (.goto (-47), 3) := by decide +kernel
theorem dX9_isThrough_56 : decode cX9_isThrough 56 = .ok (.iload 5, 2) := by decide +kernel
theorem dX9_isThrough_58 : decode cX9_isThrough 58 = .ok (.ireturn, 1) := by decide +kernel
set_option maxRecDepth 20000 in
theorem ggX9_permute_X9_size : GoodIn wsX9_permute wsX9_size := goodIn_r _ [5, 6, 18, 19, 20, 21, 22, 23, 24, 25, 26, 27, 28, 29, 30, 31, 32, 33, 34, 35, 36, 37, 38] (by decide +kernel) (by decide +kernel)
set_option maxRecDepth 20000 in
theorem gX9_permute_X9_size : GoodIn wsX9_permute (wsV RX9 43 RX9 yX9_size wsX9_size) := goodIn_app (goodIn_of _ (by decide +kernel)) ggX9_permute_X9_size
set_option maxRecDepth 20000 in
theorem ggX9_permute_X9_isThrough : GoodIn wsX9_permute wsX9_isThrough := goodIn_r _ [10, 1, 2, 3, 4, 5, 6, 11, 12, 13, 14, 15, 16, 17, 18, 19, 20, 21, 22, 23, 24, 25, 26, 27, 28, 29, 30, 31, 32, 33, 34, 35, 36, 37, 38] (by decide +kernel) (by decide +kernel)
set_option maxRecDepth 20000 in
theorem gX9_permute_X9_isThrough : GoodIn wsX9_permute (wsV RX9 166 RX9 yX9_isThrough wsX9_isThrough) := goodIn_app (goodIn_of _ (by decide +kernel)) ggX9_permute_X9_isThrough
theorem dX9_permute_0 : decode cX9_permute 0 = .ok (.iconst 1, 1) := by decide +kernel
theorem dX9_permute_1 : decode cX9_permute 1 = .ok (.istore_n 3, 1) := by decide +kernel
theorem dX9_permute_2 : decode cX9_permute 2 = .ok (.iconst 0, 1) := by decide +kernel
theorem dX9_permute_3 : decode cX9_permute 3 = .ok (.istore 4, 2) := by decide +kernel
theorem dX9_permute_5 : decode cX9_permute 5 = .ok (.iload 4, 2) := by decide +kernel
theorem dX9_permute_7 : decode cX9_permute 7 = .ok (.aload_n 0, 1) := by decide +kernel
theorem dX9_permute_8 : decode cX9_permute 8 = .ok (.invokevirtual 43, 3) := by decide +kernel
theorem dX9_permute_11 : decode cX9_permute 11 = .ok (.if_icmp .ge 63, 3) := by decide +kernel
theorem dX9_permute_14 : decode cX9_permute 14 = .ok (.iconst 0, 1) := by decide +kernel
theorem dX9_permute_15 : decode cX9_permute 15 = .ok (.istore 5, 2) := by decide +kernel
theorem dX9_permute_17 : decode cX9_permute 17 = .ok (.iload 5, 2) := by decide +kernel
theorem dX9_permute_19 : decode cX9_permute 19 = .ok (.aload_n 0, 1) := by decide +kernel
theorem dX9_permute_20 : decode cX9_permute 20 = .ok (.invokevirtual 43, 3) := by decide +kernel
theorem dX9_permute_23 : decode cX9_permute 23 = .ok (.if_icmp .ge 45, 3) := by decide +kernel
theorem dX9_permute_26 : decode cX9_permute 26 = .ok (.iload_n 3, 1) := by decide +kernel
theorem dX9_permute_27 : decode cX9_permute 27 = .ok (.ifCond .eq 33, 3) := by decide +kernel
theorem dX9_permute_30 : decode cX9_permute 30 = .ok (.aload_n 0, 1) := by decide +kernel
theorem dX9_permute_31 : decode cX9_permute 31 = .ok (.iload_n 1, 1) := by decide +kernel
theorem dX9_permute_32 : decode cX9_permute 32 = .ok (.iload_n 2, 1) := by decide +kernel
theorem dX9_permute_33 : decode cX9_permute 33 = .ok (.iload 4, 2) := by decide +kernel
theorem dX9_permute_35 : decode cX9_permute 35 = .ok (.iload 5, 2) := by decide +kernel
theorem dX9_permute_37 : decode cX9_permute 37 = .ok (.invokevirtual 166, 3) := by decide +kernel
theorem dX9_permute_40 : decode cX9_permute 40 = .ok (.ifCond .eq 16, 3) := by decide +kernel
theorem dX9_permute_43 : decode cX9_permute 43 = .ok (.aload_n 0, 1) := by decide +kernel
theorem dX9_permute_44 : decode cX9_permute 44 = .ok (.iload_n 2, 1) := by decide +kernel
theorem dX9_permute_45 : decode cX9_permute 45 = .ok (.iload_n 1, 1) := by decide +kernel
theorem dX9_permute_46 : decode cX9_permute 46 = .ok (.iload 4, 2) := by decide +kernel
theorem dX9_permute_48 : decode cX9_permute 48 = .ok (.iload 5, 2) := by decide +kernel
theorem dX9_permute_50 : decode cX9_permute 50 = .ok (.invokevirtual 166, 3) := by decide +kernel
theorem dX9_permute_53 : decode cX9_permute 53 = .ok (.ifCond .eq 7, 3) := by decide +kernel
theorem dX9_permute_56 : decode cX9_permute 56 = .ok (.iconst 1, 1) := by decide +kernel
theorem dX9_permute_57 : decode cX9_permute 57 = .ok (.goto 4, 3) := by decide +kernel
theorem dX9_permute_60 : decode cX9_permute 60 = .ok (.iconst 0, 1) := by decide +kernel
theorem dX9_permute_61 : decode cX9_permute 61 = .ok (.istore_n 3, 1) := by decide +kernel
theorem dX9_permute_62 : decode cX9_permute 62 = .ok (.iinc 5 1, 3) := by decide +kernel
theorem dX9_permute_65 : decode cX9_permute 65 = .ok (.goto (-48), 3) := by decide +kernel
theorem dX9_permute_68 : decode cX9_permute 68 = .ok (.iinc 4 1, 3) := by decide +kernel
theorem dX9_permute_71 : decode cX9_permute 71 = .ok (.goto (-66), 3) := by decide +kernel
theorem dX9_permute_74 : decode cX9_permute 74 = .ok (.iload_n 3, 1) := by decide +kernel
theorem dX9_permute_75 : decode cX9_permute 75 = .ok (.ireturn, 1) := by decide +kernel
set_option maxRecDepth 20000 in
theorem ggX9_pair_X9_layCongruences : GoodIn wsX9_pair wsX9_layCongruences := goodIn_r _ [7, 1, 2, 8, 9, 10, 6, 11, 12, 13, 14, 15, 16, 17, 18, 19, 20, 21, 22, 23, 24, 25, 26, 27, 28, 29, 30, 31, 32, 33, 34, 35, 59, 60, 61, 62, 63, 64, 65, 66, 67, 68, 69, 70, 71, 72, 73, 74, 75, 76, 77, 78, 79] (by decide +kernel) (by decide +kernel)
set_option maxRecDepth 20000 in
theorem gX9_pair_X9_layCongruences : GoodIn wsX9_pair (wsV RX9 154 RX9 yX9_layCongruences wsX9_layCongruences) := goodIn_app (goodIn_of _ (by decide +kernel)) ggX9_pair_X9_layCongruences
set_option maxRecDepth 20000 in
theorem ggX9_pair_X9_in : GoodIn wsX9_pair wsX9_in := goodIn_r _ [38] (by decide +kernel) (by decide +kernel)
set_option maxRecDepth 20000 in
theorem gX9_pair_X9_in : GoodIn wsX9_pair (va_wsS RX9 47 yX9_in wsX9_in) := goodIn_app (goodIn_of _ (by decide +kernel)) ggX9_pair_X9_in
set_option maxRecDepth 20000 in
theorem ggX9_pair_X9_between : GoodIn wsX9_pair wsX9_between := goodIn_r _ [42, 1, 2, 43, 44, 45, 6, 46, 15, 16, 17, 18, 19, 24, 25, 26, 27, 12, 13, 14, 47, 48, 49, 50, 59, 60, 61, 62, 63, 64, 65, 66, 67, 68, 69, 70, 71, 72, 73, 74, 75, 76, 77, 78, 79] (by decide +kernel) (by decide +kernel)
set_option maxRecDepth 20000 in
theorem gX9_pair_X9_between : GoodIn wsX9_pair (wsV RX9 169 RX9 yX9_between wsX9_between) := goodIn_app (goodIn_of _ (by decide +kernel)) ggX9_pair_X9_between
set_option maxRecDepth 20000 in
theorem ggX9_pair_X9_permute : GoodIn wsX9_pair wsX9_permute := goodIn_r _ [54, 15, 16, 17, 6, 18, 19, 55, 56, 57, 58, 24, 25, 26, 27, 12, 13, 14, 59, 60, 61, 62, 63, 64, 65, 66, 67, 68, 69, 70, 71, 72, 73, 74, 75, 76, 77, 78, 79] (by decide +kernel) (by decide +kernel)
set_option maxRecDepth 20000 in
theorem gX9_pair_X9_permute : GoodIn wsX9_pair (wsV RX9 173 RX9 yX9_permute wsX9_permute) := goodIn_app (goodIn_of _ (by decide +kernel)) ggX9_pair_X9_permute
set_option maxRecDepth 20000 in
theorem ggX9_pair_X9_isFiner : GoodIn wsX9_pair wsX9_isFiner := goodIn_r _ [46, 15, 16, 17, 6, 18, 19, 24, 25, 26, 27, 12, 13, 14, 59, 60, 61, 62, 63, 64, 65, 66, 67, 68, 69, 70, 71, 72, 73, 74, 75, 76, 77, 78, 79] (by decide +kernel) (by decide +kernel)
set_option maxRecDepth 20000 in
theorem gX9_pair_X9_isFiner : GoodIn wsX9_pair (wsV RX9 163 RX9 yX9_isFiner wsX9_isFiner) := goodIn_app (goodIn_of _ (by decide +kernel)) ggX9_pair_X9_isFiner
theorem dX9_pair_0 : decode cX9_pair 0 = .ok (.aload_n 0, 1) := by decide +kernel
theorem dX9_pair_1 : decode cX9_pair 1 = .ok (.invokevirtual 154, 3) := by decide +kernel
theorem dX9_pair_4 : decode cX9_pair 4 = .ok (.iload_n 1, 1) := by decide +kernel
theorem dX9_pair_5 : decode cX9_pair 5 = .ok (.iconst 0, 1) := by decide +kernel
theorem dX9_pair_6 : decode cX9_pair 6 = .ok (.aload_n 0, 1) := by decide +kernel
theorem dX9_pair_7 : decode cX9_pair 7 = .ok (.getfield 145, 3) := by decide +kernel
theorem dX9_pair_10 : decode cX9_pair 10 = .ok (.iconst 1, 1) := by decide +kernel
theorem dX9_pair_11 : decode cX9_pair 11 = .ok (.isub, 1) := by decide +kernel
theorem dX9_pair_12 : decode cX9_pair 12 = .ok (.invokestatic 47, 3) := by decide +kernel
theorem dX9_pair_15 : decode cX9_pair 15 = .ok (.ifCond .eq 26, 3) := by decide +kernel
theorem dX9_pair_18 : decode cX9_pair 18 = .ok (.iload_n 2, 1) := by decide +kernel
theorem dX9_pair_19 : decode cX9_pair 19 = .ok (.iconst 0, 1) := by decide +kernel
theorem dX9_pair_20 : decode cX9_pair 20 = .ok (.aload_n 0, 1) := by decide +kernel
theorem dX9_pair_21 : decode cX9_pair 21 = .ok (.getfield 145, 3) := by decide +kernel
theorem dX9_pair_24 : decode cX9_pair 24 = .ok (.iconst 1, 1) := by decide +kernel
theorem dX9_pair_25 : decode cX9_pair 25 = .ok (.isub, 1) := by decide +kernel
theorem dX9_pair_26 : decode cX9_pair 26 = .ok (.invokestatic 47, 3) := by decide +kernel
theorem dX9_pair_29 : decode cX9_pair 29 = .ok (.ifCond .eq 12, 3) := by decide +kernel
theorem dX9_pair_32 : decode cX9_pair 32 = .ok (.iload_n 3, 1) := by decide +kernel
theorem dX9_pair_33 : decode cX9_pair 33 = .ok (.iconst 0, 1) := by decide +kernel
theorem dX9_pair_34 : decode cX9_pair 34 = .ok (.iconst 3, 1) := by decide +kernel
theorem dX9_pair_35 : decode cX9_pair 35 = .ok (.invokestatic 47, 3) := by decide +kernel
theorem dX9_pair_38 : decode cX9_pair 38 = .ok (.ifCond .ne 6, 3) := by decide +kernel
theorem dX9_pair_41 : decode cX9_pair 41 = .ok (.bipush (-2), 2) := by decide +kernel
theorem dX9_pair_43 : decode cX9_pair 43 = .ok (.ireturn, 1) := by decide +kernel
theorem dX9_pair_44 : decode cX9_pair 44 = .ok (.aload_n 0, 1) := by decide +kernel
theorem dX9_pair_45 : decode cX9_pair 45 = .ok (.getfield 32, 3) := by decide +kernel
theorem dX9_pair_48 : decode cX9_pair 48 = .ok (.iload_n 1, 1) := by decide +kernel
theorem dX9_pair_49 : decode cX9_pair 49 = .ok (.iaload, 1) := by decide +kernel
theorem dX9_pair_50 : decode cX9_pair 50 = .ok (.istore 4, 2) := by decide +kernel
theorem dX9_pair_52 : decode cX9_pair 52 = .ok (.aload_n 0, 1) := by decide +kernel
theorem dX9_pair_53 : decode cX9_pair 53 = .ok (.getfield 32, 3) := by decide +kernel
theorem dX9_pair_56 : decode cX9_pair 56 = .ok (.iload_n 2, 1) := by decide +kernel
theorem dX9_pair_57 : decode cX9_pair 57 = .ok (.iaload, 1) := by decide +kernel
theorem dX9_pair_58 : decode cX9_pair 58 = .ok (.istore 5, 2) := by decide +kernel
theorem dX9_pair_60 : decode cX9_pair 60 = .ok (.iload_n 3, 1) := by decide +kernel
theorem dX9_pair_61 : decode cX9_pair 61 = .ok (.iconst 2, 1) := by decide +kernel
theorem dX9_pair_62 : decode cX9_pair 62 = .ok (.if_icmp .ge 23, 3) := by decide +kernel
theorem dX9_pair_65 : decode cX9_pair 65 = .ok (.aload_n 0, 1) := by decide +kernel
theorem dX9_pair_66 : decode cX9_pair 66 = .ok (.iload 4, 2) := by decide +kernel
theorem dX9_pair_68 : decode cX9_pair 68 = .ok (.iload 5, 2) := by decide +kernel
theorem dX9_pair_70 : decode cX9_pair 70 = .ok (.iload_n 3, 1) := by decide +kernel
theorem dX9_pair_71 : decode cX9_pair 71 = .ok (.ifCond .ne 7, 3) := by decide +kernel
theorem dX9_pair_74 : decode cX9_pair 74 = .ok (.iconst 1, 1) := by decide +kernel
theorem dX9_pair_75 : decode cX9_pair 75 = .ok (.goto 4, 3) := by decide +kernel
theorem dX9_pair_78 : decode cX9_pair 78 = .ok (.iconst 0, 1) := by decide +kernel
theorem dX9_pair_79 : decode cX9_pair 79 = .ok (.invokevirtual 169, 3) := by decide +kernel
theorem dX9_pair_82 : decode cX9_pair 82 = .ok (.goto 38, 3) := by decide +kernel
theorem dX9_pair_85 : decode cX9_pair 85 = .ok (.iload_n 3, 1) := by decide +kernel
theorem dX9_pair_86 : decode cX9_pair 86 = .ok (.iconst 2, 1) := by decide +kernel
theorem dX9_pair_87 : decode cX9_pair 87 = .ok (.if_icmp .ne 17, 3) := by decide +kernel
theorem dX9_pair_90 : decode cX9_pair 90 = .ok (.aload_n 0, 1) := by decide +kernel
theorem dX9_pair_91 : decode cX9_pair 91 = .ok (.iload 4, 2) := by decide +kernel
theorem dX9_pair_93 : decode cX9_pair 93 = .ok (.iload 5, 2) := by decide +kernel
theorem dX9_pair_95 : decode cX9_pair 95 = .ok (.invokevirtual 173, 3) := by decide +kernel
theorem dX9_pair_98 : decode cX9_pair 98 = .ok (.ifCond .eq 21, 3) := by decide +kernel
theorem dX9_pair_101 : decode cX9_pair 101 = .ok (.goto 14, 3) := by decide +kernel
theorem dX9_pair_104 : decode cX9_pair 104 = .ok (.aload_n 0, 1) := by decide +kernel
theorem dX9_pair_105 : decode cX9_pair 105 = .ok (.iload 4, 2) := by decide +kernel
theorem dX9_pair_107 : decode cX9_pair 107 = .ok (.iload 5, 2) := by decide +kernel
theorem dX9_pair_109 : decode cX9_pair 109 = .ok (.invokevirtual 163, 3) := by decide +kernel
theorem dX9_pair_112 : decode cX9_pair 112 = .ok (.ifCond .eq 7, 3) := by decide +kernel
theorem dX9_pair_115 : decode cX9_pair 115 = .ok (.iconst 1, 1) := by decide +kernel
theorem dX9_pair_116 : decode cX9_pair 116 = .ok (.goto 4, 3) := by decide +kernel
theorem dX9_pair_119 : decode cX9_pair 119 = .ok (.iconst 0, 1) := by decide +kernel
theorem dX9_pair_120 : decode cX9_pair 120 = .ok (.ireturn, 1) := by decide +kernel
theorem dX9_to_0 : decode cX9_to 0 = .ok (.iload_n 0, 1) := by decide +kernel
theorem dX9_to_1 : decode cX9_to 1 = .ok (.iconst 2, 1) := by decide +kernel
theorem dX9_to_2 : decode cX9_to 2 = .ok (.iload_n 1, 1) := by decide +kernel
theorem dX9_to_3 : decode cX9_to 3 = .ok (.imul, 1) := by decide +kernel
theorem dX9_to_4 : decode cX9_to 4 = .ok (.ishr, 1) := by decide +kernel
theorem dX9_to_5 : decode cX9_to 5 = .ok (.iconst 3, 1) := by decide +kernel
theorem dX9_to_6 : decode cX9_to 6 = .ok (.iand, 1) := by decide +kernel
theorem dX9_to_7 : decode cX9_to 7 = .ok (.ireturn, 1) := by decide +kernel
set_option maxRecDepth 20000 in
theorem ggX9_isMap_X9_size : GoodIn wsX9_isMap wsX9_size := goodIn_r _ [5, 6, 18, 19, 20, 21, 22, 23, 24, 25, 26, 27, 28, 29, 30, 31, 32, 33, 34, 35, 36, 37, 38] (by decide +kernel) (by decide +kernel)
set_option maxRecDepth 20000 in
theorem gX9_isMap_X9_size : GoodIn wsX9_isMap (wsV RX9 43 RX9 yX9_size wsX9_size) := goodIn_app (goodIn_of _ (by decide +kernel)) ggX9_isMap_X9_size
set_option maxRecDepth 20000 in
theorem ggX9_isMap_X9_to : GoodIn wsX9_isMap wsX9_to := goodIn_r _ [9] (by decide +kernel) (by decide +kernel)
set_option maxRecDepth 20000 in
theorem gX9_isMap_X9_to : GoodIn wsX9_isMap (va_wsS RX9 176 yX9_to wsX9_to) := goodIn_app (goodIn_of _ (by decide +kernel)) ggX9_isMap_X9_to
set_option maxRecDepth 20000 in
theorem ggX9_isMap_X9_gg : GoodIn wsX9_isMap wsX9_gg := goodIn_r _ [13, 6, 18, 19, 20, 21, 22, 23, 24, 25, 26, 27, 28, 29, 30, 31, 32, 33, 34, 35, 36, 37, 38] (by decide +kernel) (by decide +kernel)
set_option maxRecDepth 20000 in
theorem gX9_isMap_X9_gg : GoodIn wsX9_isMap (wsV RX9 110 RX9 yX9_gg wsX9_gg) := goodIn_app (goodIn_of _ (by decide +kernel)) ggX9_isMap_X9_gg
set_option maxRecDepth 20000 in
theorem ggX9_isMap_X9_ff : GoodIn wsX9_isMap wsX9_ff := goodIn_r _ [17, 6, 18, 19, 20, 21, 22, 23, 24, 25, 26, 27, 28, 29, 30, 31, 32, 33, 34, 35, 36, 37, 38] (by decide +kernel) (by decide +kernel)
set_option maxRecDepth 20000 in
theorem gX9_isMap_X9_ff : GoodIn wsX9_isMap (wsV RX9 106 RX9 yX9_ff wsX9_ff) := goodIn_app (goodIn_of _ (by decide +kernel)) ggX9_isMap_X9_ff
theorem dX9_isMap_0 : decode cX9_isMap 0 = .ok (.iconst 1, 1) := by decide +kernel
theorem dX9_isMap_1 : decode cX9_isMap 1 = .ok (.istore_n 2, 1) := by decide +kernel
theorem dX9_isMap_2 : decode cX9_isMap 2 = .ok (.iconst 0, 1) := by decide +kernel
theorem dX9_isMap_3 : decode cX9_isMap 3 = .ok (.istore_n 3, 1) := by decide +kernel
theorem dX9_isMap_4 : decode cX9_isMap 4 = .ok (.iload_n 3, 1) := by decide +kernel
theorem dX9_isMap_5 : decode cX9_isMap 5 = .ok (.iconst 4, 1) := by decide +kernel
theorem dX9_isMap_6 : decode cX9_isMap 6 = .ok (.if_icmp .ge 50, 3) := by decide +kernel
theorem dX9_isMap_9 : decode cX9_isMap 9 = .ok (.iload_n 2, 1) := by decide +kernel
theorem dX9_isMap_10 : decode cX9_isMap 10 = .ok (.ifCond .eq 38, 3) := by decide +kernel
theorem dX9_isMap_13 : decode cX9_isMap 13 = .ok (.iload_n 3, 1) := by decide +kernel
theorem dX9_isMap_14 : decode cX9_isMap 14 = .ok (.aload_n 0, 1) := by decide +kernel
theorem dX9_isMap_15 : decode cX9_isMap 15 = .ok (.invokevirtual 43, 3) := by decide +kernel
theorem dX9_isMap_18 : decode cX9_isMap 18 = .ok (.if_icmp .ge 18, 3) := by decide +kernel
theorem dX9_isMap_21 : decode cX9_isMap 21 = .ok (.iload_n 1, 1) := by decide +kernel
theorem dX9_isMap_22 : decode cX9_isMap 22 = .ok (.iload_n 3, 1) := by decide +kernel
theorem dX9_isMap_23 : decode cX9_isMap 23 = .ok (.invokestatic 176, 3) := by decide +kernel
theorem dX9_isMap_26 : decode cX9_isMap 26 = .ok (.aload_n 0, 1) := by decide +kernel
theorem dX9_isMap_27 : decode cX9_isMap 27 = .ok (.invokevirtual 43, 3) := by decide +kernel
theorem dX9_isMap_30 : decode cX9_isMap 30 = .ok (.if_icmp .ge 18, 3) := by decide +kernel
theorem dX9_isMap_33 : decode cX9_isMap 33 = .ok (.goto 11, 3) := by decide +kernel
theorem dX9_isMap_36 : decode cX9_isMap 36 = .ok (.iload_n 1, 1) := by decide +kernel
theorem dX9_isMap_37 : decode cX9_isMap 37 = .ok (.iload_n 3, 1) := by decide +kernel
theorem dX9_isMap_38 : decode cX9_isMap 38 = .ok (.invokestatic 176, 3) := by decide +kernel
theorem dX9_isMap_41 : decode cX9_isMap 41 = .ok (.ifCond .ne 7, 3) := by decide +kernel
theorem dX9_isMap_44 : decode cX9_isMap 44 = .ok (.iconst 1, 1) := by decide +kernel
theorem dX9_isMap_45 : decode cX9_isMap 45 = .ok (.goto 4, 3) := by decide +kernel
theorem dX9_isMap_48 : decode cX9_isMap 48 = .ok (.iconst 0, 1) := by decide +kernel
theorem dX9_isMap_49 : decode cX9_isMap 49 = .ok (.istore_n 2, 1) := by decide +kernel
theorem dX9_isMap_50 : decode cX9_isMap 50 = .ok (.iinc 3 1, 3) := by decide +kernel
theorem dX9_isMap_53 : decode cX9_isMap 53 = .ok (.goto (-49), 3) := by decide +kernel
theorem dX9_isMap_56 : decode cX9_isMap 56 = .ok (.iconst 0, 1) := by decide +kernel
theorem dX9_isMap_57 : decode cX9_isMap 57 = .ok (.istore_n 3, 1) := by decide +kernel
theorem dX9_isMap_58 : decode cX9_isMap 58 = .ok (.iload_n 2, 1) := by decide +kernel
theorem dX9_isMap_59 : decode cX9_isMap 59 = .ok (.ifCond .eq 101, 3) := by decide +kernel
theorem dX9_isMap_62 : decode cX9_isMap 62 = .ok (.iload_n 3, 1) := by decide +kernel
theorem dX9_isMap_63 : decode cX9_isMap 63 = .ok (.aload_n 0, 1) := by decide +kernel
theorem dX9_isMap_64 : decode cX9_isMap 64 = .ok (.invokevirtual 43, 3) := by decide +kernel
theorem dX9_isMap_67 : decode cX9_isMap 67 = .ok (.if_icmp .ge 93, 3) := by decide +kernel
theorem dX9_isMap_70 : decode cX9_isMap 70 = .ok (.iload_n 1, 1) := by decide +kernel
theorem dX9_isMap_71 : decode cX9_isMap 71 = .ok (.aload_n 0, 1) := by decide +kernel
theorem dX9_isMap_72 : decode cX9_isMap 72 = .ok (.iload_n 3, 1) := by decide +kernel
theorem dX9_isMap_73 : decode cX9_isMap 73 = .ok (.invokevirtual 110, 3) := by decide +kernel
theorem dX9_isMap_76 : decode cX9_isMap 76 = .ok (.invokestatic 176, 3) := by decide +kernel
theorem dX9_isMap_79 : decode cX9_isMap 79 = .ok (.aload_n 0, 1) := by decide +kernel
theorem dX9_isMap_80 : decode cX9_isMap 80 = .ok (.iload_n 1, 1) := by decide +kernel
theorem dX9_isMap_81 : decode cX9_isMap 81 = .ok (.iload_n 3, 1) := by decide +kernel
theorem dX9_isMap_82 : decode cX9_isMap 82 = .ok (.invokestatic 176, 3) := by decide +kernel
theorem dX9_isMap_85 : decode cX9_isMap 85 = .ok (.invokevirtual 110, 3) := by decide +kernel
theorem dX9_isMap_88 : decode cX9_isMap 88 = .ok (.if_icmp .ne 7, 3) := by decide +kernel
theorem dX9_isMap_91 : decode cX9_isMap 91 = .ok (.iconst 1, 1) := by decide +kernel
theorem dX9_isMap_92 : decode cX9_isMap 92 = .ok (.goto 4, 3) := by decide +kernel
theorem dX9_isMap_95 : decode cX9_isMap 95 = .ok (.iconst 0, 1) := by decide +kernel
theorem dX9_isMap_96 : decode cX9_isMap 96 = .ok (.istore_n 2, 1) := by decide +kernel
theorem dX9_isMap_97 : decode cX9_isMap 97 = .ok (.iconst 0, 1) := by decide +kernel
theorem dX9_isMap_98 : decode cX9_isMap 98 = .ok (.istore 4, 2) := by decide +kernel
theorem dX9_isMap_100 : decode cX9_isMap 100 = .ok (.iload_n 2, 1) := by decide +kernel
theorem dX9_isMap_101 : decode cX9_isMap 101 = .ok (.ifCond .eq 53, 3) := by decide +kernel
theorem dX9_isMap_104 : decode cX9_isMap 104 = .ok (.iload 4, 2) := by decide +kernel
theorem dX9_isMap_106 : decode cX9_isMap 106 = .ok (.aload_n 0, 1) := by decide +kernel
theorem dX9_isMap_107 : decode cX9_isMap 107 = .ok (.invokevirtual 43, 3) := by decide +kernel
theorem dX9_isMap_110 : decode cX9_isMap 110 = .ok (.if_icmp .ge 44, 3) := by decide +kernel
theorem dX9_isMap_113 : decode cX9_isMap 113 = .ok (.iload_n 1, 1) := by decide +kernel
theorem dX9_isMap_114 : decode cX9_isMap 114 = .ok (.aload_n 0, 1) := by decide +kernel
theorem dX9_isMap_115 : decode cX9_isMap 115 = .ok (.iload_n 3, 1) := by decide +kernel
theorem dX9_isMap_116 : decode cX9_isMap 116 = .ok (.iload 4, 2) := by decide +kernel
theorem dX9_isMap_118 : decode cX9_isMap 118 = .ok (.invokevirtual 106, 3) := by decide +kernel
theorem dX9_isMap_121 : decode cX9_isMap 121 = .ok (.invokestatic 176, 3) := by decide +kernel
theorem dX9_isMap_124 : decode cX9_isMap 124 = .ok (.aload_n 0, 1) := by decide +kernel
theorem dX9_isMap_125 : decode cX9_isMap 125 = .ok (.iload_n 1, 1) := by decide +kernel
theorem dX9_isMap_126 : decode cX9_isMap 126 = .ok (.iload_n 3, 1) := by decide +kernel
theorem dX9_isMap_127 : decode cX9_isMap 127 = .ok (.invokestatic 176, 3) := by decide +kernel
theorem dX9_isMap_130 : decode cX9_isMap 130 = .ok (.iload_n 1, 1) := by decide +kernel
theorem dX9_isMap_131 : decode cX9_isMap 131 = .ok (.iload 4, 2) := by decide +kernel
theorem dX9_isMap_133 : decode cX9_isMap 133 = .ok (.invokestatic 176, 3) := by decide +kernel
theorem dX9_isMap_136 : decode cX9_isMap 136 = .ok (.invokevirtual 106, 3) := by decide +kernel
theorem dX9_isMap_139 : decode cX9_isMap 139 = .ok (.if_icmp .ne 7, 3) := by decide +kernel
theorem dX9_isMap_142 : decode cX9_isMap 142 = .ok (.iconst 1, 1) := by decide +kernel
theorem dX9_isMap_143 : decode cX9_isMap 143 = .ok (.goto 4, 3) := by decide +kernel
theorem dX9_isMap_146 : decode cX9_isMap 146 = .ok (.iconst 0, 1) := by decide +kernel
theorem dX9_isMap_147 : decode cX9_isMap 147 = .ok (.istore_n 2, 1) := by decide +kernel
theorem dX9_isMap_148 : decode cX9_isMap 148 = .ok (.iinc 4 1, 3) := by decide +kernel
theorem dX9_isMap_151 : decode cX9_isMap 151 = .ok (.goto (-51), 3) := by decide +kernel
theorem dX9_isMap_154 : decode cX9_isMap 154 = .ok (.iinc 3 1, 3) := by decide +kernel
theorem dX9_isMap_157 : decode cX9_isMap 157 = .ok (.goto (-99), 3) := by decide +kernel
theorem dX9_isMap_160 : decode cX9_isMap 160 = .ok (.iload_n 2, 1) := by decide +kernel
theorem dX9_isMap_161 : decode cX9_isMap 161 = .ok (.ireturn, 1) := by decide +kernel
set_option maxRecDepth 20000 in
theorem ggX9_maps_X9_size : GoodIn wsX9_maps wsX9_size := goodIn_r _ [5, 6, 26, 27, 28, 29, 30, 31, 32, 33, 34, 35, 36, 37, 38, 39, 40, 41, 42, 43, 44, 45, 46] (by decide +kernel) (by decide +kernel)
set_option maxRecDepth 20000 in
theorem gX9_maps_X9_size : GoodIn wsX9_maps (wsV RX9 43 RX9 yX9_size wsX9_size) := goodIn_app (goodIn_of _ (by decide +kernel)) ggX9_maps_X9_size
set_option maxRecDepth 20000 in
theorem ggX9_maps_X9_to : GoodIn wsX9_maps wsX9_to := goodIn_r _ [9] (by decide +kernel) (by decide +kernel)
set_option maxRecDepth 20000 in
theorem gX9_maps_X9_to : GoodIn wsX9_maps (va_wsS RX9 176 yX9_to wsX9_to) := goodIn_app (goodIn_of _ (by decide +kernel)) ggX9_maps_X9_to
set_option maxRecDepth 20000 in
theorem ggX9_maps_X9_isMap : GoodIn wsX9_maps wsX9_isMap := goodIn_r _ [13, 1, 2, 3, 4, 5, 6, 7, 8, 9, 14, 15, 16, 17, 18, 19, 20, 21, 26, 27, 28, 29, 30, 31, 32, 33, 34, 35, 36, 37, 38, 39, 40, 41, 42, 43, 44, 45, 46] (by decide +kernel) (by decide +kernel)
set_option maxRecDepth 20000 in
theorem gX9_maps_X9_isMap : GoodIn wsX9_maps (wsV RX9 179 RX9 yX9_isMap wsX9_isMap) := goodIn_app (goodIn_of _ (by decide +kernel)) ggX9_maps_X9_isMap
set_option maxRecDepth 20000 in
theorem ggX9_maps_X9_setMany : GoodIn wsX9_maps wsX9_setMany := goodIn_r _ [25, 1, 2, 3, 4, 5, 6, 26, 27, 28, 29, 30, 31, 32, 33, 34, 35, 36, 37, 38, 39, 40, 41, 42, 43, 44, 45, 46] (by decide +kernel) (by decide +kernel)
set_option maxRecDepth 20000 in
theorem gX9_maps_X9_setMany : GoodIn wsX9_maps (wsV RX9 120 RX9 yX9_setMany wsX9_setMany) := goodIn_app (goodIn_of _ (by decide +kernel)) ggX9_maps_X9_setMany
theorem dX9_maps_0 : decode cX9_maps 0 = .ok (.iconst 0, 1) := by decide +kernel
theorem dX9_maps_1 : decode cX9_maps 1 = .ok (.istore_n 2, 1) := by decide +kernel
theorem dX9_maps_2 : decode cX9_maps 2 = .ok (.iconst 0, 1) := by decide +kernel
theorem dX9_maps_3 : decode cX9_maps 3 = .ok (.istore_n 3, 1) := by decide +kernel
theorem dX9_maps_4 : decode cX9_maps 4 = .ok (.iload_n 3, 1) := by decide +kernel
theorem dX9_maps_5 : decode cX9_maps 5 = .ok (.sipush 256, 3) := by decide +kernel
theorem dX9_maps_8 : decode cX9_maps 8 = .ok (.if_icmp .ge 74, 3) := by decide +kernel
theorem dX9_maps_11 : decode cX9_maps 11 = .ok (.iconst 0, 1) := by decide +kernel
theorem dX9_maps_12 : decode cX9_maps 12 = .ok (.istore 4, 2) := by decide +kernel
theorem dX9_maps_14 : decode cX9_maps 14 = .ok (.iconst 0, 1) := by decide +kernel
theorem dX9_maps_15 : decode cX9_maps 15 = .ok (.istore 5, 2) := by decide +kernel
theorem dX9_maps_17 : decode cX9_maps 17 = .ok (.iload 5, 2) := by decide +kernel
theorem dX9_maps_19 : decode cX9_maps 19 = .ok (.aload_n 0, 1) := by decide +kernel
theorem dX9_maps_20 : decode cX9_maps 20 = .ok (.invokevirtual 43, 3) := by decide +kernel
theorem dX9_maps_23 : decode cX9_maps 23 = .ok (.if_icmp .ge 22, 3) := by decide +kernel
theorem dX9_maps_26 : decode cX9_maps 26 = .ok (.iload 4, 2) := by decide +kernel
theorem dX9_maps_28 : decode cX9_maps 28 = .ok (.iconst 1, 1) := by decide +kernel
theorem dX9_maps_29 : decode cX9_maps 29 = .ok (.iload_n 3, 1) := by decide +kernel
theorem dX9_maps_30 : decode cX9_maps 30 = .ok (.iload 5, 2) := by decide +kernel
theorem dX9_maps_32 : decode cX9_maps 32 = .ok (.invokestatic 176, 3) := by decide +kernel
theorem dX9_maps_35 : decode cX9_maps 35 = .ok (.ishl, 1) := by decide +kernel
theorem dX9_maps_36 : decode cX9_maps 36 = .ok (.ior, 1) := by decide +kernel
theorem dX9_maps_37 : decode cX9_maps 37 = .ok (.istore 4, 2) := by decide +kernel
theorem dX9_maps_39 : decode cX9_maps 39 = .ok (.iinc 5 1, 3) := by decide +kernel
theorem dX9_maps_42 : decode cX9_maps 42 = .ok (.goto (-25), 3) := by decide +kernel
theorem dX9_maps_45 : decode cX9_maps 45 = .ok (.iload_n 2, 1) := by decide +kernel
theorem dX9_maps_46 : decode cX9_maps 46 = .ok (.aload_n 0, 1) := by decide +kernel
theorem dX9_maps_47 : decode cX9_maps 47 = .ok (.iload_n 3, 1) := by decide +kernel
theorem dX9_maps_48 : decode cX9_maps 48 = .ok (.invokevirtual 179, 3) := by decide +kernel
theorem dX9_maps_51 : decode cX9_maps 51 = .ok (.ifCond .eq 22, 3) := by decide +kernel
theorem dX9_maps_54 : decode cX9_maps 54 = .ok (.iload_n 1, 1) := by decide +kernel
theorem dX9_maps_55 : decode cX9_maps 55 = .ok (.ifCond .eq 14, 3) := by decide +kernel
theorem dX9_maps_58 : decode cX9_maps 58 = .ok (.iload 4, 2) := by decide +kernel
theorem dX9_maps_60 : decode cX9_maps 60 = .ok (.aload_n 0, 1) := by decide +kernel
theorem dX9_maps_61 : decode cX9_maps 61 = .ok (.invokevirtual 120, 3) := by decide +kernel
theorem dX9_maps_64 : decode cX9_maps 64 = .ok (.iconst 1, 1) := by decide +kernel
theorem dX9_maps_65 : decode cX9_maps 65 = .ok (.isub, 1) := by decide +kernel
theorem dX9_maps_66 : decode cX9_maps 66 = .ok (.if_icmp .ne 7, 3) := by decide +kernel
theorem dX9_maps_69 : decode cX9_maps 69 = .ok (.iconst 1, 1) := by decide +kernel
theorem dX9_maps_70 : decode cX9_maps 70 = .ok (.goto 4, 3) := by decide +kernel
theorem dX9_maps_73 : decode cX9_maps 73 = .ok (.iconst 0, 1) := by decide +kernel
theorem dX9_maps_74 : decode cX9_maps 74 = .ok (.iadd, 1) := by decide +kernel
theorem dX9_maps_75 : decode cX9_maps 75 = .ok (.istore_n 2, 1) := by decide +kernel
theorem dX9_maps_76 : decode cX9_maps 76 = .ok (.iinc 3 1, 3) := by decide +kernel
theorem dX9_maps_79 : decode cX9_maps 79 = .ok (.goto (-75), 3) := by decide +kernel
theorem dX9_maps_82 : decode cX9_maps 82 = .ok (.iload_n 2, 1) := by decide +kernel
theorem dX9_maps_83 : decode cX9_maps 83 = .ok (.ireturn, 1) := by decide +kernel
theorem dX9_isTerm_0 : decode cX9_isTerm 0 = .ok (.iconst 0, 1) := by decide +kernel
theorem dX9_isTerm_1 : decode cX9_isTerm 1 = .ok (.istore_n 3, 1) := by decide +kernel
theorem dX9_isTerm_2 : decode cX9_isTerm 2 = .ok (.iload_n 3, 1) := by decide +kernel
theorem dX9_isTerm_3 : decode cX9_isTerm 3 = .ok (.aload_n 0, 1) := by decide +kernel
theorem dX9_isTerm_4 : decode cX9_isTerm 4 = .ok (.getfield 182, 3) := by decide +kernel
theorem dX9_isTerm_7 : decode cX9_isTerm 7 = .ok (.if_icmp .ge 22, 3) := by decide +kernel
theorem dX9_isTerm_10 : decode cX9_isTerm 10 = .ok (.aload_n 0, 1) := by decide +kernel
theorem dX9_isTerm_11 : decode cX9_isTerm 11 = .ok (.getfield 35, 3) := by decide +kernel
theorem dX9_isTerm_14 : decode cX9_isTerm 14 = .ok (.iload_n 3, 1) := by decide +kernel
theorem dX9_isTerm_15 : decode cX9_isTerm 15 = .ok (.laload, 1) := by decide +kernel
theorem dX9_isTerm_16 : decode cX9_isTerm 16 = .ok (.lload_n 1, 1) := by decide +kernel
theorem dX9_isTerm_17 : decode cX9_isTerm 17 = .ok (.lcmp, 1) := by decide +kernel
theorem dX9_isTerm_18 : decode cX9_isTerm 18 = .ok (.ifCond .ne 5, 3) := by decide +kernel
theorem dX9_isTerm_21 : decode cX9_isTerm 21 = .ok (.iconst 1, 1) := by decide +kernel
theorem dX9_isTerm_22 : decode cX9_isTerm 22 = .ok (.ireturn, 1) := by decide +kernel
theorem dX9_isTerm_23 : decode cX9_isTerm 23 = .ok (.iinc 3 1, 3) := by decide +kernel
theorem dX9_isTerm_26 : decode cX9_isTerm 26 = .ok (.goto (-24), 3) := by decide +kernel
theorem dX9_isTerm_29 : decode cX9_isTerm 29 = .ok (.iconst 0, 1) := by decide +kernel
theorem dX9_isTerm_30 : decode cX9_isTerm 30 = .ok (.ireturn, 1) := by decide +kernel
set_option maxRecDepth 20000 in
theorem ggX9_comes_X9_isTerm : GoodIn wsX9_comes wsX9_isTerm := goodIn_r _ [7, 2, 1, 8, 9, 10, 11, 12, 13, 14, 15, 16, 17, 18, 19, 20, 21, 22, 23, 24, 25, 26, 27, 28] (by decide +kernel) (by decide +kernel)
set_option maxRecDepth 20000 in
theorem gX9_comes_X9_isTerm : GoodIn wsX9_comes (wsV RX9 185 RX9 yX9_isTerm wsX9_isTerm) := goodIn_app (goodIn_of _ (by decide +kernel)) ggX9_comes_X9_isTerm
theorem dX9_comes_0 : decode cX9_comes 0 = .ok (.aload_n 0, 1) := by decide +kernel
theorem dX9_comes_1 : decode cX9_comes 1 = .ok (.lload_n 1, 1) := by decide +kernel
theorem dX9_comes_2 : decode cX9_comes 2 = .ok (.invokevirtual 185, 3) := by decide +kernel
theorem dX9_comes_5 : decode cX9_comes 5 = .ok (.ifCond .ne 23, 3) := by decide +kernel
theorem dX9_comes_8 : decode cX9_comes 8 = .ok (.aload_n 0, 1) := by decide +kernel
theorem dX9_comes_9 : decode cX9_comes 9 = .ok (.getfield 35, 3) := by decide +kernel
theorem dX9_comes_12 : decode cX9_comes 12 = .ok (.aload_n 0, 1) := by decide +kernel
theorem dX9_comes_13 : decode cX9_comes 13 = .ok (.getfield 182, 3) := by decide +kernel
theorem dX9_comes_16 : decode cX9_comes 16 = .ok (.lload_n 1, 1) := by decide +kernel
theorem dX9_comes_17 : decode cX9_comes 17 = .ok (.lastore, 1) := by decide +kernel
theorem dX9_comes_18 : decode cX9_comes 18 = .ok (.aload_n 0, 1) := by decide +kernel
theorem dX9_comes_19 : decode cX9_comes 19 = .ok (.dup, 1) := by decide +kernel
theorem dX9_comes_20 : decode cX9_comes 20 = .ok (.getfield 182, 3) := by decide +kernel
theorem dX9_comes_23 : decode cX9_comes 23 = .ok (.iconst 1, 1) := by decide +kernel
theorem dX9_comes_24 : decode cX9_comes 24 = .ok (.iadd, 1) := by decide +kernel
theorem dX9_comes_25 : decode cX9_comes 25 = .ok (.putfield 182, 3) := by decide +kernel
theorem dX9_comes_28 : decode cX9_comes 28 = .ok (.return_, 1) := by decide +kernel
set_option maxRecDepth 20000 in
theorem ggX9_fOf_X9_ff : GoodIn wsX9_fOf wsX9_ff := goodIn_r _ [6, 7, 8, 9, 10, 11, 12, 13, 14, 15, 16, 17, 18, 19, 20, 21, 22, 23, 24, 25, 26, 27, 28] (by decide +kernel) (by decide +kernel)
set_option maxRecDepth 20000 in
theorem gX9_fOf_X9_ff : GoodIn wsX9_fOf (wsV RX9 106 RX9 yX9_ff wsX9_ff) := goodIn_app (goodIn_of _ (by decide +kernel)) ggX9_fOf_X9_ff
theorem dX9_fOf_0 : decode cX9_fOf 0 = .ok (.lconst 0, 1) := by decide +kernel
theorem dX9_fOf_1 : decode cX9_fOf 1 = .ok (.lstore 6, 2) := by decide +kernel
theorem dX9_fOf_3 : decode cX9_fOf 3 = .ok (.iconst 0, 1) := by decide +kernel
theorem dX9_fOf_4 : decode cX9_fOf 4 = .ok (.istore 8, 2) := by decide +kernel
theorem dX9_fOf_6 : decode cX9_fOf 6 = .ok (.iload 8, 2) := by decide +kernel
theorem dX9_fOf_8 : decode cX9_fOf 8 = .ok (.iload 5, 2) := by decide +kernel
theorem dX9_fOf_10 : decode cX9_fOf 10 = .ok (.if_icmp .ge 46, 3) := by decide +kernel
theorem dX9_fOf_13 : decode cX9_fOf 13 = .ok (.lload 6, 2) := by decide +kernel
theorem dX9_fOf_15 : decode cX9_fOf 15 = .ok (.aload_n 0, 1) := by decide +kernel
theorem dX9_fOf_16 : decode cX9_fOf 16 = .ok (.lload_n 1, 1) := by decide +kernel
theorem dX9_fOf_17 : decode cX9_fOf 17 = .ok (.iconst 2, 1) := by decide +kernel
theorem dX9_fOf_18 : decode cX9_fOf 18 = .ok (.iload 8, 2) := by decide +kernel
theorem dX9_fOf_20 : decode cX9_fOf 20 = .ok (.imul, 1) := by decide +kernel
theorem dX9_fOf_21 : decode cX9_fOf 21 = .ok (.lshr, 1) := by decide +kernel
theorem dX9_fOf_22 : decode cX9_fOf 22 = .ok (.ldc2_w 189, 3) := by decide +kernel
theorem dX9_fOf_25 : decode cX9_fOf 25 = .ok (.land, 1) := by decide +kernel
theorem dX9_fOf_26 : decode cX9_fOf 26 = .ok (.l2i, 1) := by decide +kernel
theorem dX9_fOf_27 : decode cX9_fOf 27 = .ok (.lload_n 3, 1) := by decide +kernel
theorem dX9_fOf_28 : decode cX9_fOf 28 = .ok (.iconst 2, 1) := by decide +kernel
theorem dX9_fOf_29 : decode cX9_fOf 29 = .ok (.iload 8, 2) := by decide +kernel
theorem dX9_fOf_31 : decode cX9_fOf 31 = .ok (.imul, 1) := by decide +kernel
theorem dX9_fOf_32 : decode cX9_fOf 32 = .ok (.lshr, 1) := by decide +kernel
theorem dX9_fOf_33 : decode cX9_fOf 33 = .ok (.ldc2_w 189, 3) := by decide +kernel
theorem dX9_fOf_36 : decode cX9_fOf 36 = .ok (.land, 1) := by decide +kernel
theorem dX9_fOf_37 : decode cX9_fOf 37 = .ok (.l2i, 1) := by decide +kernel
theorem dX9_fOf_38 : decode cX9_fOf 38 = .ok (.invokevirtual 106, 3) := by decide +kernel
theorem dX9_fOf_41 : decode cX9_fOf 41 = .ok (.i2l, 1) := by decide +kernel
theorem dX9_fOf_42 : decode cX9_fOf 42 = .ok (.iconst 2, 1) := by decide +kernel
theorem dX9_fOf_43 : decode cX9_fOf 43 = .ok (.iload 8, 2) := by decide +kernel
theorem dX9_fOf_45 : decode cX9_fOf 45 = .ok (.imul, 1) := by decide +kernel
theorem dX9_fOf_46 : decode cX9_fOf 46 = .ok (.lshl, 1) := by decide +kernel
theorem dX9_fOf_47 : decode cX9_fOf 47 = .ok (.lor, 1) := by decide +kernel
theorem dX9_fOf_48 : decode cX9_fOf 48 = .ok (.lstore 6, 2) := by decide +kernel
theorem dX9_fOf_50 : decode cX9_fOf 50 = .ok (.iinc 8 1, 3) := by decide +kernel
theorem dX9_fOf_53 : decode cX9_fOf 53 = .ok (.goto (-47), 3) := by decide +kernel
theorem dX9_fOf_56 : decode cX9_fOf 56 = .ok (.lload 6, 2) := by decide +kernel
theorem dX9_fOf_58 : decode cX9_fOf 58 = .ok (.lreturn, 1) := by decide +kernel
set_option maxRecDepth 20000 in
theorem ggX9_gOf_X9_gg : GoodIn wsX9_gOf wsX9_gg := goodIn_r _ [6, 7, 8, 9, 10, 11, 12, 13, 14, 15, 16, 17, 18, 19, 20, 21, 22, 23, 24, 25, 26, 27, 28] (by decide +kernel) (by decide +kernel)
set_option maxRecDepth 20000 in
theorem gX9_gOf_X9_gg : GoodIn wsX9_gOf (wsV RX9 110 RX9 yX9_gg wsX9_gg) := goodIn_app (goodIn_of _ (by decide +kernel)) ggX9_gOf_X9_gg
theorem dX9_gOf_0 : decode cX9_gOf 0 = .ok (.lconst 0, 1) := by decide +kernel
theorem dX9_gOf_1 : decode cX9_gOf 1 = .ok (.lstore 4, 2) := by decide +kernel
theorem dX9_gOf_3 : decode cX9_gOf 3 = .ok (.iconst 0, 1) := by decide +kernel
theorem dX9_gOf_4 : decode cX9_gOf 4 = .ok (.istore 6, 2) := by decide +kernel
theorem dX9_gOf_6 : decode cX9_gOf 6 = .ok (.iload 6, 2) := by decide +kernel
theorem dX9_gOf_8 : decode cX9_gOf 8 = .ok (.iload_n 3, 1) := by decide +kernel
theorem dX9_gOf_9 : decode cX9_gOf 9 = .ok (.if_icmp .ge 35, 3) := by decide +kernel
theorem dX9_gOf_12 : decode cX9_gOf 12 = .ok (.lload 4, 2) := by decide +kernel
theorem dX9_gOf_14 : decode cX9_gOf 14 = .ok (.aload_n 0, 1) := by decide +kernel
theorem dX9_gOf_15 : decode cX9_gOf 15 = .ok (.lload_n 1, 1) := by decide +kernel
theorem dX9_gOf_16 : decode cX9_gOf 16 = .ok (.iconst 2, 1) := by decide +kernel
theorem dX9_gOf_17 : decode cX9_gOf 17 = .ok (.iload 6, 2) := by decide +kernel
theorem dX9_gOf_19 : decode cX9_gOf 19 = .ok (.imul, 1) := by decide +kernel
theorem dX9_gOf_20 : decode cX9_gOf 20 = .ok (.lshr, 1) := by decide +kernel
theorem dX9_gOf_21 : decode cX9_gOf 21 = .ok (.ldc2_w 189, 3) := by decide +kernel
theorem dX9_gOf_24 : decode cX9_gOf 24 = .ok (.land, 1) := by decide +kernel
theorem dX9_gOf_25 : decode cX9_gOf 25 = .ok (.l2i, 1) := by decide +kernel
theorem dX9_gOf_26 : decode cX9_gOf 26 = .ok (.invokevirtual 110, 3) := by decide +kernel
theorem dX9_gOf_29 : decode cX9_gOf 29 = .ok (.i2l, 1) := by decide +kernel
theorem dX9_gOf_30 : decode cX9_gOf 30 = .ok (.iconst 2, 1) := by decide +kernel
theorem dX9_gOf_31 : decode cX9_gOf 31 = .ok (.iload 6, 2) := by decide +kernel
theorem dX9_gOf_33 : decode cX9_gOf 33 = .ok (.imul, 1) := by decide +kernel
theorem dX9_gOf_34 : decode cX9_gOf 34 = .ok (.lshl, 1) := by decide +kernel
theorem dX9_gOf_35 : decode cX9_gOf 35 = .ok (.lor, 1) := by decide +kernel
theorem dX9_gOf_36 : decode cX9_gOf 36 = .ok (.lstore 4, 2) := by decide +kernel
theorem dX9_gOf_38 : decode cX9_gOf 38 = .ok (.iinc 6 1, 3) := by decide +kernel
theorem dX9_gOf_41 : decode cX9_gOf 41 = .ok (.goto (-35), 3) := by decide +kernel
theorem dX9_gOf_44 : decode cX9_gOf 44 = .ok (.lload 4, 2) := by decide +kernel
theorem dX9_gOf_46 : decode cX9_gOf 46 = .ok (.lreturn, 1) := by decide +kernel
set_option maxRecDepth 20000 in
theorem ggX9_goesRound_X9_gOf : GoodIn wsX9_goesRound wsX9_gOf := goodIn_r _ [7, 8, 9, 10, 11, 6, 12, 13, 30, 31, 32, 33, 34, 35, 36, 37, 38, 39, 40, 41, 42, 43, 44, 45, 46, 47, 48, 49, 50] (by decide +kernel) (by decide +kernel)
set_option maxRecDepth 20000 in
theorem gX9_goesRound_X9_gOf : GoodIn wsX9_goesRound (wsV RX9 191 RX9 yX9_gOf wsX9_gOf) := goodIn_app (goodIn_of _ (by decide +kernel)) ggX9_goesRound_X9_gOf
set_option maxRecDepth 20000 in
theorem ggX9_goesRound_X9_comes : GoodIn wsX9_goesRound wsX9_comes := goodIn_r _ [17, 2, 1, 18, 19, 20, 6, 21, 30, 31, 32, 33, 34, 35, 36, 37, 38, 39, 40, 41, 42, 43, 44, 45, 46, 47, 48, 49, 50] (by decide +kernel) (by decide +kernel)
set_option maxRecDepth 20000 in
theorem gX9_goesRound_X9_comes : GoodIn wsX9_goesRound (wsV RX9 195 RX9 yX9_comes wsX9_comes) := goodIn_app (goodIn_of _ (by decide +kernel)) ggX9_goesRound_X9_comes
set_option maxRecDepth 20000 in
theorem ggX9_goesRound_X9_fOf : GoodIn wsX9_goesRound wsX9_fOf := goodIn_r _ [25, 8, 26, 27, 28, 6, 29, 13, 30, 31, 32, 33, 34, 35, 36, 37, 38, 39, 40, 41, 42, 43, 44, 45, 46, 47, 48, 49, 50] (by decide +kernel) (by decide +kernel)
set_option maxRecDepth 20000 in
theorem gX9_goesRound_X9_fOf : GoodIn wsX9_goesRound (wsV RX9 199 RX9 yX9_fOf wsX9_fOf) := goodIn_app (goodIn_of _ (by decide +kernel)) ggX9_goesRound_X9_fOf
theorem dX9_goesRound_0 : decode cX9_goesRound 0 = .ok (.aload_n 0, 1) := by decide +kernel
theorem dX9_goesRound_1 : decode cX9_goesRound 1 = .ok (.getfield 182, 3) := by decide +kernel
theorem dX9_goesRound_4 : decode cX9_goesRound 4 = .ok (.istore_n 2, 1) := by decide +kernel
theorem dX9_goesRound_5 : decode cX9_goesRound 5 = .ok (.iconst 0, 1) := by decide +kernel
theorem dX9_goesRound_6 : decode cX9_goesRound 6 = .ok (.istore_n 3, 1) := by decide +kernel
theorem dX9_goesRound_7 : decode cX9_goesRound 7 = .ok (.iload_n 3, 1) := by decide +kernel
theorem dX9_goesRound_8 : decode cX9_goesRound 8 = .ok (.iload_n 2, 1) := by decide +kernel
theorem dX9_goesRound_9 : decode cX9_goesRound 9 = .ok (.if_icmp .ge 81, 3) := by decide +kernel
theorem dX9_goesRound_12 : decode cX9_goesRound 12 = .ok (.aload_n 0, 1) := by decide +kernel
theorem dX9_goesRound_13 : decode cX9_goesRound 13 = .ok (.getfield 182, 3) := by decide +kernel
theorem dX9_goesRound_16 : decode cX9_goesRound 16 = .ok (.sipush 200, 3) := by decide +kernel
theorem dX9_goesRound_19 : decode cX9_goesRound 19 = .ok (.if_icmp .gt 71, 3) := by decide +kernel
theorem dX9_goesRound_22 : decode cX9_goesRound 22 = .ok (.aload_n 0, 1) := by decide +kernel
theorem dX9_goesRound_23 : decode cX9_goesRound 23 = .ok (.aload_n 0, 1) := by decide +kernel
theorem dX9_goesRound_24 : decode cX9_goesRound 24 = .ok (.aload_n 0, 1) := by decide +kernel
theorem dX9_goesRound_25 : decode cX9_goesRound 25 = .ok (.getfield 35, 3) := by decide +kernel
theorem dX9_goesRound_28 : decode cX9_goesRound 28 = .ok (.iload_n 3, 1) := by decide +kernel
theorem dX9_goesRound_29 : decode cX9_goesRound 29 = .ok (.laload, 1) := by decide +kernel
theorem dX9_goesRound_30 : decode cX9_goesRound 30 = .ok (.iload_n 1, 1) := by decide +kernel
theorem dX9_goesRound_31 : decode cX9_goesRound 31 = .ok (.invokevirtual 191, 3) := by decide +kernel
theorem dX9_goesRound_34 : decode cX9_goesRound 34 = .ok (.invokevirtual 195, 3) := by decide +kernel
theorem dX9_goesRound_37 : decode cX9_goesRound 37 = .ok (.iconst 0, 1) := by decide +kernel
theorem dX9_goesRound_38 : decode cX9_goesRound 38 = .ok (.istore 4, 2) := by decide +kernel
theorem dX9_goesRound_40 : decode cX9_goesRound 40 = .ok (.iload 4, 2) := by decide +kernel
theorem dX9_goesRound_42 : decode cX9_goesRound 42 = .ok (.iload_n 2, 1) := by decide +kernel
theorem dX9_goesRound_43 : decode cX9_goesRound 43 = .ok (.if_icmp .ge 41, 3) := by decide +kernel
theorem dX9_goesRound_46 : decode cX9_goesRound 46 = .ok (.aload_n 0, 1) := by decide +kernel
theorem dX9_goesRound_47 : decode cX9_goesRound 47 = .ok (.getfield 182, 3) := by decide +kernel
theorem dX9_goesRound_50 : decode cX9_goesRound 50 = .ok (.sipush 200, 3) := by decide +kernel
theorem dX9_goesRound_53 : decode cX9_goesRound 53 = .ok (.if_icmp .gt 31, 3) := by decide +kernel
theorem dX9_goesRound_56 : decode cX9_goesRound 56 = .ok (.aload_n 0, 1) := by decide +kernel
theorem dX9_goesRound_57 : decode cX9_goesRound 57 = .ok (.aload_n 0, 1) := by decide +kernel
theorem dX9_goesRound_58 : decode cX9_goesRound 58 = .ok (.aload_n 0, 1) := by decide +kernel
theorem dX9_goesRound_59 : decode cX9_goesRound 59 = .ok (.getfield 35, 3) := by decide +kernel
theorem dX9_goesRound_62 : decode cX9_goesRound 62 = .ok (.iload_n 3, 1) := by decide +kernel
theorem dX9_goesRound_63 : decode cX9_goesRound 63 = .ok (.laload, 1) := by decide +kernel
theorem dX9_goesRound_64 : decode cX9_goesRound 64 = .ok (.aload_n 0, 1) := by decide +kernel
theorem dX9_goesRound_65 : decode cX9_goesRound 65 = .ok (.getfield 35, 3) := by decide +kernel
theorem dX9_goesRound_68 : decode cX9_goesRound 68 = .ok (.iload 4, 2) := by decide +kernel
theorem dX9_goesRound_70 : decode cX9_goesRound 70 = .ok (.laload, 1) := by decide +kernel
theorem dX9_goesRound_71 : decode cX9_goesRound 71 = .ok (.iload_n 1, 1) := by decide +kernel
theorem dX9_goesRound_72 : decode cX9_goesRound 72 = .ok (.invokevirtual 199, 3) := by decide +kernel
theorem dX9_goesRound_75 : decode cX9_goesRound 75 = .ok (.invokevirtual 195, 3) := by decide +kernel
theorem dX9_goesRound_78 : decode cX9_goesRound 78 = .ok (.iinc 4 1, 3) := by decide +kernel
theorem dX9_goesRound_81 : decode cX9_goesRound 81 = .ok (.goto (-41), 3) := by decide +kernel
theorem dX9_goesRound_84 : decode cX9_goesRound 84 = .ok (.iinc 3 1, 3) := by decide +kernel
theorem dX9_goesRound_87 : decode cX9_goesRound 87 = .ok (.goto (-80), 3) := by decide +kernel
theorem dX9_goesRound_90 : decode cX9_goesRound 90 = .ok (.aload_n 0, 1) := by decide +kernel
theorem dX9_goesRound_91 : decode cX9_goesRound 91 = .ok (.getfield 182, 3) := by decide +kernel
theorem dX9_goesRound_94 : decode cX9_goesRound 94 = .ok (.iload_n 2, 1) := by decide +kernel
theorem dX9_goesRound_95 : decode cX9_goesRound 95 = .ok (.if_icmp .le 7, 3) := by decide +kernel
theorem dX9_goesRound_98 : decode cX9_goesRound 98 = .ok (.iconst 1, 1) := by decide +kernel
theorem dX9_goesRound_99 : decode cX9_goesRound 99 = .ok (.goto 4, 3) := by decide +kernel
theorem dX9_goesRound_102 : decode cX9_goesRound 102 = .ok (.iconst 0, 1) := by decide +kernel
theorem dX9_goesRound_103 : decode cX9_goesRound 103 = .ok (.ireturn, 1) := by decide +kernel
set_option maxRecDepth 20000 in
theorem ggX9_letterRow_X9_size : GoodIn wsX9_letterRow wsX9_size := goodIn_r _ [5, 6, 10, 11, 12, 13, 14, 15, 16, 17, 18, 19, 20, 21, 22, 23, 24, 25, 26, 27, 28, 29, 30] (by decide +kernel) (by decide +kernel)
set_option maxRecDepth 20000 in
theorem gX9_letterRow_X9_size : GoodIn wsX9_letterRow (wsV RX9 43 RX9 yX9_size wsX9_size) := goodIn_app (goodIn_of _ (by decide +kernel)) ggX9_letterRow_X9_size
set_option maxRecDepth 20000 in
theorem ggX9_letterRow_X9_has : GoodIn wsX9_letterRow wsX9_has := goodIn_r _ [9] (by decide +kernel) (by decide +kernel)
set_option maxRecDepth 20000 in
theorem gX9_letterRow_X9_has : GoodIn wsX9_letterRow (va_wsS RX9 117 yX9_has wsX9_has) := goodIn_app (goodIn_of _ (by decide +kernel)) ggX9_letterRow_X9_has
theorem dX9_letterRow_0 : decode cX9_letterRow 0 = .ok (.aload_n 0, 1) := by decide +kernel
theorem dX9_letterRow_1 : decode cX9_letterRow 1 = .ok (.invokevirtual 43, 3) := by decide +kernel
theorem dX9_letterRow_4 : decode cX9_letterRow 4 = .ok (.istore_n 3, 1) := by decide +kernel
theorem dX9_letterRow_5 : decode cX9_letterRow 5 = .ok (.lconst 0, 1) := by decide +kernel
theorem dX9_letterRow_6 : decode cX9_letterRow 6 = .ok (.lstore 4, 2) := by decide +kernel
theorem dX9_letterRow_8 : decode cX9_letterRow 8 = .ok (.iconst 0, 1) := by decide +kernel
theorem dX9_letterRow_9 : decode cX9_letterRow 9 = .ok (.istore 6, 2) := by decide +kernel
theorem dX9_letterRow_11 : decode cX9_letterRow 11 = .ok (.iconst 0, 1) := by decide +kernel
theorem dX9_letterRow_12 : decode cX9_letterRow 12 = .ok (.istore 7, 2) := by decide +kernel
theorem dX9_letterRow_14 : decode cX9_letterRow 14 = .ok (.iload 7, 2) := by decide +kernel
theorem dX9_letterRow_16 : decode cX9_letterRow 16 = .ok (.iload_n 3, 1) := by decide +kernel
theorem dX9_letterRow_17 : decode cX9_letterRow 17 = .ok (.iload_n 3, 1) := by decide +kernel
theorem dX9_letterRow_18 : decode cX9_letterRow 18 = .ok (.imul, 1) := by decide +kernel
theorem dX9_letterRow_19 : decode cX9_letterRow 19 = .ok (.if_icmp .ge 62, 3) := by decide +kernel
theorem dX9_letterRow_22 : decode cX9_letterRow 22 = .ok (.iconst 0, 1) := by decide +kernel
theorem dX9_letterRow_23 : decode cX9_letterRow 23 = .ok (.istore 8, 2) := by decide +kernel
theorem dX9_letterRow_25 : decode cX9_letterRow 25 = .ok (.iload 8, 2) := by decide +kernel
theorem dX9_letterRow_27 : decode cX9_letterRow 27 = .ok (.iload_n 1, 1) := by decide +kernel
theorem dX9_letterRow_28 : decode cX9_letterRow 28 = .ok (.if_icmp .ge 47, 3) := by decide +kernel
theorem dX9_letterRow_31 : decode cX9_letterRow 31 = .ok (.iload_n 2, 1) := by decide +kernel
theorem dX9_letterRow_32 : decode cX9_letterRow 32 = .ok (.iload 8, 2) := by decide +kernel
theorem dX9_letterRow_34 : decode cX9_letterRow 34 = .ok (.invokestatic 117, 3) := by decide +kernel
theorem dX9_letterRow_37 : decode cX9_letterRow 37 = .ok (.ifCond .eq 10, 3) := by decide +kernel
theorem dX9_letterRow_40 : decode cX9_letterRow 40 = .ok (.iload 7, 2) := by decide +kernel
theorem dX9_letterRow_42 : decode cX9_letterRow 42 = .ok (.iload_n 3, 1) := by decide +kernel
theorem dX9_letterRow_43 : decode cX9_letterRow 43 = .ok (.irem, 1) := by decide +kernel
theorem dX9_letterRow_44 : decode cX9_letterRow 44 = .ok (.goto 7, 3) := by decide +kernel
theorem dX9_letterRow_47 : decode cX9_letterRow 47 = .ok (.iload 7, 2) := by decide +kernel
theorem dX9_letterRow_49 : decode cX9_letterRow 49 = .ok (.iload_n 3, 1) := by decide +kernel
theorem dX9_letterRow_50 : decode cX9_letterRow 50 = .ok (.idiv, 1) := by decide +kernel
theorem dX9_letterRow_51 : decode cX9_letterRow 51 = .ok (.istore 9, 2) := by decide +kernel
theorem dX9_letterRow_53 : decode cX9_letterRow 53 = .ok (.lload 4, 2) := by decide +kernel
theorem dX9_letterRow_55 : decode cX9_letterRow 55 = .ok (.iload 9, 2) := by decide +kernel
theorem dX9_letterRow_57 : decode cX9_letterRow 57 = .ok (.i2l, 1) := by decide +kernel
theorem dX9_letterRow_58 : decode cX9_letterRow 58 = .ok (.iconst 2, 1) := by decide +kernel
theorem dX9_letterRow_59 : decode cX9_letterRow 59 = .ok (.iload 6, 2) := by decide +kernel
theorem dX9_letterRow_61 : decode cX9_letterRow 61 = .ok (.imul, 1) := by decide +kernel
theorem dX9_letterRow_62 : decode cX9_letterRow 62 = .ok (.lshl, 1) := by decide +kernel
theorem dX9_letterRow_63 : decode cX9_letterRow 63 = .ok (.lor, 1) := by decide +kernel
theorem dX9_letterRow_64 : decode cX9_letterRow 64 = .ok (.lstore 4, 2) := by decide +kernel
theorem dX9_letterRow_66 : decode cX9_letterRow 66 = .ok (.iinc 6 1, 3) := by decide +kernel
theorem dX9_letterRow_69 : decode cX9_letterRow 69 = .ok (.iinc 8 1, 3) := by decide +kernel
theorem dX9_letterRow_72 : decode cX9_letterRow 72 = .ok (.goto (-47), 3) := by decide +kernel
theorem dX9_letterRow_75 : decode cX9_letterRow 75 = .ok (.iinc 7 1, 3) := by decide +kernel
theorem dX9_letterRow_78 : decode cX9_letterRow 78 = .ok (.goto (-64), 3) := by decide +kernel
theorem dX9_letterRow_81 : decode cX9_letterRow 81 = .ok (.lload 4, 2) := by decide +kernel
theorem dX9_letterRow_83 : decode cX9_letterRow 83 = .ok (.lreturn, 1) := by decide +kernel
set_option maxRecDepth 20000 in
theorem ggX9_free_X9_in : GoodIn wsX9_free wsX9_in := goodIn_r _ [6] (by decide +kernel) (by decide +kernel)
set_option maxRecDepth 20000 in
theorem gX9_free_X9_in : GoodIn wsX9_free (va_wsS RX9 47 yX9_in wsX9_in) := goodIn_app (goodIn_of _ (by decide +kernel)) ggX9_free_X9_in
set_option maxRecDepth 20000 in
theorem ggX9_free_X9_size : GoodIn wsX9_free wsX9_size := goodIn_r _ [10, 11, 49, 50, 51, 52, 53, 54, 55, 56, 57, 58, 59, 60, 61, 62, 63, 64, 65, 66, 67, 68, 69] (by decide +kernel) (by decide +kernel)
set_option maxRecDepth 20000 in
theorem gX9_free_X9_size : GoodIn wsX9_free (wsV RX9 43 RX9 yX9_size wsX9_size) := goodIn_app (goodIn_of _ (by decide +kernel)) ggX9_free_X9_size
set_option maxRecDepth 20000 in
theorem ggX9_free_X9_letterRow : GoodIn wsX9_free wsX9_letterRow := goodIn_r _ [15, 7, 8, 9, 5, 10, 11, 16, 17, 18, 49, 50, 51, 52, 53, 54, 55, 56, 57, 58, 59, 60, 61, 62, 63, 64, 65, 66, 67, 68, 69] (by decide +kernel) (by decide +kernel)
set_option maxRecDepth 20000 in
theorem gX9_free_X9_letterRow : GoodIn wsX9_free (wsV RX9 206 RX9 yX9_letterRow wsX9_letterRow) := goodIn_app (goodIn_of _ (by decide +kernel)) ggX9_free_X9_letterRow
set_option maxRecDepth 20000 in
theorem ggX9_free_X9_comes : GoodIn wsX9_free wsX9_comes := goodIn_r _ [22, 23, 1, 24, 25, 26, 5, 27, 49, 50, 51, 52, 53, 54, 55, 56, 57, 58, 59, 60, 61, 62, 63, 64, 65, 66, 67, 68, 69] (by decide +kernel) (by decide +kernel)
set_option maxRecDepth 20000 in
theorem gX9_free_X9_comes : GoodIn wsX9_free (wsV RX9 195 RX9 yX9_comes wsX9_comes) := goodIn_app (goodIn_of _ (by decide +kernel)) ggX9_free_X9_comes
set_option maxRecDepth 20000 in
theorem ggX9_free_X9_goesRound : GoodIn wsX9_free wsX9_goesRound := goodIn_r _ [31, 1, 23, 32, 33, 34, 5, 35, 36, 37, 38, 39, 40, 11, 19, 20, 21, 22, 24, 25, 26, 27, 41, 42, 43, 44, 45, 46, 47, 48, 49, 50, 51, 52, 53, 54, 55, 56, 57, 58, 59, 60, 61, 62, 63, 64, 65, 66, 67, 68, 69] (by decide +kernel) (by decide +kernel)
set_option maxRecDepth 20000 in
theorem gX9_free_X9_goesRound : GoodIn wsX9_free (wsV RX9 210 RX9 yX9_goesRound wsX9_goesRound) := goodIn_app (goodIn_of _ (by decide +kernel)) ggX9_free_X9_goesRound
theorem dX9_free_0 : decode cX9_free 0 = .ok (.iload_n 1, 1) := by decide +kernel
theorem dX9_free_1 : decode cX9_free 1 = .ok (.iconst 1, 1) := by decide +kernel
theorem dX9_free_2 : decode cX9_free 2 = .ok (.iconst 2, 1) := by decide +kernel
theorem dX9_free_3 : decode cX9_free 3 = .ok (.invokestatic 47, 3) := by decide +kernel
theorem dX9_free_6 : decode cX9_free 6 = .ok (.ifCond .eq 12, 3) := by decide +kernel
theorem dX9_free_9 : decode cX9_free 9 = .ok (.iload_n 2, 1) := by decide +kernel
theorem dX9_free_10 : decode cX9_free 10 = .ok (.iconst 0, 1) := by decide +kernel
theorem dX9_free_11 : decode cX9_free 11 = .ok (.iconst 1, 1) := by decide +kernel
theorem dX9_free_12 : decode cX9_free 12 = .ok (.invokestatic 47, 3) := by decide +kernel
theorem dX9_free_15 : decode cX9_free 15 = .ok (.ifCond .ne 6, 3) := by decide +kernel
theorem dX9_free_18 : decode cX9_free 18 = .ok (.bipush (-2), 2) := by decide +kernel
theorem dX9_free_20 : decode cX9_free 20 = .ok (.ireturn, 1) := by decide +kernel
theorem dX9_free_21 : decode cX9_free 21 = .ok (.iload_n 1, 1) := by decide +kernel
theorem dX9_free_22 : decode cX9_free 22 = .ok (.iconst 1, 1) := by decide +kernel
theorem dX9_free_23 : decode cX9_free 23 = .ok (.if_icmp .ne 10, 3) := by decide +kernel
theorem dX9_free_26 : decode cX9_free 26 = .ok (.aload_n 0, 1) := by decide +kernel
theorem dX9_free_27 : decode cX9_free 27 = .ok (.invokevirtual 43, 3) := by decide +kernel
theorem dX9_free_30 : decode cX9_free 30 = .ok (.goto 12, 3) := by decide +kernel
theorem dX9_free_33 : decode cX9_free 33 = .ok (.aload_n 0, 1) := by decide +kernel
theorem dX9_free_34 : decode cX9_free 34 = .ok (.invokevirtual 43, 3) := by decide +kernel
theorem dX9_free_37 : decode cX9_free 37 = .ok (.aload_n 0, 1) := by decide +kernel
theorem dX9_free_38 : decode cX9_free 38 = .ok (.invokevirtual 43, 3) := by decide +kernel
theorem dX9_free_41 : decode cX9_free 41 = .ok (.imul, 1) := by decide +kernel
theorem dX9_free_42 : decode cX9_free 42 = .ok (.istore_n 3, 1) := by decide +kernel
theorem dX9_free_43 : decode cX9_free 43 = .ok (.aload_n 0, 1) := by decide +kernel
theorem dX9_free_44 : decode cX9_free 44 = .ok (.iconst 0, 1) := by decide +kernel
theorem dX9_free_45 : decode cX9_free 45 = .ok (.putfield 182, 3) := by decide +kernel
theorem dX9_free_48 : decode cX9_free 48 = .ok (.aload_n 0, 1) := by decide +kernel
theorem dX9_free_49 : decode cX9_free 49 = .ok (.iconst 0, 1) := by decide +kernel
theorem dX9_free_50 : decode cX9_free 50 = .ok (.putfield 203, 3) := by decide +kernel
theorem dX9_free_53 : decode cX9_free 53 = .ok (.iload_n 1, 1) := by decide +kernel
theorem dX9_free_54 : decode cX9_free 54 = .ok (.iconst 2, 1) := by decide +kernel
theorem dX9_free_55 : decode cX9_free 55 = .ok (.if_icmp .ne 26, 3) := by decide +kernel
theorem dX9_free_58 : decode cX9_free 58 = .ok (.aload_n 0, 1) := by decide +kernel
theorem dX9_free_59 : decode cX9_free 59 = .ok (.aload_n 0, 1) := by decide +kernel
theorem dX9_free_60 : decode cX9_free 60 = .ok (.iconst 1, 1) := by decide +kernel
theorem dX9_free_61 : decode cX9_free 61 = .ok (.iconst 0, 1) := by decide +kernel
theorem dX9_free_62 : decode cX9_free 62 = .ok (.invokevirtual 206, 3) := by decide +kernel
theorem dX9_free_65 : decode cX9_free 65 = .ok (.invokevirtual 195, 3) := by decide +kernel
theorem dX9_free_68 : decode cX9_free 68 = .ok (.aload_n 0, 1) := by decide +kernel
theorem dX9_free_69 : decode cX9_free 69 = .ok (.aload_n 0, 1) := by decide +kernel
theorem dX9_free_70 : decode cX9_free 70 = .ok (.iconst 1, 1) := by decide +kernel
theorem dX9_free_71 : decode cX9_free 71 = .ok (.iconst 1, 1) := by decide +kernel
theorem dX9_free_72 : decode cX9_free 72 = .ok (.invokevirtual 206, 3) := by decide +kernel
theorem dX9_free_75 : decode cX9_free 75 = .ok (.invokevirtual 195, 3) := by decide +kernel
theorem dX9_free_78 : decode cX9_free 78 = .ok (.goto 43, 3) := by decide +kernel
theorem dX9_free_81 : decode cX9_free 81 = .ok (.lconst 0, 1) := by decide +kernel
theorem dX9_free_82 : decode cX9_free 82 = .ok (.lstore 4, 2) := by decide +kernel
theorem dX9_free_84 : decode cX9_free 84 = .ok (.iconst 0, 1) := by decide +kernel
theorem dX9_free_85 : decode cX9_free 85 = .ok (.istore 6, 2) := by decide +kernel
theorem dX9_free_87 : decode cX9_free 87 = .ok (.iload 6, 2) := by decide +kernel
theorem dX9_free_89 : decode cX9_free 89 = .ok (.aload_n 0, 1) := by decide +kernel
theorem dX9_free_90 : decode cX9_free 90 = .ok (.invokevirtual 43, 3) := by decide +kernel
theorem dX9_free_93 : decode cX9_free 93 = .ok (.if_icmp .ge 22, 3) := by decide +kernel
theorem dX9_free_96 : decode cX9_free 96 = .ok (.lload 4, 2) := by decide +kernel
theorem dX9_free_98 : decode cX9_free 98 = .ok (.iload 6, 2) := by decide +kernel
theorem dX9_free_100 : decode cX9_free 100 = .ok (.i2l, 1) := by decide +kernel
theorem dX9_free_101 : decode cX9_free 101 = .ok (.iconst 2, 1) := by decide +kernel
theorem dX9_free_102 : decode cX9_free 102 = .ok (.iload 6, 2) := by decide +kernel
theorem dX9_free_104 : decode cX9_free 104 = .ok (.imul, 1) := by decide +kernel
theorem dX9_free_105 : decode cX9_free 105 = .ok (.lshl, 1) := by decide +kernel
theorem dX9_free_106 : decode cX9_free 106 = .ok (.lor, 1) := by decide +kernel
theorem dX9_free_107 : decode cX9_free 107 = .ok (.lstore 4, 2) := by decide +kernel
theorem dX9_free_109 : decode cX9_free 109 = .ok (.iinc 6 1, 3) := by decide +kernel
theorem dX9_free_112 : decode cX9_free 112 = .ok (.goto (-25), 3) := by decide +kernel
theorem dX9_free_115 : decode cX9_free 115 = .ok (.aload_n 0, 1) := by decide +kernel
theorem dX9_free_116 : decode cX9_free 116 = .ok (.lload 4, 2) := by decide +kernel
theorem dX9_free_118 : decode cX9_free 118 = .ok (.invokevirtual 195, 3) := by decide +kernel
theorem dX9_free_121 : decode cX9_free 121 = .ok (.aload_n 0, 1) := by decide +kernel
theorem dX9_free_122 : decode cX9_free 122 = .ok (.getfield 182, 3) := by decide +kernel
theorem dX9_free_125 : decode cX9_free 125 = .ok (.sipush 200, 3) := by decide +kernel
theorem dX9_free_128 : decode cX9_free 128 = .ok (.if_icmp .gt 24, 3) := by decide +kernel
theorem dX9_free_131 : decode cX9_free 131 = .ok (.aload_n 0, 1) := by decide +kernel
theorem dX9_free_132 : decode cX9_free 132 = .ok (.iload_n 3, 1) := by decide +kernel
theorem dX9_free_133 : decode cX9_free 133 = .ok (.invokevirtual 210, 3) := by decide +kernel
theorem dX9_free_136 : decode cX9_free 136 = .ok (.ifCond .eq 16, 3) := by decide +kernel
theorem dX9_free_139 : decode cX9_free 139 = .ok (.aload_n 0, 1) := by decide +kernel
theorem dX9_free_140 : decode cX9_free 140 = .ok (.dup, 1) := by decide +kernel
theorem dX9_free_141 : decode cX9_free 141 = .ok (.getfield 203, 3) := by decide +kernel
theorem dX9_free_144 : decode cX9_free 144 = .ok (.iconst 1, 1) := by decide +kernel
theorem dX9_free_145 : decode cX9_free 145 = .ok (.iadd, 1) := by decide +kernel
theorem dX9_free_146 : decode cX9_free 146 = .ok (.putfield 203, 3) := by decide +kernel
theorem dX9_free_149 : decode cX9_free 149 = .ok (.goto (-28), 3) := by decide +kernel
theorem dX9_free_152 : decode cX9_free 152 = .ok (.aload_n 0, 1) := by decide +kernel
theorem dX9_free_153 : decode cX9_free 153 = .ok (.getfield 182, 3) := by decide +kernel
theorem dX9_free_156 : decode cX9_free 156 = .ok (.sipush 200, 3) := by decide +kernel
theorem dX9_free_159 : decode cX9_free 159 = .ok (.if_icmp .le 8, 3) := by decide +kernel
theorem dX9_free_162 : decode cX9_free 162 = .ok (.bipush (-4), 2) := by decide +kernel
theorem dX9_free_164 : decode cX9_free 164 = .ok (.goto 18, 3) := by decide +kernel
theorem dX9_free_167 : decode cX9_free 167 = .ok (.iload_n 2, 1) := by decide +kernel
theorem dX9_free_168 : decode cX9_free 168 = .ok (.ifCond .ne 10, 3) := by decide +kernel
theorem dX9_free_171 : decode cX9_free 171 = .ok (.aload_n 0, 1) := by decide +kernel
theorem dX9_free_172 : decode cX9_free 172 = .ok (.getfield 182, 3) := by decide +kernel
theorem dX9_free_175 : decode cX9_free 175 = .ok (.goto 7, 3) := by decide +kernel
theorem dX9_free_178 : decode cX9_free 178 = .ok (.aload_n 0, 1) := by decide +kernel
theorem dX9_free_179 : decode cX9_free 179 = .ok (.getfield 203, 3) := by decide +kernel
theorem dX9_free_182 : decode cX9_free 182 = .ok (.ireturn, 1) := by decide +kernel
set_option maxRecDepth 20000 in
theorem ggX9_term_X9_in : GoodIn wsX9_term wsX9_in := goodIn_r _ [6] (by decide +kernel) (by decide +kernel)
set_option maxRecDepth 20000 in
theorem gX9_term_X9_in : GoodIn wsX9_term (va_wsS RX9 47 yX9_in wsX9_in) := goodIn_app (goodIn_of _ (by decide +kernel)) ggX9_term_X9_in
set_option maxRecDepth 20000 in
theorem ggX9_term_X9_size : GoodIn wsX9_term wsX9_size := goodIn_r _ [10, 11, 49, 50, 51, 52, 53, 54, 55, 56, 57, 58, 59, 60, 61, 62, 63, 64, 65, 66, 67, 68, 69] (by decide +kernel) (by decide +kernel)
set_option maxRecDepth 20000 in
theorem gX9_term_X9_size : GoodIn wsX9_term (wsV RX9 43 RX9 yX9_size wsX9_size) := goodIn_app (goodIn_of _ (by decide +kernel)) ggX9_term_X9_size
set_option maxRecDepth 20000 in
theorem ggX9_term_X9_letterRow : GoodIn wsX9_term wsX9_letterRow := goodIn_r _ [15, 7, 8, 9, 5, 10, 11, 16, 17, 18, 49, 50, 51, 52, 53, 54, 55, 56, 57, 58, 59, 60, 61, 62, 63, 64, 65, 66, 67, 68, 69] (by decide +kernel) (by decide +kernel)
set_option maxRecDepth 20000 in
theorem gX9_term_X9_letterRow : GoodIn wsX9_term (wsV RX9 206 RX9 yX9_letterRow wsX9_letterRow) := goodIn_app (goodIn_of _ (by decide +kernel)) ggX9_term_X9_letterRow
set_option maxRecDepth 20000 in
theorem ggX9_term_X9_comes : GoodIn wsX9_term wsX9_comes := goodIn_r _ [22, 23, 1, 24, 25, 26, 5, 27, 49, 50, 51, 52, 53, 54, 55, 56, 57, 58, 59, 60, 61, 62, 63, 64, 65, 66, 67, 68, 69] (by decide +kernel) (by decide +kernel)
set_option maxRecDepth 20000 in
theorem gX9_term_X9_comes : GoodIn wsX9_term (wsV RX9 195 RX9 yX9_comes wsX9_comes) := goodIn_app (goodIn_of _ (by decide +kernel)) ggX9_term_X9_comes
set_option maxRecDepth 20000 in
theorem ggX9_term_X9_isTerm : GoodIn wsX9_term wsX9_isTerm := goodIn_r _ [27, 1, 23, 49, 50, 51, 52, 53, 54, 55, 56, 57, 58, 59, 60, 61, 62, 63, 64, 65, 66, 67, 68, 69] (by decide +kernel) (by decide +kernel)
set_option maxRecDepth 20000 in
theorem gX9_term_X9_isTerm : GoodIn wsX9_term (wsV RX9 185 RX9 yX9_isTerm wsX9_isTerm) := goodIn_app (goodIn_of _ (by decide +kernel)) ggX9_term_X9_isTerm
set_option maxRecDepth 20000 in
theorem ggX9_term_X9_goesRound : GoodIn wsX9_term wsX9_goesRound := goodIn_r _ [31, 1, 23, 32, 33, 34, 5, 35, 36, 37, 38, 39, 40, 11, 19, 20, 21, 22, 24, 25, 26, 27, 41, 42, 43, 44, 45, 46, 47, 48, 49, 50, 51, 52, 53, 54, 55, 56, 57, 58, 59, 60, 61, 62, 63, 64, 65, 66, 67, 68, 69] (by decide +kernel) (by decide +kernel)
set_option maxRecDepth 20000 in
theorem gX9_term_X9_goesRound : GoodIn wsX9_term (wsV RX9 210 RX9 yX9_goesRound wsX9_goesRound) := goodIn_app (goodIn_of _ (by decide +kernel)) ggX9_term_X9_goesRound
theorem dX9_term_0 : decode cX9_term 0 = .ok (.iload_n 1, 1) := by decide +kernel
theorem dX9_term_1 : decode cX9_term 1 = .ok (.iconst 0, 1) := by decide +kernel
theorem dX9_term_2 : decode cX9_term 2 = .ok (.iconst 1, 1) := by decide +kernel
theorem dX9_term_3 : decode cX9_term 3 = .ok (.invokestatic 47, 3) := by decide +kernel
theorem dX9_term_6 : decode cX9_term 6 = .ok (.ifCond .eq 11, 3) := by decide +kernel
theorem dX9_term_9 : decode cX9_term 9 = .ok (.aload_n 0, 1) := by decide +kernel
theorem dX9_term_10 : decode cX9_term 10 = .ok (.invokevirtual 43, 3) := by decide +kernel
theorem dX9_term_13 : decode cX9_term 13 = .ok (.iconst 4, 1) := by decide +kernel
theorem dX9_term_14 : decode cX9_term 14 = .ok (.if_icmp .ne 6, 3) := by decide +kernel
theorem dX9_term_17 : decode cX9_term 17 = .ok (.bipush (-2), 2) := by decide +kernel
theorem dX9_term_19 : decode cX9_term 19 = .ok (.ireturn, 1) := by decide +kernel
theorem dX9_term_20 : decode cX9_term 20 = .ok (.iload_n 1, 1) := by decide +kernel
theorem dX9_term_21 : decode cX9_term 21 = .ok (.ifCond .ne 7, 3) := by decide +kernel
theorem dX9_term_24 : decode cX9_term 24 = .ok (.iconst 2, 1) := by decide +kernel
theorem dX9_term_25 : decode cX9_term 25 = .ok (.goto 4, 3) := by decide +kernel
theorem dX9_term_28 : decode cX9_term 28 = .ok (.iconst 3, 1) := by decide +kernel
theorem dX9_term_29 : decode cX9_term 29 = .ok (.istore_n 2, 1) := by decide +kernel
theorem dX9_term_30 : decode cX9_term 30 = .ok (.iload_n 2, 1) := by decide +kernel
theorem dX9_term_31 : decode cX9_term 31 = .ok (.aload_n 0, 1) := by decide +kernel
theorem dX9_term_32 : decode cX9_term 32 = .ok (.invokevirtual 43, 3) := by decide +kernel
theorem dX9_term_35 : decode cX9_term 35 = .ok (.imul, 1) := by decide +kernel
theorem dX9_term_36 : decode cX9_term 36 = .ok (.aload_n 0, 1) := by decide +kernel
theorem dX9_term_37 : decode cX9_term 37 = .ok (.invokevirtual 43, 3) := by decide +kernel
theorem dX9_term_40 : decode cX9_term 40 = .ok (.imul, 1) := by decide +kernel
theorem dX9_term_41 : decode cX9_term 41 = .ok (.istore_n 3, 1) := by decide +kernel
theorem dX9_term_42 : decode cX9_term 42 = .ok (.iload_n 1, 1) := by decide +kernel
theorem dX9_term_43 : decode cX9_term 43 = .ok (.ifCond .ne 12, 3) := by decide +kernel
theorem dX9_term_46 : decode cX9_term 46 = .ok (.aload_n 0, 1) := by decide +kernel
theorem dX9_term_47 : decode cX9_term 47 = .ok (.iconst 2, 1) := by decide +kernel
theorem dX9_term_48 : decode cX9_term 48 = .ok (.iconst 2, 1) := by decide +kernel
theorem dX9_term_49 : decode cX9_term 49 = .ok (.invokevirtual 206, 3) := by decide +kernel
theorem dX9_term_52 : decode cX9_term 52 = .ok (.goto 9, 3) := by decide +kernel
theorem dX9_term_55 : decode cX9_term 55 = .ok (.aload_n 0, 1) := by decide +kernel
theorem dX9_term_56 : decode cX9_term 56 = .ok (.iconst 3, 1) := by decide +kernel
theorem dX9_term_57 : decode cX9_term 57 = .ok (.iconst 0, 1) := by decide +kernel
theorem dX9_term_58 : decode cX9_term 58 = .ok (.invokevirtual 206, 3) := by decide +kernel
theorem dX9_term_61 : decode cX9_term 61 = .ok (.lstore 4, 2) := by decide +kernel
theorem dX9_term_63 : decode cX9_term 63 = .ok (.aload_n 0, 1) := by decide +kernel
theorem dX9_term_64 : decode cX9_term 64 = .ok (.iconst 0, 1) := by decide +kernel
theorem dX9_term_65 : decode cX9_term 65 = .ok (.putfield 182, 3) := by decide +kernel
theorem dX9_term_68 : decode cX9_term 68 = .ok (.aload_n 0, 1) := by decide +kernel
theorem dX9_term_69 : decode cX9_term 69 = .ok (.iload_n 1, 1) := by decide +kernel
theorem dX9_term_70 : decode cX9_term 70 = .ok (.ifCond .ne 12, 3) := by decide +kernel
theorem dX9_term_73 : decode cX9_term 73 = .ok (.aload_n 0, 1) := by decide +kernel
theorem dX9_term_74 : decode cX9_term 74 = .ok (.iconst 2, 1) := by decide +kernel
theorem dX9_term_75 : decode cX9_term 75 = .ok (.iconst 0, 1) := by decide +kernel
theorem dX9_term_76 : decode cX9_term 76 = .ok (.invokevirtual 206, 3) := by decide +kernel
theorem dX9_term_79 : decode cX9_term 79 = .ok (.goto 9, 3) := by decide +kernel
theorem dX9_term_82 : decode cX9_term 82 = .ok (.aload_n 0, 1) := by decide +kernel
theorem dX9_term_83 : decode cX9_term 83 = .ok (.iconst 3, 1) := by decide +kernel
theorem dX9_term_84 : decode cX9_term 84 = .ok (.iconst 4, 1) := by decide +kernel
theorem dX9_term_85 : decode cX9_term 85 = .ok (.invokevirtual 206, 3) := by decide +kernel
theorem dX9_term_88 : decode cX9_term 88 = .ok (.invokevirtual 195, 3) := by decide +kernel
theorem dX9_term_91 : decode cX9_term 91 = .ok (.aload_n 0, 1) := by decide +kernel
theorem dX9_term_92 : decode cX9_term 92 = .ok (.iload_n 1, 1) := by decide +kernel
theorem dX9_term_93 : decode cX9_term 93 = .ok (.ifCond .ne 12, 3) := by decide +kernel
theorem dX9_term_96 : decode cX9_term 96 = .ok (.aload_n 0, 1) := by decide +kernel
theorem dX9_term_97 : decode cX9_term 97 = .ok (.iconst 2, 1) := by decide +kernel
theorem dX9_term_98 : decode cX9_term 98 = .ok (.iconst 1, 1) := by decide +kernel
theorem dX9_term_99 : decode cX9_term 99 = .ok (.invokevirtual 206, 3) := by decide +kernel
theorem dX9_term_102 : decode cX9_term 102 = .ok (.goto 9, 3) := by decide +kernel
theorem dX9_term_105 : decode cX9_term 105 = .ok (.aload_n 0, 1) := by decide +kernel
theorem dX9_term_106 : decode cX9_term 106 = .ok (.iconst 3, 1) := by decide +kernel
theorem dX9_term_107 : decode cX9_term 107 = .ok (.iconst 2, 1) := by decide +kernel
theorem dX9_term_108 : decode cX9_term 108 = .ok (.invokevirtual 206, 3) := by decide +kernel
theorem dX9_term_111 : decode cX9_term 111 = .ok (.invokevirtual 195, 3) := by decide +kernel
theorem dX9_term_114 : decode cX9_term 114 = .ok (.aload_n 0, 1) := by decide +kernel
theorem dX9_term_115 : decode cX9_term 115 = .ok (.iload_n 1, 1) := by decide +kernel
theorem dX9_term_116 : decode cX9_term 116 = .ok (.ifCond .ne 12, 3) := by decide +kernel
theorem dX9_term_119 : decode cX9_term 119 = .ok (.aload_n 0, 1) := by decide +kernel
theorem dX9_term_120 : decode cX9_term 120 = .ok (.iconst 2, 1) := by decide +kernel
theorem dX9_term_121 : decode cX9_term 121 = .ok (.iconst 3, 1) := by decide +kernel
theorem dX9_term_122 : decode cX9_term 122 = .ok (.invokevirtual 206, 3) := by decide +kernel
theorem dX9_term_125 : decode cX9_term 125 = .ok (.goto 9, 3) := by decide +kernel
theorem dX9_term_128 : decode cX9_term 128 = .ok (.aload_n 0, 1) := by decide +kernel
theorem dX9_term_129 : decode cX9_term 129 = .ok (.iconst 3, 1) := by decide +kernel
theorem dX9_term_130 : decode cX9_term 130 = .ok (.iconst 1, 1) := by decide +kernel
theorem dX9_term_131 : decode cX9_term 131 = .ok (.invokevirtual 206, 3) := by decide +kernel
theorem dX9_term_134 : decode cX9_term 134 = .ok (.invokevirtual 195, 3) := by decide +kernel
theorem dX9_term_137 : decode cX9_term 137 = .ok (.aload_n 0, 1) := by decide +kernel
theorem dX9_term_138 : decode cX9_term 138 = .ok (.lload 4, 2) := by decide +kernel
theorem dX9_term_140 : decode cX9_term 140 = .ok (.invokevirtual 185, 3) := by decide +kernel
theorem dX9_term_143 : decode cX9_term 143 = .ok (.ifCond .ne 34, 3) := by decide +kernel
theorem dX9_term_146 : decode cX9_term 146 = .ok (.aload_n 0, 1) := by decide +kernel
theorem dX9_term_147 : decode cX9_term 147 = .ok (.iload_n 3, 1) := by decide +kernel
theorem dX9_term_148 : decode cX9_term 148 = .ok (.invokevirtual 210, 3) := by decide +kernel
theorem dX9_term_151 : decode cX9_term 151 = .ok (.ifCond .eq 26, 3) := by decide +kernel
theorem dX9_term_154 : decode cX9_term 154 = .ok (.aload_n 0, 1) := by decide +kernel
theorem dX9_term_155 : decode cX9_term 155 = .ok (.getfield 182, 3) := by decide +kernel
theorem dX9_term_158 : decode cX9_term 158 = .ok (.sipush 200, 3) := by decide +kernel
theorem dX9_term_161 : decode cX9_term 161 = .ok (.if_icmp .gt 16, 3) := by decide +kernel
theorem dX9_term_164 : decode cX9_term 164 = .ok (.aload_n 0, 1) := by decide +kernel
theorem dX9_term_165 : decode cX9_term 165 = .ok (.dup, 1) := by decide +kernel
theorem dX9_term_166 : decode cX9_term 166 = .ok (.getfield 203, 3) := by decide +kernel
theorem dX9_term_169 : decode cX9_term 169 = .ok (.iconst 1, 1) := by decide +kernel
theorem dX9_term_170 : decode cX9_term 170 = .ok (.iadd, 1) := by decide +kernel
theorem dX9_term_171 : decode cX9_term 171 = .ok (.putfield 203, 3) := by decide +kernel
theorem dX9_term_174 : decode cX9_term 174 = .ok (.goto (-37), 3) := by decide +kernel
theorem dX9_term_177 : decode cX9_term 177 = .ok (.aload_n 0, 1) := by decide +kernel
theorem dX9_term_178 : decode cX9_term 178 = .ok (.getfield 182, 3) := by decide +kernel
theorem dX9_term_181 : decode cX9_term 181 = .ok (.sipush 200, 3) := by decide +kernel
theorem dX9_term_184 : decode cX9_term 184 = .ok (.if_icmp .le 8, 3) := by decide +kernel
theorem dX9_term_187 : decode cX9_term 187 = .ok (.bipush (-4), 2) := by decide +kernel
theorem dX9_term_189 : decode cX9_term 189 = .ok (.goto 17, 3) := by decide +kernel
theorem dX9_term_192 : decode cX9_term 192 = .ok (.aload_n 0, 1) := by decide +kernel
theorem dX9_term_193 : decode cX9_term 193 = .ok (.lload 4, 2) := by decide +kernel
theorem dX9_term_195 : decode cX9_term 195 = .ok (.invokevirtual 185, 3) := by decide +kernel
theorem dX9_term_198 : decode cX9_term 198 = .ok (.ifCond .eq 7, 3) := by decide +kernel
theorem dX9_term_201 : decode cX9_term 201 = .ok (.iconst 1, 1) := by decide +kernel
theorem dX9_term_202 : decode cX9_term 202 = .ok (.goto 4, 3) := by decide +kernel
theorem dX9_term_205 : decode cX9_term 205 = .ok (.iconst 0, 1) := by decide +kernel
theorem dX9_term_206 : decode cX9_term 206 = .ok (.ireturn, 1) := by decide +kernel
set_option maxRecDepth 20000 in
theorem ggX9_sees_X9_in : GoodIn wsX9_sees wsX9_in := goodIn_r _ [6] (by decide +kernel) (by decide +kernel)
set_option maxRecDepth 20000 in
theorem gX9_sees_X9_in : GoodIn wsX9_sees (va_wsS RX9 47 yX9_in wsX9_in) := goodIn_app (goodIn_of _ (by decide +kernel)) ggX9_sees_X9_in
theorem dX9_sees_0 : decode cX9_sees 0 = .ok (.iload_n 1, 1) := by decide +kernel
theorem dX9_sees_1 : decode cX9_sees 1 = .ok (.iconst 0, 1) := by decide +kernel
theorem dX9_sees_2 : decode cX9_sees 2 = .ok (.bipush 16, 2) := by decide +kernel
theorem dX9_sees_4 : decode cX9_sees 4 = .ok (.invokestatic 47, 3) := by decide +kernel
theorem dX9_sees_7 : decode cX9_sees 7 = .ok (.ifCond .ne 6, 3) := by decide +kernel
theorem dX9_sees_10 : decode cX9_sees 10 = .ok (.bipush (-2), 2) := by decide +kernel
theorem dX9_sees_12 : decode cX9_sees 12 = .ok (.ireturn, 1) := by decide +kernel
theorem dX9_sees_13 : decode cX9_sees 13 = .ok (.aload_n 0, 1) := by decide +kernel
theorem dX9_sees_14 : decode cX9_sees 14 = .ok (.getfield 99, 3) := by decide +kernel
theorem dX9_sees_17 : decode cX9_sees 17 = .ok (.bipush 6, 2) := by decide +kernel
theorem dX9_sees_19 : decode cX9_sees 19 = .ok (.if_icmp .ne 6, 3) := by decide +kernel
theorem dX9_sees_22 : decode cX9_sees 22 = .ok (.bipush (-4), 2) := by decide +kernel
theorem dX9_sees_24 : decode cX9_sees 24 = .ok (.ireturn, 1) := by decide +kernel
theorem dX9_sees_25 : decode cX9_sees 25 = .ok (.aload_n 0, 1) := by decide +kernel
theorem dX9_sees_26 : decode cX9_sees 26 = .ok (.getfield 16, 3) := by decide +kernel
theorem dX9_sees_29 : decode cX9_sees 29 = .ok (.aload_n 0, 1) := by decide +kernel
theorem dX9_sees_30 : decode cX9_sees 30 = .ok (.getfield 99, 3) := by decide +kernel
theorem dX9_sees_33 : decode cX9_sees 33 = .ok (.iload_n 1, 1) := by decide +kernel
theorem dX9_sees_34 : decode cX9_sees 34 = .ok (.iastore, 1) := by decide +kernel
theorem dX9_sees_35 : decode cX9_sees 35 = .ok (.aload_n 0, 1) := by decide +kernel
theorem dX9_sees_36 : decode cX9_sees 36 = .ok (.dup, 1) := by decide +kernel
theorem dX9_sees_37 : decode cX9_sees 37 = .ok (.getfield 99, 3) := by decide +kernel
theorem dX9_sees_40 : decode cX9_sees 40 = .ok (.iconst 1, 1) := by decide +kernel
theorem dX9_sees_41 : decode cX9_sees 41 = .ok (.iadd, 1) := by decide +kernel
theorem dX9_sees_42 : decode cX9_sees 42 = .ok (.putfield 99, 3) := by decide +kernel
theorem dX9_sees_45 : decode cX9_sees 45 = .ok (.aload_n 0, 1) := by decide +kernel
theorem dX9_sees_46 : decode cX9_sees 46 = .ok (.getfield 99, 3) := by decide +kernel
theorem dX9_sees_49 : decode cX9_sees 49 = .ok (.ireturn, 1) := by decide +kernel
theorem dX9_forget_0 : decode cX9_forget 0 = .ok (.aload_n 0, 1) := by decide +kernel
theorem dX9_forget_1 : decode cX9_forget 1 = .ok (.getfield 99, 3) := by decide +kernel
theorem dX9_forget_4 : decode cX9_forget 4 = .ok (.istore_n 1, 1) := by decide +kernel
theorem dX9_forget_5 : decode cX9_forget 5 = .ok (.aload_n 0, 1) := by decide +kernel
theorem dX9_forget_6 : decode cX9_forget 6 = .ok (.iconst 0, 1) := by decide +kernel
theorem dX9_forget_7 : decode cX9_forget 7 = .ok (.putfield 99, 3) := by decide +kernel
theorem dX9_forget_10 : decode cX9_forget 10 = .ok (.iload_n 1, 1) := by decide +kernel
theorem dX9_forget_11 : decode cX9_forget 11 = .ok (.ireturn, 1) := by decide +kernel
theorem dX9_isSeen_0 : decode cX9_isSeen 0 = .ok (.iconst 1, 1) := by decide +kernel
theorem dX9_isSeen_1 : decode cX9_isSeen 1 = .ok (.istore_n 2, 1) := by decide +kernel
theorem dX9_isSeen_2 : decode cX9_isSeen 2 = .ok (.iconst 0, 1) := by decide +kernel
theorem dX9_isSeen_3 : decode cX9_isSeen 3 = .ok (.istore_n 3, 1) := by decide +kernel
theorem dX9_isSeen_4 : decode cX9_isSeen 4 = .ok (.iload_n 3, 1) := by decide +kernel
theorem dX9_isSeen_5 : decode cX9_isSeen 5 = .ok (.aload_n 0, 1) := by decide +kernel
theorem dX9_isSeen_6 : decode cX9_isSeen 6 = .ok (.getfield 99, 3) := by decide +kernel
theorem dX9_isSeen_9 : decode cX9_isSeen 9 = .ok (.if_icmp .ge 29, 3) := by decide +kernel
theorem dX9_isSeen_12 : decode cX9_isSeen 12 = .ok (.iload_n 2, 1) := by decide +kernel
theorem dX9_isSeen_13 : decode cX9_isSeen 13 = .ok (.ifCond .eq 17, 3) := by decide +kernel
theorem dX9_isSeen_16 : decode cX9_isSeen 16 = .ok (.aload_n 0, 1) := by decide +kernel
theorem dX9_isSeen_17 : decode cX9_isSeen 17 = .ok (.getfield 16, 3) := by decide +kernel
theorem dX9_isSeen_20 : decode cX9_isSeen 20 = .ok (.iload_n 3, 1) := by decide +kernel
theorem dX9_isSeen_21 : decode cX9_isSeen 21 = .ok (.iaload, 1) := by decide +kernel
theorem dX9_isSeen_22 : decode cX9_isSeen 22 = .ok (.iload_n 1, 1) := by decide +kernel
theorem dX9_isSeen_23 : decode cX9_isSeen 23 = .ok (.if_icmp .ne 7, 3) := by decide +kernel
theorem dX9_isSeen_26 : decode cX9_isSeen 26 = .ok (.iconst 1, 1) := by decide +kernel
theorem dX9_isSeen_27 : decode cX9_isSeen 27 = .ok (.goto 4, 3) := by decide +kernel
theorem dX9_isSeen_30 : decode cX9_isSeen 30 = .ok (.iconst 0, 1) := by decide +kernel
theorem dX9_isSeen_31 : decode cX9_isSeen 31 = .ok (.istore_n 2, 1) := by decide +kernel
theorem dX9_isSeen_32 : decode cX9_isSeen 32 = .ok (.iinc 3 1, 3) := by decide +kernel
theorem dX9_isSeen_35 : decode cX9_isSeen 35 = .ok (.goto (-31), 3) := by decide +kernel
theorem dX9_isSeen_38 : decode cX9_isSeen 38 = .ok (.iload_n 2, 1) := by decide +kernel
theorem dX9_isSeen_39 : decode cX9_isSeen 39 = .ok (.ireturn, 1) := by decide +kernel
set_option maxRecDepth 20000 in
theorem ggX9_unseen_X9_size : GoodIn wsX9_unseen wsX9_size := goodIn_r _ [6, 1, 36, 37, 38, 39, 40, 41, 42, 43, 44, 45, 46, 47, 48, 49, 50, 51, 52, 53, 54, 55, 56] (by decide +kernel) (by decide +kernel)
set_option maxRecDepth 20000 in
theorem gX9_unseen_X9_size : GoodIn wsX9_unseen (wsV RX9 43 RX9 yX9_size wsX9_size) := goodIn_app (goodIn_of _ (by decide +kernel)) ggX9_unseen_X9_size
set_option maxRecDepth 20000 in
theorem ggX9_unseen_X9_closedOf : GoodIn wsX9_unseen wsX9_closedOf := goodIn_r _ [10, 11, 12, 13, 5, 14, 2, 3, 4, 6, 1, 15, 16, 17, 18, 19, 20, 21, 22, 23, 24, 25, 26, 27, 28, 29, 36, 37, 38, 39, 40, 41, 42, 43, 44, 45, 46, 47, 48, 49, 50, 51, 52, 53, 54, 55, 56] (by decide +kernel) (by decide +kernel)
set_option maxRecDepth 20000 in
theorem gX9_unseen_X9_closedOf : GoodIn wsX9_unseen (wsV RX9 126 RX9 yX9_closedOf wsX9_closedOf) := goodIn_app (goodIn_of _ (by decide +kernel)) ggX9_unseen_X9_closedOf
set_option maxRecDepth 20000 in
theorem ggX9_unseen_X9_isSeen : GoodIn wsX9_unseen wsX9_isSeen := goodIn_r _ [33, 34, 35, 36, 37, 38, 39, 40, 41, 42, 43, 44, 45, 46, 47, 48, 49, 50, 51, 52, 53, 54, 55, 56] (by decide +kernel) (by decide +kernel)
set_option maxRecDepth 20000 in
theorem gX9_unseen_X9_isSeen : GoodIn wsX9_unseen (wsV RX9 213 RX9 yX9_isSeen wsX9_isSeen) := goodIn_app (goodIn_of _ (by decide +kernel)) ggX9_unseen_X9_isSeen
theorem dX9_unseen_0 : decode cX9_unseen 0 = .ok (.iconst 0, 1) := by decide +kernel
theorem dX9_unseen_1 : decode cX9_unseen 1 = .ok (.istore_n 1, 1) := by decide +kernel
theorem dX9_unseen_2 : decode cX9_unseen 2 = .ok (.aload_n 0, 1) := by decide +kernel
theorem dX9_unseen_3 : decode cX9_unseen 3 = .ok (.invokevirtual 43, 3) := by decide +kernel
theorem dX9_unseen_6 : decode cX9_unseen 6 = .ok (.istore_n 2, 1) := by decide +kernel
theorem dX9_unseen_7 : decode cX9_unseen 7 = .ok (.iconst 0, 1) := by decide +kernel
theorem dX9_unseen_8 : decode cX9_unseen 8 = .ok (.istore_n 3, 1) := by decide +kernel
theorem dX9_unseen_9 : decode cX9_unseen 9 = .ok (.iload_n 3, 1) := by decide +kernel
theorem dX9_unseen_10 : decode cX9_unseen 10 = .ok (.iload_n 2, 1) := by decide +kernel
theorem dX9_unseen_11 : decode cX9_unseen 11 = .ok (.iload_n 2, 1) := by decide +kernel
theorem dX9_unseen_12 : decode cX9_unseen 12 = .ok (.imul, 1) := by decide +kernel
theorem dX9_unseen_13 : decode cX9_unseen 13 = .ok (.if_icmp .ge 91, 3) := by decide +kernel
theorem dX9_unseen_16 : decode cX9_unseen 16 = .ok (.iconst 4, 1) := by decide +kernel
theorem dX9_unseen_17 : decode cX9_unseen 17 = .ok (.iload_n 3, 1) := by decide +kernel
theorem dX9_unseen_18 : decode cX9_unseen 18 = .ok (.iload_n 2, 1) := by decide +kernel
theorem dX9_unseen_19 : decode cX9_unseen 19 = .ok (.idiv, 1) := by decide +kernel
theorem dX9_unseen_20 : decode cX9_unseen 20 = .ok (.imul, 1) := by decide +kernel
theorem dX9_unseen_21 : decode cX9_unseen 21 = .ok (.iload_n 3, 1) := by decide +kernel
theorem dX9_unseen_22 : decode cX9_unseen 22 = .ok (.iload_n 2, 1) := by decide +kernel
theorem dX9_unseen_23 : decode cX9_unseen 23 = .ok (.irem, 1) := by decide +kernel
theorem dX9_unseen_24 : decode cX9_unseen 24 = .ok (.iadd, 1) := by decide +kernel
theorem dX9_unseen_25 : decode cX9_unseen 25 = .ok (.istore 4, 2) := by decide +kernel
theorem dX9_unseen_27 : decode cX9_unseen 27 = .ok (.aload_n 0, 1) := by decide +kernel
theorem dX9_unseen_28 : decode cX9_unseen 28 = .ok (.getfield 7, 3) := by decide +kernel
theorem dX9_unseen_31 : decode cX9_unseen 31 = .ok (.iload 4, 2) := by decide +kernel
theorem dX9_unseen_33 : decode cX9_unseen 33 = .ok (.iaload, 1) := by decide +kernel
theorem dX9_unseen_34 : decode cX9_unseen 34 = .ok (.istore 5, 2) := by decide +kernel
theorem dX9_unseen_36 : decode cX9_unseen 36 = .ok (.iconst 0, 1) := by decide +kernel
theorem dX9_unseen_37 : decode cX9_unseen 37 = .ok (.istore 6, 2) := by decide +kernel
theorem dX9_unseen_39 : decode cX9_unseen 39 = .ok (.iload 6, 2) := by decide +kernel
theorem dX9_unseen_41 : decode cX9_unseen 41 = .ok (.iload_n 2, 1) := by decide +kernel
theorem dX9_unseen_42 : decode cX9_unseen 42 = .ok (.if_icmp .ge 47, 3) := by decide +kernel
theorem dX9_unseen_45 : decode cX9_unseen 45 = .ok (.aload_n 0, 1) := by decide +kernel
theorem dX9_unseen_46 : decode cX9_unseen 46 = .ok (.getfield 7, 3) := by decide +kernel
theorem dX9_unseen_49 : decode cX9_unseen 49 = .ok (.iload 4, 2) := by decide +kernel
theorem dX9_unseen_51 : decode cX9_unseen 51 = .ok (.iload 6, 2) := by decide +kernel
theorem dX9_unseen_53 : decode cX9_unseen 53 = .ok (.iastore, 1) := by decide +kernel
theorem dX9_unseen_54 : decode cX9_unseen 54 = .ok (.iload_n 1, 1) := by decide +kernel
theorem dX9_unseen_55 : decode cX9_unseen 55 = .ok (.iload 6, 2) := by decide +kernel
theorem dX9_unseen_57 : decode cX9_unseen 57 = .ok (.iload 5, 2) := by decide +kernel
theorem dX9_unseen_59 : decode cX9_unseen 59 = .ok (.if_icmp .eq 21, 3) := by decide +kernel
theorem dX9_unseen_62 : decode cX9_unseen 62 = .ok (.aload_n 0, 1) := by decide +kernel
theorem dX9_unseen_63 : decode cX9_unseen 63 = .ok (.aload_n 0, 1) := by decide +kernel
theorem dX9_unseen_64 : decode cX9_unseen 64 = .ok (.iconst (-1), 1) := by decide +kernel
theorem dX9_unseen_65 : decode cX9_unseen 65 = .ok (.invokevirtual 126, 3) := by decide +kernel
theorem dX9_unseen_68 : decode cX9_unseen 68 = .ok (.invokevirtual 213, 3) := by decide +kernel
theorem dX9_unseen_71 : decode cX9_unseen 71 = .ok (.ifCond .eq 9, 3) := by decide +kernel
theorem dX9_unseen_74 : decode cX9_unseen 74 = .ok (.iconst 1, 1) := by decide +kernel
theorem dX9_unseen_75 : decode cX9_unseen 75 = .ok (.iload_n 3, 1) := by decide +kernel
theorem dX9_unseen_76 : decode cX9_unseen 76 = .ok (.ishl, 1) := by decide +kernel
theorem dX9_unseen_77 : decode cX9_unseen 77 = .ok (.goto 4, 3) := by decide +kernel
theorem dX9_unseen_80 : decode cX9_unseen 80 = .ok (.iconst 0, 1) := by decide +kernel
theorem dX9_unseen_81 : decode cX9_unseen 81 = .ok (.ior, 1) := by decide +kernel
theorem dX9_unseen_82 : decode cX9_unseen 82 = .ok (.istore_n 1, 1) := by decide +kernel
theorem dX9_unseen_83 : decode cX9_unseen 83 = .ok (.iinc 6 1, 3) := by decide +kernel
theorem dX9_unseen_86 : decode cX9_unseen 86 = .ok (.goto (-47), 3) := by decide +kernel
theorem dX9_unseen_89 : decode cX9_unseen 89 = .ok (.aload_n 0, 1) := by decide +kernel
theorem dX9_unseen_90 : decode cX9_unseen 90 = .ok (.getfield 7, 3) := by decide +kernel
theorem dX9_unseen_93 : decode cX9_unseen 93 = .ok (.iload 4, 2) := by decide +kernel
theorem dX9_unseen_95 : decode cX9_unseen 95 = .ok (.iload 5, 2) := by decide +kernel
theorem dX9_unseen_97 : decode cX9_unseen 97 = .ok (.iastore, 1) := by decide +kernel
theorem dX9_unseen_98 : decode cX9_unseen 98 = .ok (.iinc 3 1, 3) := by decide +kernel
theorem dX9_unseen_101 : decode cX9_unseen 101 = .ok (.goto (-92), 3) := by decide +kernel
theorem dX9_unseen_104 : decode cX9_unseen 104 = .ok (.iload_n 1, 1) := by decide +kernel
theorem dX9_unseen_105 : decode cX9_unseen 105 = .ok (.ireturn, 1) := by decide +kernel
set_option maxRecDepth 20000 in
theorem ggX9_keep_X9_in : GoodIn wsX9_keep wsX9_in := goodIn_r _ [7] (by decide +kernel) (by decide +kernel)
set_option maxRecDepth 20000 in
theorem gX9_keep_X9_in : GoodIn wsX9_keep (va_wsS RX9 47 yX9_in wsX9_in) := goodIn_app (goodIn_of _ (by decide +kernel)) ggX9_keep_X9_in
set_option maxRecDepth 20000 in
theorem ggX9_keep_X9_size : GoodIn wsX9_keep wsX9_size := goodIn_r _ [11, 3, 12, 13, 14, 15, 16, 17, 18, 19, 20, 21, 22, 23, 24, 25, 26, 27, 28, 29, 30, 31, 32] (by decide +kernel) (by decide +kernel)
set_option maxRecDepth 20000 in
theorem gX9_keep_X9_size : GoodIn wsX9_keep (wsV RX9 43 RX9 yX9_size wsX9_size) := goodIn_app (goodIn_of _ (by decide +kernel)) ggX9_keep_X9_size
theorem dX9_keep_0 : decode cX9_keep 0 = .ok (.iload_n 1, 1) := by decide +kernel
theorem dX9_keep_1 : decode cX9_keep 1 = .ok (.iconst 0, 1) := by decide +kernel
theorem dX9_keep_2 : decode cX9_keep 2 = .ok (.iconst 1, 1) := by decide +kernel
theorem dX9_keep_3 : decode cX9_keep 3 = .ok (.invokestatic 47, 3) := by decide +kernel
theorem dX9_keep_6 : decode cX9_keep 6 = .ok (.ifCond .ne 6, 3) := by decide +kernel
theorem dX9_keep_9 : decode cX9_keep 9 = .ok (.bipush (-2), 2) := by decide +kernel
theorem dX9_keep_11 : decode cX9_keep 11 = .ok (.ireturn, 1) := by decide +kernel
theorem dX9_keep_12 : decode cX9_keep 12 = .ok (.aload_n 0, 1) := by decide +kernel
theorem dX9_keep_13 : decode cX9_keep 13 = .ok (.getfield 19, 3) := by decide +kernel
theorem dX9_keep_16 : decode cX9_keep 16 = .ok (.iload_n 1, 1) := by decide +kernel
theorem dX9_keep_17 : decode cX9_keep 17 = .ok (.iconst 1, 1) := by decide +kernel
theorem dX9_keep_18 : decode cX9_keep 18 = .ok (.bastore, 1) := by decide +kernel
theorem dX9_keep_19 : decode cX9_keep 19 = .ok (.iconst 0, 1) := by decide +kernel
theorem dX9_keep_20 : decode cX9_keep 20 = .ok (.istore_n 2, 1) := by decide +kernel
theorem dX9_keep_21 : decode cX9_keep 21 = .ok (.iload_n 2, 1) := by decide +kernel
theorem dX9_keep_22 : decode cX9_keep 22 = .ok (.bipush 21, 2) := by decide +kernel
theorem dX9_keep_24 : decode cX9_keep 24 = .ok (.if_icmp .ge 26, 3) := by decide +kernel
theorem dX9_keep_27 : decode cX9_keep 27 = .ok (.aload_n 0, 1) := by decide +kernel
theorem dX9_keep_28 : decode cX9_keep 28 = .ok (.getfield 23, 3) := by decide +kernel
theorem dX9_keep_31 : decode cX9_keep 31 = .ok (.bipush 21, 2) := by decide +kernel
theorem dX9_keep_33 : decode cX9_keep 33 = .ok (.iload_n 1, 1) := by decide +kernel
theorem dX9_keep_34 : decode cX9_keep 34 = .ok (.imul, 1) := by decide +kernel
theorem dX9_keep_35 : decode cX9_keep 35 = .ok (.iload_n 2, 1) := by decide +kernel
theorem dX9_keep_36 : decode cX9_keep 36 = .ok (.iadd, 1) := by decide +kernel
theorem dX9_keep_37 : decode cX9_keep 37 = .ok (.aload_n 0, 1) := by decide +kernel
theorem dX9_keep_38 : decode cX9_keep 38 = .ok (.getfield 7, 3) := by decide +kernel
theorem dX9_keep_41 : decode cX9_keep 41 = .ok (.iload_n 2, 1) := by decide +kernel
theorem dX9_keep_42 : decode cX9_keep 42 = .ok (.iaload, 1) := by decide +kernel
theorem dX9_keep_43 : decode cX9_keep 43 = .ok (.iastore, 1) := by decide +kernel
theorem dX9_keep_44 : decode cX9_keep 44 = .ok (.iinc 2 1, 3) := by decide +kernel
theorem dX9_keep_47 : decode cX9_keep 47 = .ok (.goto (-26), 3) := by decide +kernel
theorem dX9_keep_50 : decode cX9_keep 50 = .ok (.aload_n 0, 1) := by decide +kernel
theorem dX9_keep_51 : decode cX9_keep 51 = .ok (.invokevirtual 43, 3) := by decide +kernel
theorem dX9_keep_54 : decode cX9_keep 54 = .ok (.ireturn, 1) := by decide +kernel
set_option maxRecDepth 20000 in
theorem ggX9_back_X9_in : GoodIn wsX9_back wsX9_in := goodIn_r _ [8] (by decide +kernel) (by decide +kernel)
set_option maxRecDepth 20000 in
theorem gX9_back_X9_in : GoodIn wsX9_back (va_wsS RX9 47 yX9_in wsX9_in) := goodIn_app (goodIn_of _ (by decide +kernel)) ggX9_back_X9_in
set_option maxRecDepth 20000 in
theorem ggX9_back_X9_size : GoodIn wsX9_back wsX9_size := goodIn_r _ [12, 2, 13, 14, 15, 16, 17, 18, 19, 20, 21, 22, 23, 24, 25, 26, 27, 28, 29, 30, 31, 32, 33] (by decide +kernel) (by decide +kernel)
set_option maxRecDepth 20000 in
theorem gX9_back_X9_size : GoodIn wsX9_back (wsV RX9 43 RX9 yX9_size wsX9_size) := goodIn_app (goodIn_of _ (by decide +kernel)) ggX9_back_X9_size
theorem dX9_back_0 : decode cX9_back 0 = .ok (.iload_n 1, 1) := by decide +kernel
theorem dX9_back_1 : decode cX9_back 1 = .ok (.iconst 0, 1) := by decide +kernel
theorem dX9_back_2 : decode cX9_back 2 = .ok (.iconst 1, 1) := by decide +kernel
theorem dX9_back_3 : decode cX9_back 3 = .ok (.invokestatic 47, 3) := by decide +kernel
theorem dX9_back_6 : decode cX9_back 6 = .ok (.ifCond .ne 6, 3) := by decide +kernel
theorem dX9_back_9 : decode cX9_back 9 = .ok (.bipush (-2), 2) := by decide +kernel
theorem dX9_back_11 : decode cX9_back 11 = .ok (.ireturn, 1) := by decide +kernel
theorem dX9_back_12 : decode cX9_back 12 = .ok (.aload_n 0, 1) := by decide +kernel
theorem dX9_back_13 : decode cX9_back 13 = .ok (.getfield 19, 3) := by decide +kernel
theorem dX9_back_16 : decode cX9_back 16 = .ok (.iload_n 1, 1) := by decide +kernel
theorem dX9_back_17 : decode cX9_back 17 = .ok (.baload, 1) := by decide +kernel
theorem dX9_back_18 : decode cX9_back 18 = .ok (.ifCond .ne 6, 3) := by decide +kernel
theorem dX9_back_21 : decode cX9_back 21 = .ok (.bipush (-3), 2) := by decide +kernel
theorem dX9_back_23 : decode cX9_back 23 = .ok (.ireturn, 1) := by decide +kernel
theorem dX9_back_24 : decode cX9_back 24 = .ok (.iconst 0, 1) := by decide +kernel
theorem dX9_back_25 : decode cX9_back 25 = .ok (.istore_n 2, 1) := by decide +kernel
theorem dX9_back_26 : decode cX9_back 26 = .ok (.iload_n 2, 1) := by decide +kernel
theorem dX9_back_27 : decode cX9_back 27 = .ok (.bipush 21, 2) := by decide +kernel
theorem dX9_back_29 : decode cX9_back 29 = .ok (.if_icmp .ge 26, 3) := by decide +kernel
theorem dX9_back_32 : decode cX9_back 32 = .ok (.aload_n 0, 1) := by decide +kernel
theorem dX9_back_33 : decode cX9_back 33 = .ok (.getfield 7, 3) := by decide +kernel
theorem dX9_back_36 : decode cX9_back 36 = .ok (.iload_n 2, 1) := by decide +kernel
theorem dX9_back_37 : decode cX9_back 37 = .ok (.aload_n 0, 1) := by decide +kernel
theorem dX9_back_38 : decode cX9_back 38 = .ok (.getfield 23, 3) := by decide +kernel
theorem dX9_back_41 : decode cX9_back 41 = .ok (.bipush 21, 2) := by decide +kernel
theorem dX9_back_43 : decode cX9_back 43 = .ok (.iload_n 1, 1) := by decide +kernel
theorem dX9_back_44 : decode cX9_back 44 = .ok (.imul, 1) := by decide +kernel
theorem dX9_back_45 : decode cX9_back 45 = .ok (.iload_n 2, 1) := by decide +kernel
theorem dX9_back_46 : decode cX9_back 46 = .ok (.iadd, 1) := by decide +kernel
theorem dX9_back_47 : decode cX9_back 47 = .ok (.iaload, 1) := by decide +kernel
theorem dX9_back_48 : decode cX9_back 48 = .ok (.iastore, 1) := by decide +kernel
theorem dX9_back_49 : decode cX9_back 49 = .ok (.iinc 2 1, 3) := by decide +kernel
theorem dX9_back_52 : decode cX9_back 52 = .ok (.goto (-26), 3) := by decide +kernel
theorem dX9_back_55 : decode cX9_back 55 = .ok (.aload_n 0, 1) := by decide +kernel
theorem dX9_back_56 : decode cX9_back 56 = .ok (.iconst 0, 1) := by decide +kernel
theorem dX9_back_57 : decode cX9_back 57 = .ok (.putfield 96, 3) := by decide +kernel
theorem dX9_back_60 : decode cX9_back 60 = .ok (.aload_n 0, 1) := by decide +kernel
theorem dX9_back_61 : decode cX9_back 61 = .ok (.invokevirtual 43, 3) := by decide +kernel
theorem dX9_back_64 : decode cX9_back 64 = .ok (.ireturn, 1) := by decide +kernel
set_option maxRecDepth 20000 in
theorem ggX9_holding_X9_firstOf : GoodIn wsX9_holding wsX9_firstOf := goodIn_r _ [5, 6, 7, 4, 8, 9, 10, 11, 12, 13, 14, 15, 16, 17, 18, 19, 20, 21, 22, 23, 24, 25, 26, 27, 28, 29, 30, 31, 32, 33, 34, 35, 36, 37, 38, 39, 40, 41, 42, 43, 44, 45, 46] (by decide +kernel) (by decide +kernel)
set_option maxRecDepth 20000 in
theorem gX9_holding_X9_firstOf : GoodIn wsX9_holding (wsV RX9 136 RX9 yX9_firstOf wsX9_firstOf) := goodIn_app (goodIn_of _ (by decide +kernel)) ggX9_holding_X9_firstOf
theorem dX9_holding_0 : decode cX9_holding 0 = .ok (.iconst 0, 1) := by decide +kernel
theorem dX9_holding_1 : decode cX9_holding 1 = .ok (.istore_n 1, 1) := by decide +kernel
theorem dX9_holding_2 : decode cX9_holding 2 = .ok (.iconst 0, 1) := by decide +kernel
theorem dX9_holding_3 : decode cX9_holding 3 = .ok (.istore_n 2, 1) := by decide +kernel
theorem dX9_holding_4 : decode cX9_holding 4 = .ok (.iload_n 2, 1) := by decide +kernel
theorem dX9_holding_5 : decode cX9_holding 5 = .ok (.bipush 7, 2) := by decide +kernel
theorem dX9_holding_7 : decode cX9_holding 7 = .ok (.if_icmp .ge 29, 3) := by decide +kernel
theorem dX9_holding_10 : decode cX9_holding 10 = .ok (.iload_n 1, 1) := by decide +kernel
theorem dX9_holding_11 : decode cX9_holding 11 = .ok (.aload_n 0, 1) := by decide +kernel
theorem dX9_holding_12 : decode cX9_holding 12 = .ok (.iload_n 2, 1) := by decide +kernel
theorem dX9_holding_13 : decode cX9_holding 13 = .ok (.invokevirtual 136, 3) := by decide +kernel
theorem dX9_holding_16 : decode cX9_holding 16 = .ok (.bipush (-9), 2) := by decide +kernel
theorem dX9_holding_18 : decode cX9_holding 18 = .ok (.if_icmp .ne 9, 3) := by decide +kernel
theorem dX9_holding_21 : decode cX9_holding 21 = .ok (.iconst 1, 1) := by decide +kernel
theorem dX9_holding_22 : decode cX9_holding 22 = .ok (.iload_n 2, 1) := by decide +kernel
theorem dX9_holding_23 : decode cX9_holding 23 = .ok (.ishl, 1) := by decide +kernel
theorem dX9_holding_24 : decode cX9_holding 24 = .ok (.goto 4, 3) := by decide +kernel
theorem dX9_holding_27 : decode cX9_holding 27 = .ok (.iconst 0, 1) := by decide +kernel
theorem dX9_holding_28 : decode cX9_holding 28 = .ok (.ior, 1) := by decide +kernel
theorem dX9_holding_29 : decode cX9_holding 29 = .ok (.istore_n 1, 1) := by decide +kernel
theorem dX9_holding_30 : decode cX9_holding 30 = .ok (.iinc 2 1, 3) := by decide +kernel
theorem dX9_holding_33 : decode cX9_holding 33 = .ok (.goto (-29), 3) := by decide +kernel
theorem dX9_holding_36 : decode cX9_holding 36 = .ok (.iload_n 1, 1) := by decide +kernel
theorem dX9_holding_37 : decode cX9_holding 37 = .ok (.ireturn, 1) := by decide +kernel
set_option maxRecDepth 20000 in
theorem ggX9_count_X9_size : GoodIn wsX9_count wsX9_size := goodIn_r _ [9, 10, 80, 81, 82, 83, 84, 85, 86, 87, 88, 89, 90, 91, 92, 93, 94, 95, 96, 97, 98, 99, 100] (by decide +kernel) (by decide +kernel)
set_option maxRecDepth 20000 in
theorem gX9_count_X9_size : GoodIn wsX9_count (wsV RX9 43 RX9 yX9_size wsX9_size) := goodIn_app (goodIn_of _ (by decide +kernel)) ggX9_count_X9_size
set_option maxRecDepth 20000 in
theorem ggX9_count_X9_closedOf : GoodIn wsX9_count wsX9_closedOf := goodIn_r _ [14, 15, 16, 17, 8, 18, 5, 6, 7, 9, 10, 19, 20, 21, 22, 23, 24, 25, 26, 27, 28, 29, 30, 31, 32, 33, 80, 81, 82, 83, 84, 85, 86, 87, 88, 89, 90, 91, 92, 93, 94, 95, 96, 97, 98, 99, 100] (by decide +kernel) (by decide +kernel)
set_option maxRecDepth 20000 in
theorem gX9_count_X9_closedOf : GoodIn wsX9_count (wsV RX9 126 RX9 yX9_closedOf wsX9_closedOf) := goodIn_app (goodIn_of _ (by decide +kernel)) ggX9_count_X9_closedOf
set_option maxRecDepth 20000 in
theorem ggX9_count_X9_layCongruences : GoodIn wsX9_count wsX9_layCongruences := goodIn_r _ [37, 1, 38, 39, 40, 41, 8, 42, 43, 44, 45, 5, 6, 7, 9, 10, 46, 47, 48, 49, 50, 51, 52, 53, 26, 27, 28, 29, 30, 31, 32, 33, 80, 81, 82, 83, 84, 85, 86, 87, 88, 89, 90, 91, 92, 93, 94, 95, 96, 97, 98, 99, 100] (by decide +kernel) (by decide +kernel)
set_option maxRecDepth 20000 in
theorem gX9_count_X9_layCongruences : GoodIn wsX9_count (wsV RX9 154 RX9 yX9_layCongruences wsX9_layCongruences) := goodIn_app (goodIn_of _ (by decide +kernel)) ggX9_count_X9_layCongruences
set_option maxRecDepth 20000 in
theorem ggX9_count_X9_holding : GoodIn wsX9_count wsX9_holding := goodIn_r _ [57, 58, 59, 60, 8, 61, 62, 63, 64, 5, 6, 7, 9, 10, 65, 66, 67, 68, 30, 31, 32, 33, 26, 27, 28, 29, 80, 81, 82, 83, 84, 85, 86, 87, 88, 89, 90, 91, 92, 93, 94, 95, 96, 97, 98, 99, 100] (by decide +kernel) (by decide +kernel)
set_option maxRecDepth 20000 in
theorem gX9_count_X9_holding : GoodIn wsX9_count (wsV RX9 216 RX9 yX9_holding wsX9_holding) := goodIn_app (goodIn_of _ (by decide +kernel)) ggX9_count_X9_holding
set_option maxRecDepth 20000 in
theorem ggX9_count_X9_maps : GoodIn wsX9_count wsX9_maps := goodIn_r _ [72, 5, 6, 7, 8, 9, 10, 73, 74, 75, 76, 77, 78, 79, 26, 27, 28, 29, 30, 31, 32, 33, 15, 16, 17, 18, 80, 81, 82, 83, 84, 85, 86, 87, 88, 89, 90, 91, 92, 93, 94, 95, 96, 97, 98, 99, 100] (by decide +kernel) (by decide +kernel)
set_option maxRecDepth 20000 in
theorem gX9_count_X9_maps : GoodIn wsX9_count (wsV RX9 219 RX9 yX9_maps wsX9_maps) := goodIn_app (goodIn_of _ (by decide +kernel)) ggX9_count_X9_maps
theorem dX9_count_0 : decode cX9_count 0 = .ok (.iload_n 1, 1) := by decide +kernel
theorem dX9_count_1 : decode cX9_count 1 = .ok (.tableswitch 103 0 8 #[51, 56, 62, 71, 76, 82, 88, 93, 98], 51) := by decide +kernel
theorem dX9_count_52 : decode cX9_count 52 = .ok (.aload_n 0, 1) := by decide +kernel
theorem dX9_count_53 : decode cX9_count 53 = .ok (.invokevirtual 43, 3) := by decide +kernel
theorem dX9_count_56 : decode cX9_count 56 = .ok (.ireturn, 1) := by decide +kernel
theorem dX9_count_57 : decode cX9_count 57 = .ok (.aload_n 0, 1) := by decide +kernel
theorem dX9_count_58 : decode cX9_count 58 = .ok (.iconst (-1), 1) := by decide +kernel
theorem dX9_count_59 : decode cX9_count 59 = .ok (.invokevirtual 126, 3) := by decide +kernel
theorem dX9_count_62 : decode cX9_count 62 = .ok (.ireturn, 1) := by decide +kernel
theorem dX9_count_63 : decode cX9_count 63 = .ok (.aload_n 0, 1) := by decide +kernel
theorem dX9_count_64 : decode cX9_count 64 = .ok (.invokevirtual 154, 3) := by decide +kernel
theorem dX9_count_67 : decode cX9_count 67 = .ok (.aload_n 0, 1) := by decide +kernel
theorem dX9_count_68 : decode cX9_count 68 = .ok (.getfield 145, 3) := by decide +kernel
theorem dX9_count_71 : decode cX9_count 71 = .ok (.ireturn, 1) := by decide +kernel
theorem dX9_count_72 : decode cX9_count 72 = .ok (.aload_n 0, 1) := by decide +kernel
theorem dX9_count_73 : decode cX9_count 73 = .ok (.invokevirtual 216, 3) := by decide +kernel
theorem dX9_count_76 : decode cX9_count 76 = .ok (.ireturn, 1) := by decide +kernel
theorem dX9_count_77 : decode cX9_count 77 = .ok (.aload_n 0, 1) := by decide +kernel
theorem dX9_count_78 : decode cX9_count 78 = .ok (.iconst 0, 1) := by decide +kernel
theorem dX9_count_79 : decode cX9_count 79 = .ok (.invokevirtual 219, 3) := by decide +kernel
theorem dX9_count_82 : decode cX9_count 82 = .ok (.ireturn, 1) := by decide +kernel
theorem dX9_count_83 : decode cX9_count 83 = .ok (.aload_n 0, 1) := by decide +kernel
theorem dX9_count_84 : decode cX9_count 84 = .ok (.iconst 1, 1) := by decide +kernel
theorem dX9_count_85 : decode cX9_count 85 = .ok (.invokevirtual 219, 3) := by decide +kernel
theorem dX9_count_88 : decode cX9_count 88 = .ok (.ireturn, 1) := by decide +kernel
theorem dX9_count_89 : decode cX9_count 89 = .ok (.aload_n 0, 1) := by decide +kernel
theorem dX9_count_90 : decode cX9_count 90 = .ok (.getfield 99, 3) := by decide +kernel
theorem dX9_count_93 : decode cX9_count 93 = .ok (.ireturn, 1) := by decide +kernel
theorem dX9_count_94 : decode cX9_count 94 = .ok (.aload_n 0, 1) := by decide +kernel
theorem dX9_count_95 : decode cX9_count 95 = .ok (.getfield 51, 3) := by decide +kernel
theorem dX9_count_98 : decode cX9_count 98 = .ok (.ireturn, 1) := by decide +kernel
theorem dX9_count_99 : decode cX9_count 99 = .ok (.aload_n 0, 1) := by decide +kernel
theorem dX9_count_100 : decode cX9_count 100 = .ok (.getfield 96, 3) := by decide +kernel
theorem dX9_count_103 : decode cX9_count 103 = .ok (.ireturn, 1) := by decide +kernel
theorem dX9_count_104 : decode cX9_count 104 = .ok (.bipush (-2), 2) := by decide +kernel
theorem dX9_count_106 : decode cX9_count 106 = .ok (.ireturn, 1) := by decide +kernel
theorem dJ9_max_7cf53_0 : decode cJ9_max_7cf53 0 = .ok (.iload_n 0, 1) := by decide +kernel
theorem dJ9_max_7cf53_1 : decode cJ9_max_7cf53 1 = .ok (.iload_n 1, 1) := by decide +kernel
theorem dJ9_max_7cf53_2 : decode cJ9_max_7cf53 2 = .ok (.if_icmp .lt 7, 3) := by decide +kernel
theorem dJ9_max_7cf53_5 : decode cJ9_max_7cf53 5 = .ok (.iload_n 0, 1) := by decide +kernel
theorem dJ9_max_7cf53_6 : decode cJ9_max_7cf53 6 = .ok (.goto 4, 3) := by decide +kernel
theorem dJ9_max_7cf53_9 : decode cJ9_max_7cf53 9 = .ok (.iload_n 1, 1) := by decide +kernel
theorem dJ9_max_7cf53_10 : decode cJ9_max_7cf53 10 = .ok (.ireturn, 1) := by decide +kernel
theorem dJ7_fill_53178_0 : decode cJ7_fill_53178 0 = .ok (.iconst 0, 1) := by decide +kernel
theorem dJ7_fill_53178_1 : decode cJ7_fill_53178 1 = .ok (.istore_n 2, 1) := by decide +kernel
theorem dJ7_fill_53178_2 : decode cJ7_fill_53178 2 = .ok (.aload_n 0, 1) := by decide +kernel
theorem dJ7_fill_53178_3 : decode cJ7_fill_53178 3 = .ok (.arraylength, 1) := by decide +kernel
theorem dJ7_fill_53178_4 : decode cJ7_fill_53178 4 = .ok (.istore_n 3, 1) := by decide +kernel
theorem dJ7_fill_53178_5 : decode cJ7_fill_53178 5 = .ok (.iload_n 2, 1) := by decide +kernel
theorem dJ7_fill_53178_6 : decode cJ7_fill_53178 6 = .ok (.iload_n 3, 1) := by decide +kernel
theorem dJ7_fill_53178_7 : decode cJ7_fill_53178 7 = .ok (.if_icmp .ge 13, 3) := by decide +kernel
theorem dJ7_fill_53178_10 : decode cJ7_fill_53178 10 = .ok (.aload_n 0, 1) := by decide +kernel
theorem dJ7_fill_53178_11 : decode cJ7_fill_53178 11 = .ok (.iload_n 2, 1) := by decide +kernel
theorem dJ7_fill_53178_12 : decode cJ7_fill_53178 12 = .ok (.iload_n 1, 1) := by decide +kernel
theorem dJ7_fill_53178_13 : decode cJ7_fill_53178 13 = .ok (.iastore, 1) := by decide +kernel
theorem dJ7_fill_53178_14 : decode cJ7_fill_53178 14 = .ok (.iinc 2 1, 3) := by decide +kernel
theorem dJ7_fill_53178_17 : decode cJ7_fill_53178 17 = .ok (.goto (-12), 3) := by decide +kernel
theorem dJ7_fill_53178_20 : decode cJ7_fill_53178 20 = .ok (.return_, 1) := by decide +kernel
end
section
/-! the pure side: what a method does as a function into Option (none: an index outside, a divisor 0, or a loop that has not ended) -/
def sat {ρ : Type} (m : Option ρ) (K : ρ → Prop) : Prop := ∃ r, m = some r ∧ K r
theorem sat_some {ρ : Type} {r : ρ} {K : ρ → Prop} (h : sat (some r) K) : K r := by
  obtain ⟨q, e, hk⟩ := h
  cases e
  exact hk
theorem sat_t {ρ : Type} {c : Prop} [Decidable c] {a b : Option ρ} {K : ρ → Prop} (hc : c) (h : sat (if c then a else b) K) : sat a K := by rwa [if_pos hc] at h
theorem sat_f {ρ : Type} {c : Prop} [Decidable c] {a b : Option ρ} {K : ρ → Prop} (hc : ¬ c) (h : sat (if c then a else b) K) : sat b K := by rwa [if_neg hc] at h
def gd {ρ : Type} (c : Prop) [Decidable c] (m : Option ρ) : Option ρ := if c then m else none
theorem sat_gd {ρ : Type} {c : Prop} [Decidable c] {m : Option ρ} {K : ρ → Prop} (h : sat (gd c m) K) : c ∧ sat m K := by
  by_cases hc : c
  · exact ⟨hc, by rwa [gd, if_pos hc] at h⟩
  · rw [gd, if_neg hc] at h
    obtain ⟨r, e, _⟩ := h
    cases e
theorem sat_bind {α ρ : Type} {m : Option α} {k : α → Option ρ} {K : ρ → Prop} (h : sat (m.bind k) K) : sat m (fun r => sat (k r) K) := by
  obtain ⟨r, e, hk⟩ := h
  cases m with
  | none => cases e
  | some a => exact ⟨a, rfl, r, e, hk⟩
def bd2 {α β ρ : Type} (m : Option (α × β)) (k : α → β → Option ρ) : Option ρ := m.bind (fun q => k q.1 q.2)
def pK {α β : Type} (K : α → β → Prop) : α × β → Prop := fun q => K q.1 q.2
theorem sat_bd2 {α β ρ : Type} {m : Option (α × β)} {k : α → β → Option ρ} {K : ρ → Prop} (h : sat (bd2 m k) K) : sat m (pK (fun a b => sat (k a b) K)) := sat_bind h
def im2 (a b : Nat) : Nat → Option Nat := fun j => if j = 0 then some a else some b
def lk {σ ρ : Type} (P : σ → Prop) (Q : ρ → Prop) (o : σ ⊕ ρ) : Prop := match o with
  | .inl s => P s
  | .inr r => Q r
theorem lk_l {σ ρ : Type} {P : σ → Prop} {Q : ρ → Prop} {s : σ} (h : lk P Q (.inl s)) : P s := h
theorem lk_r {σ ρ : Type} {P : σ → Prop} {Q : ρ → Prop} {r : ρ} (h : lk P Q (.inr r)) : Q r := h
def bdS {α β ρ : Type} (m : Option (α ⊕ β)) (ka : α → Option ρ) (kb : β → Option ρ) : Option ρ := m.bind (fun o => Sum.elim ka kb o)
theorem sat_bdS {α β ρ : Type} {m : Option (α ⊕ β)} {ka : α → Option ρ} {kb : β → Option ρ} {K : ρ → Prop} (h : sat (bdS m ka kb) K) : sat m (lk (fun a => sat (ka a) K) (fun b => sat (kb b) K)) := by
  obtain ⟨o, e, hk⟩ := sat_bind h
  refine ⟨o, e, ?_⟩
  cases o with
  | inl a => exact hk
  | inr b => exact hk
def rd {α ρ : Type} (n : Nat) (f : Nat → α) (i : Int32) (k : α → Option ρ) : Option ρ := if i < 0 ∨ n ≤ i.toNatClampNeg then none else k (f i.toNatClampNeg)
theorem sat_rd {α ρ : Type} {n : Nat} {f : Nat → α} {i : Int32} {k : α → Option ρ} {K : ρ → Prop} (h : sat (rd n f i k) K) : ∃ v, v = f i.toNatClampNeg ∧ vp_in i n ∧ sat (k v) K := by
  by_cases hc : i < 0 ∨ n ≤ i.toNatClampNeg
  · rw [rd, if_pos hc] at h
    obtain ⟨r, e, _⟩ := h
    cases e
  · exact ⟨_, rfl, hc, by rwa [rd, if_neg hc] at h⟩
def wrI {ρ : Type} (n : Nat) (f : Nat → Int32) (i x : Int32) (k : (Nat → Int32) → Option ρ) : Option ρ := if i < 0 ∨ n ≤ i.toNatClampNeg then none else k (upd f i.toNatClampNeg x)
theorem sat_wrI {ρ : Type} {n : Nat} {f : Nat → Int32} {i x : Int32} {k : (Nat → Int32) → Option ρ} {K : ρ → Prop} (h : sat (wrI n f i x k) K) : ∃ v, v = upd f i.toNatClampNeg x ∧ vp_in i n ∧ sat (k v) K := by
  by_cases hc : i < 0 ∨ n ≤ i.toNatClampNeg
  · rw [wrI, if_pos hc] at h
    obtain ⟨r, e, _⟩ := h
    cases e
  · exact ⟨_, rfl, hc, by rwa [wrI, if_neg hc] at h⟩
def wrL {ρ : Type} (n : Nat) (f : Nat → Int64) (i : Int32) (x : Int64) (k : (Nat → Int64) → Option ρ) : Option ρ := if i < 0 ∨ n ≤ i.toNatClampNeg then none else k (vp_updL f i.toNatClampNeg x)
theorem sat_wrL {ρ : Type} {n : Nat} {f : Nat → Int64} {i : Int32} {x : Int64} {k : (Nat → Int64) → Option ρ} {K : ρ → Prop} (h : sat (wrL n f i x k) K) : ∃ v, v = vp_updL f i.toNatClampNeg x ∧ vp_in i n ∧ sat (k v) K := by
  by_cases hc : i < 0 ∨ n ≤ i.toNatClampNeg
  · rw [wrL, if_pos hc] at h
    obtain ⟨r, e, _⟩ := h
    cases e
  · exact ⟨_, rfl, hc, by rwa [wrL, if_neg hc] at h⟩
def nm {α ρ : Type} (e : α) (k : α → Option ρ) : Option ρ := k e
theorem sat_nm {α ρ : Type} {e : α} {k : α → Option ρ} {K : ρ → Prop} (h : sat (nm e k) K) : ∃ v, v = e ∧ sat (k v) K := ⟨e, rfl, h⟩
def lp {σ ρ : Type} (step : σ → Option (σ ⊕ ρ)) : Nat → σ → Option ρ
  | 0, _ => none
  | n + 1, s => (step s).bind (fun o => Sum.elim (lp step n) some o)
theorem sat_lp0 {σ ρ : Type} {step : σ → Option (σ ⊕ ρ)} {s : σ} {K : ρ → Prop} (h : sat (lp step 0 s) K) : False := by
  obtain ⟨r, e, _⟩ := h
  cases e
theorem sat_lp {σ ρ : Type} {step : σ → Option (σ ⊕ ρ)} {n : Nat} {s : σ} {K : ρ → Prop} (h : sat (lp step (n + 1) s) K) : sat (step s) (lk (fun s' => sat (lp step n s') K) K) := by
  obtain ⟨o, e, hk⟩ := sat_bind h
  refine ⟨o, e, ?_⟩
  cases o with
  | inl a => exact hk
  | inr b => exact sat_some hk
theorem zn {v : Int32} (h : v = 0 ∨ v = 1) : narrow .boolean (.int v) = .int v := by
  rcases h with rfl | rfl <;> rfl
/-! the words that all contracts use -/
abbrev tyS (y : ClassId × ClassId × ClassId × ClassId) : List (ClassId × FieldType) := [(y.1, .int), (y.2.1, .long), (y.2.2.1, .boolean), (y.2.2.2, .object "AlgebraLaws$Tables")]
def qSi (K : Int32 → Prop) : Array Value → State → Outcome → State → Prop := fun _ st oc t => ∃ r : Int32, oc = .returned (some (.int r)) ∧ K r ∧ t.heap = st.heap
def qSl (K : Int64 → Prop) : Array Value → State → Outcome → State → Prop := fun _ st oc t => ∃ r : Int64, oc = .returned (some (.long r)) ∧ K r ∧ t.heap = st.heap
abbrev pR (D : va_G) (y : ClassId × ClassId × ClassId × ClassId) (av : List Value) (ws : va_W) : Array Value → State → Prop := va_Pc av (fun U => va_P D vwCl ws U.heap ∧ va_K D vwCl (tyS y) U)
abbrev pW (D : va_G) (y : ClassId × ClassId × ClassId × ClassId) (av : List Value) (ws : va_W) (sz : Nat) : Array Value → State → Prop := va_Pc av (fun U => U.heap.size = sz ∧ va_P D vwCl ws U.heap ∧ va_K D vwCl (tyS y) U ∧ va_D (fun _ => True) ws)
abbrev bW {S : Type} (D : va_G) (y : ClassId × ClassId × ClassId × ClassId) (A : Nat → Prop) (w1 : S → va_W) : S → State → Prop := fun u t => va_P D vwCl (w1 u) t.heap ∧ va_K D vwCl (tyS y) t ∧ va_D A (w1 u)
theorem fb_R {D : va_G} {y : ClassId × ClassId × ClassId × ClassId} {av : List Value} {ws : va_W} : FrameBlind (pR D y av ws) := fun a U g mk q => by
  obtain ⟨q0, qP, qK⟩ := q
  exact ⟨q0, qP, va_K.moved (u := U) (U := U.calling g mk a) (Vm.Alike.refl U.vm) qK⟩
theorem fb_W {D : va_G} {y : ClassId × ClassId × ClassId × ClassId} {av : List Value} {ws : va_W} {sz : Nat} : FrameBlind (pW D y av ws sz) := fun a U g mk q => by
  obtain ⟨q0, q1, qP, qK, qD⟩ := q
  exact ⟨q0, q1, qP, va_K.moved (u := U) (U := U.calling g mk a) (Vm.Alike.refl U.vm) qK, qD⟩
section BASE
variable {p : Program} {l : Launch} {e : Env} {R : Room} {s : State} {m : MethodId} {args : Array Value} {below : List Frame} {meth : Method} {c : Code} {H : Heap} {locs : List Loc} {cells slots : Nat} {Q : State → Prop}
variable {pc : Nat} {ls : Array Slot} {rest st0 : List Value} {D : va_G} {y4 : ClassId × ClassId × ClassId × ClassId} {cc : ByteArray} {ws wc : va_W}
theorem run_R {g : JFrame} {Qa : State → Outcome → State → Prop} (hr : va_Run p l e R s m args below meth c H locs cells slots 0 0 g rest Qa (fun _ => False)) (hh : ∀ (st0 t : State) (v : Option Value), Qa st0 (.returned v) t → t.heap = st0.heap)
    (kk : ∀ (v : Option Value) (st0 t : State), Qa st0 (.returned v) t → W p l e R s m args below meth c H locs cells slots Q { g with pc := g.pc + 3, stack := v.toList ++ rest }) : W p l e R s m args below meth c H locs cells slots Q g := by
  intro T hT X
  obtain ⟨v, st₀, t, T', L, h0, X', hL, e1, e2, hq, st⟩ := hr T hT X
  have hLe : L = [] := List.eq_nil_iff_forall_not_mem.mpr (fun a ha => hL a ha)
  subst hLe
  rw [List.append_nil] at X'
  obtain ⟨t2, a1, b1⟩ := kk v st₀ t hq T' (by rw [e1, hh st₀ t v hq]; exact h0) X'
  exact ⟨t2, st t2 a1, b1⟩
theorem cr_i {K : Int32 → Prop} {a : Array Value} (hr : va_Run p l e R s m args below meth c H locs cells slots 0 0 (F0 m pc ls st0) rest (qSi K a) (fun _ => False))
    (kk : ∀ r : Int32, K r → W p l e R s m args below meth c H locs cells slots Q (F0 m (pc + 3) ls (.int r :: rest))) : W p l e R s m args below meth c H locs cells slots Q (F0 m pc ls st0) := by
  refine run_R hr (fun _ _ _ h => ?_) (fun v st t h => ?_)
  · obtain ⟨r, _, _, h⟩ := h
    exact h
  · obtain ⟨r, h1, h2, _⟩ := h
    cases h1
    exact kk r h2
theorem cr_l {K : Int64 → Prop} {a : Array Value} (hr : va_Run p l e R s m args below meth c H locs cells slots 0 0 (F0 m pc ls st0) rest (qSl K a) (fun _ => False))
    (kk : ∀ r : Int64, K r → W p l e R s m args below meth c H locs cells slots Q (F0 m (pc + 3) ls (.long r :: rest))) : W p l e R s m args below meth c H locs cells slots Q (F0 m pc ls st0) := by
  refine run_R hr (fun _ _ _ h => ?_) (fun v st t h => ?_)
  · obtain ⟨r, _, _, h⟩ := h
    exact h
  · obtain ⟨r, h1, h2, _⟩ := h
    cases h1
    exact kk r h2
variable {y : MethodName} {bytes : ByteArray} {maxL nL n index : Nat} {ret : Option FieldType} {w0 : List Cond} {rm : Room} {Ts : List Cond} {own C : String} {b : Addr} {As : List Value} {Qc : Array Value → State → Outcome → State → Prop}
/-- a virtual call of a method that only reads -/
theorem rv (S : CallFix p m c cc nL s args Ts own) (hM : Met l y w0 rm (pR D y4 (.ref b :: As) wc) Qc 0 0 (fun _ => False)) (cw : CallW R s args own C index y bytes maxL ret w0 rm 0 0 n) (hK : va_K D vwCl (tyS y4) s) (hP : va_P D vwCl ws H) (isC : List Nat) (hC : isC.filterMap (fun i => ws[i]?) = wc) (q0 ci : Nat) {fs : List Value} {q : vw_C} (hc : vwCl[ci]? = some q) (he : ws[q0]? = some (b, .inr (ci, fs))) (hq : q.1 = C)
    (hn : As.length = n) (hl : ls.size = nL) (hst : st0 = As.reverse ++ .ref b :: rest) (hr : (rest.map fun v => v.category).sum ≤ 8) (hdg : decode cc pc = .ok (.invokevirtual index, 3)) (hf : cells ≤ R.cells ∧ slots ≤ R.slots) : va_Run p l e R s m args below meth c H locs cells slots 0 0 (F0 m pc ls st0) rest (Qc (Value.ref b :: As).toArray) (fun _ => False) := by
  have hPc := hP.sub isC hC
  subst hq
  exact va_runV (As := As) (rest := rest) S hM cw ⟨fb_R, va_recv hK hP hc he, fun U hU hW => ⟨rfl, by rw [hU]; exact hPc, va_K.moved hW.alike hK⟩⟩ rfl hn hl hst (lv_room hr) hdg hf
/-- a static call of a method that only reads -/
theorem rs (S : CallFix p m c cc nL s args Ts own) (hM : Met l y w0 rm (pR D y4 As wc) Qc 0 0 (fun _ => False)) (cw : CallB R s args own index y bytes maxL ret w0 rm 0 0 n ∧ (Cond.static y).before args s = true) (hK : va_K D vwCl (tyS y4) s) (hP : va_P D vwCl ws H) (isC : List Nat) (hC : isC.filterMap (fun i => ws[i]?) = wc)
    (hn : As.length = n) (hl : ls.size = nL) (hst : st0 = As.reverse ++ rest) (hr : (rest.map fun v => v.category).sum ≤ 8) (hdg : decode cc pc = .ok (.invokestatic index, 3)) (hf : cells ≤ R.cells ∧ slots ≤ R.slots) : va_Run p l e R s m args below meth c H locs cells slots 0 0 (F0 m pc ls st0) rest (Qc As.toArray) (fun _ => False) := by
  have hPc := hP.sub isC hC
  exact va_runS (As := As) (rest := rest) S hM cw ⟨fb_R, fun U hU hW => ⟨rfl, by rw [hU]; exact hPc, va_K.moved hW.alike hK⟩⟩ rfl hn hl hst (lv_room hr) hdg hf
variable {A : Nat → Prop} {H0 : Heap} {free : Addr → Prop} {Pc : Array Value → State → Prop}
/-- a virtual call of a method that writes -/
theorem wv (S : CallFix p m c cc nL s args Ts own) (hM : Met l y w0 rm (pW D y4 (.ref b :: As) wc H.size) Qc 0 0 free) (cw : CallW R s args own C index y bytes maxL ret w0 rm 0 0 n) (hK : va_K D vwCl (tyS y4) s) (hP : va_P D vwCl ws H) (hD : va_D A ws) (isC : List Nat) (hnd : va_nd isC = true) (hC : isC.map (fun i => ws[i]?) = wc.map some) (hC2 : isC.filterMap (fun i => ws[i]?) = wc) (q0 ci : Nat) {fs : List Value} {q : vw_C} (hc : vwCl[ci]? = some q) (he : ws[q0]? = some (b, .inr (ci, fs))) (hq : q.1 = C)
    (hn : As.length = n) (hl : ls.size = nL) (hst : st0 = As.reverse ++ .ref b :: rest) (hr : (rest.map fun v => v.category).sum ≤ 8) (hdg : decode cc pc = .ok (.invokevirtual index, 3)) (hf : cells ≤ R.cells ∧ slots ≤ R.slots) : va_Run p l e R s m args below meth c H locs cells slots 0 0 (F0 m pc ls st0) rest (Qc (Value.ref b :: As).toArray) free := by
  have hPc := hP.sub isC hC2
  have hDc := hD.sub isC hnd hC
  subst hq
  exact va_runV (As := As) (rest := rest) S hM cw ⟨fb_W, va_recv hK hP hc he, fun U hU hW => ⟨rfl, by rw [hU], by rw [hU]; exact hPc, va_K.moved hW.alike hK, hDc.weaken (fun _ _ _ _ => trivial)⟩⟩ rfl hn hl hst (lv_room hr) hdg hf
theorem wsc (S : CallFix p m c cc nL s args Ts own) (hM : Met l y w0 rm (pW D y4 As wc H.size) Qc 0 0 free) (cw : CallB R s args own index y bytes maxL ret w0 rm 0 0 n ∧ (Cond.static y).before args s = true) (hK : va_K D vwCl (tyS y4) s) (hP : va_P D vwCl ws H) (hD : va_D A ws) (isC : List Nat) (hnd : va_nd isC = true) (hC : isC.map (fun i => ws[i]?) = wc.map some) (hC2 : isC.filterMap (fun i => ws[i]?) = wc)
    (hn : As.length = n) (hl : ls.size = nL) (hst : st0 = As.reverse ++ rest) (hr : (rest.map fun v => v.category).sum ≤ 8) (hdg : decode cc pc = .ok (.invokestatic index, 3)) (hf : cells ≤ R.cells ∧ slots ≤ R.slots) : va_Run p l e R s m args below meth c H locs cells slots 0 0 (F0 m pc ls st0) rest (Qc As.toArray) free := by
  have hPc := hP.sub isC hC2
  have hDc := hD.sub isC hnd hC
  exact va_runS (As := As) (rest := rest) S hM cw ⟨fb_W, fun U hU hW => ⟨rfl, by rw [hU], by rw [hU]; exact hPc, va_K.moved hW.alike hK, hDc.weaken (fun _ _ _ _ => trivial)⟩⟩ rfl hn hl hst (lv_room hr) hdg hf
/-- behind such a call: void, and an int -/
theorem cw_v {S : Type} {K : S → Prop} {w1 : S → va_W} {wn : S → va_W} {a : Array Value} (hr : va_Run p l e R s m args below meth c H locs cells slots 0 0 (F0 m pc ls st0) rest (va_Qv K (bW D y4 (va_A wc H.size) w1) (va_A wc H.size) a) (va_A wc H.size)) (hS : va_S A H0 H locs) (hP : va_P D vwCl ws H) (hD : va_D A ws) (hA : ∀ q, H0.size ≤ q → A q) (isC isR pm : List Nat) {wr : va_W} (hC : isC.map (fun i => ws[i]?) = wc.map some) (hR : isR.map (fun i => ws[i]?) = wr.map some) (hn : va_nd isR = true) (hdis : ∀ i ∈ isR, i ∉ isC) (hp1 : ∀ u, pm.filterMap (fun i => (wr ++ w1 u)[i]?) = wn u) (hpn : va_nd pm = true) (hp2 : ∀ u, pm.map (fun i => (wr ++ w1 u)[i]?) = (wn u).map some)
    (kk : ∀ (u : S) (H1 : Heap) (locs1 : List Loc), K u → va_P D vwCl (wn u) H1 → va_D A (wn u) → va_S A H0 H1 locs1 → W p l e R s m args below meth c H1 locs1 cells slots Q (F0 m (pc + 3) ls rest)) : W p l e R s m args below meth c H locs cells slots Q (F0 m pc ls st0) := by
  have hFc := va_free (wc := wc) hD hS hA isC hC
  refine va_callv hr hS (fun q _ h => hFc q h) hFc (fun u t H1 locs1 ht hvm hw hB hz1 hk1 hS1 => ?_)
  obtain ⟨hP1, hK1, hD1⟩ := hB
  rw [ht] at hP1
  obtain ⟨hP2, hD2⟩ := va_join (wr := wr) (w1 := w1 u) hP hD isC isR hC hR hn hdis hk1 hFc hP1 hD1
  exact kk u H1 locs1 hw (hP2.sub pm (hp1 u)) (hD2.sub pm hpn (hp2 u)) hS1
theorem cw_i {S : Type} {K : Int32 → S → Prop} {w1 : S → va_W} {wn : S → va_W} {a : Array Value} (hr : va_Run p l e R s m args below meth c H locs cells slots 0 0 (F0 m pc ls st0) rest (va_Qi K (bW D y4 (va_A wc H.size) w1) (va_A wc H.size) a) (va_A wc H.size)) (hS : va_S A H0 H locs) (hP : va_P D vwCl ws H) (hD : va_D A ws) (hA : ∀ q, H0.size ≤ q → A q) (isC isR pm : List Nat) {wr : va_W} (hC : isC.map (fun i => ws[i]?) = wc.map some) (hR : isR.map (fun i => ws[i]?) = wr.map some) (hn : va_nd isR = true) (hdis : ∀ i ∈ isR, i ∉ isC) (hp1 : ∀ u, pm.filterMap (fun i => (wr ++ w1 u)[i]?) = wn u) (hpn : va_nd pm = true) (hp2 : ∀ u, pm.map (fun i => (wr ++ w1 u)[i]?) = (wn u).map some)
    (kk : ∀ (r : Int32) (u : S) (H1 : Heap) (locs1 : List Loc), K r u → va_P D vwCl (wn u) H1 → va_D A (wn u) → va_S A H0 H1 locs1 → W p l e R s m args below meth c H1 locs1 cells slots Q (F0 m (pc + 3) ls (.int r :: rest))) : W p l e R s m args below meth c H locs cells slots Q (F0 m pc ls st0) := by
  have hFc := va_free (wc := wc) hD hS hA isC hC
  refine va_calli hr hS (fun q _ h => hFc q h) hFc (fun r u t H1 locs1 ht hvm hw hB hz1 hk1 hS1 => ?_)
  obtain ⟨hP1, hK1, hD1⟩ := hB
  rw [ht] at hP1
  obtain ⟨hP2, hD2⟩ := va_join (wr := wr) (w1 := w1 u) hP hD isC isR hC hR hn hdis hk1 hFc hP1 hD1
  exact kk r u H1 locs1 hw (hP2.sub pm (hp1 u)) (hD2.sub pm hpn (hp2 u)) hS1
/-- rows that name what comes -/
theorem tI {x v : Int32} (h : v = x) (k : W p l e R s m args below meth c H locs cells slots Q (F0 m pc ls (.int v :: rest))) : W p l e R s m args below meth c H locs cells slots Q (F0 m pc ls (.int x :: rest)) := h ▸ k
theorem tL {x v : Int64} (h : v = x) (k : W p l e R s m args below meth c H locs cells slots Q (F0 m pc ls (.long v :: rest))) : W p l e R s m args below meth c H locs cells slots Q (F0 m pc ls (.long x :: rest)) := h ▸ k
end BASE
section BASE2
variable {p : Program} {l : Launch} {e : Env} {R : Room} {s : State} {m : MethodId} {args : Array Value} {below : List Frame} {meth : Method} {c : Code} {H : Heap} {locs : List Loc} {cells slots : Nat} {Q : State → Prop}
variable {pc : Nat} {ls : Array Slot} {rest : List Value} {D : va_G} {cl : List vw_C} {tys : List (ClassId × FieldType)} {ws : va_W} {cc : ByteArray} {A : Nat → Prop} {H0 : Heap} {a : Nat}
theorem xi (hexec : p.tables.exec = Jvm.exec) (hb : c.code = cc) (hK : va_K D cl tys s) (hP : va_P D cl ws H) (q0 t0 : Nat) {cA : ClassId} {n : Nat} {f : Nat → Int32} (ha : ws[q0]? = some (a, .inl (cA, n, .inl f))) (ht : tys[t0]? = some (cA, .int)) {i v : Int32} (hv : v = f i.toNatClampNeg) (hin : vp_in i n) (hdg : decode cc pc = .ok (.iaload, 1))
    (kk : W p l e R s m args below meth c H locs cells slots Q (F0 m (pc + 1) ls (.int v :: rest))) : W p l e R s m args below meth c H locs cells slots Q (F0 m pc ls (.int i :: .ref a :: rest)) := va_iald hexec hb hK hP q0 t0 ha ht hin hdg (hv ▸ kk)
theorem xl (hexec : p.tables.exec = Jvm.exec) (hb : c.code = cc) (hK : va_K D cl tys s) (hP : va_P D cl ws H) (q0 t0 : Nat) {cA : ClassId} {n : Nat} {f : Nat → Int64} (ha : ws[q0]? = some (a, .inl (cA, n, .inr (.inl f)))) (ht : tys[t0]? = some (cA, .long)) {i : Int32} {v : Int64} (hv : v = f i.toNatClampNeg) (hin : vp_in i n) (hdg : decode cc pc = .ok (.laload, 1))
    (kk : W p l e R s m args below meth c H locs cells slots Q (F0 m (pc + 1) ls (.long v :: rest))) : W p l e R s m args below meth c H locs cells slots Q (F0 m pc ls (.int i :: .ref a :: rest)) := va_lald hexec hb hK hP q0 t0 ha ht hin hdg (hv ▸ kk)
theorem xz (hexec : p.tables.exec = Jvm.exec) (hb : c.code = cc) (hK : va_K D cl tys s) (hP : va_P D cl ws H) (q0 t0 : Nat) {cA : ClassId} {n : Nat} {f : Nat → Int32} (ha : ws[q0]? = some (a, .inl (cA, n, .inl f))) (ht : tys[t0]? = some (cA, .boolean)) {i v : Int32} (hv : v = f i.toNatClampNeg) (hin : vp_in i n) (hdg : decode cc pc = .ok (.baload, 1))
    (kk : W p l e R s m args below meth c H locs cells slots Q (F0 m (pc + 1) ls (.int v :: rest))) : W p l e R s m args below meth c H locs cells slots Q (F0 m pc ls (.int i :: .ref a :: rest)) := va_zald hexec hb hK hP q0 t0 ha ht hin hdg (hv ▸ kk)
theorem yi (hexec : p.tables.exec = Jvm.exec) (hb : c.code = cc) (hK : va_K D cl tys s) (hP : va_P D cl ws H) (hD : va_D A ws) (hS : va_S A H0 H locs) (q0 t0 : Nat) {cA : ClassId} {n : Nat} {f v : Nat → Int32} (ha : ws[q0]? = some (a, .inl (cA, n, .inl f))) (ht : tys[t0]? = some (cA, .int)) {i : Int32} {x : Int32} (hv : v = upd f i.toNatClampNeg x) (hin : vp_in i n) (hdg : decode cc pc = .ok (.iastore, 1)) {wn : va_W} (hw : ws.set q0 (a, .inl (cA, n, .inl v)) = wn)
    (kk : ∀ (H1 : Heap) (locs1 : List Loc), va_P D cl wn H1 → va_D A wn → va_S A H0 H1 locs1 → W p l e R s m args below meth c H1 locs1 cells slots Q (F0 m (pc + 1) ls rest)) : W p l e R s m args below meth c H locs cells slots Q (F0 m pc ls (.int x :: .int i :: .ref a :: rest)) := by
  subst hw; subst hv
  exact va_iast hexec hb hK hP hD hS q0 t0 ha ht hin hdg kk
theorem yl (hexec : p.tables.exec = Jvm.exec) (hb : c.code = cc) (hK : va_K D cl tys s) (hP : va_P D cl ws H) (hD : va_D A ws) (hS : va_S A H0 H locs) (q0 t0 : Nat) {cA : ClassId} {n : Nat} {f v : Nat → Int64} (ha : ws[q0]? = some (a, .inl (cA, n, .inr (.inl f)))) (ht : tys[t0]? = some (cA, .long)) {i : Int32} {x : Int64} (hv : v = vp_updL f i.toNatClampNeg x) (hin : vp_in i n) (hdg : decode cc pc = .ok (.lastore, 1)) {wn : va_W} (hw : ws.set q0 (a, .inl (cA, n, .inr (.inl v))) = wn)
    (kk : ∀ (H1 : Heap) (locs1 : List Loc), va_P D cl wn H1 → va_D A wn → va_S A H0 H1 locs1 → W p l e R s m args below meth c H1 locs1 cells slots Q (F0 m (pc + 1) ls rest)) : W p l e R s m args below meth c H locs cells slots Q (F0 m pc ls (.long x :: .int i :: .ref a :: rest)) := by
  subst hw; subst hv
  exact va_last hexec hb hK hP hD hS q0 t0 ha ht hin hdg kk
theorem yz (hexec : p.tables.exec = Jvm.exec) (hb : c.code = cc) (hK : va_K D cl tys s) (hP : va_P D cl ws H) (hD : va_D A ws) (hS : va_S A H0 H locs) (q0 t0 : Nat) {cA : ClassId} {n : Nat} {f v : Nat → Int32} (ha : ws[q0]? = some (a, .inl (cA, n, .inl f))) (ht : tys[t0]? = some (cA, .boolean)) {i : Int32} {x : Int32} (hv : v = upd f i.toNatClampNeg x) (hx : vp_nar .boolean x = x) (hin : vp_in i n) (hdg : decode cc pc = .ok (.bastore, 1)) {wn : va_W} (hw : ws.set q0 (a, .inl (cA, n, .inl v)) = wn)
    (kk : ∀ (H1 : Heap) (locs1 : List Loc), va_P D cl wn H1 → va_D A wn → va_S A H0 H1 locs1 → W p l e R s m args below meth c H1 locs1 cells slots Q (F0 m (pc + 1) ls rest)) : W p l e R s m args below meth c H locs cells slots Q (F0 m pc ls (.int x :: .int i :: .ref a :: rest)) := by
  subst hw; subst hv
  refine va_zast hexec hb hK hP hD hS q0 t0 ha ht hin hdg ?_
  rw [hx]
  exact kk
theorem xa (hexec : p.tables.exec = Jvm.exec) (hb : c.code = cc) (hK : va_K D cl tys s) (hP : va_P D cl ws H) (q0 t0 : Nat) {cA : ClassId} {C : String} {n : Nat} {f : Nat → Option Nat} (ha : ws[q0]? = some (a, .inl (cA, n, .inr (.inr (.inr (.inr f)))))) (ht : tys[t0]? = some (cA, .object C)) {i : Int32} {j b : Nat} (hi : i.toNatClampNeg = j) (hin : vp_in i n) (hf : f j = some b) (hdg : decode cc pc = .ok (.aaload, 1))
    (kk : W p l e R s m args below meth c H locs cells slots Q (F0 m (pc + 1) ls (.ref b :: rest))) : W p l e R s m args below meth c H locs cells slots Q (F0 m pc ls (.int i :: .ref a :: rest)) := by
  refine va_aldq hexec hb hK hP q0 t0 ha ht hin hdg ?_
  rw [hi, hf]
  exact kk
/-- System.arraycopy over ints -/
theorem cpy (hexec : p.tables.exec = Jvm.exec) (hb : c.code = cc) (hml : c.maxLocals = ls.size) {own : String} {index : Nat} (hown : s.vm.findClass own = some m.cls) (hlink : (Cond.methodLink own index arraycopyName).before args s = true) (hnat : (Cond.native arraycopyName).before args s = true) (hstat : (Cond.static arraycopyName).before args s = true) (hini : (Cond.initialized "java/lang/System").before args s = true)
    (hK : va_K D cl tys s) (hP : va_P D cl ws H) (hD : va_D A ws) (hS : va_S A H0 H locs) (q0 q1 t0 t1 : Nat) {a0 : Nat} {c0 c1 : ClassId} {n0 n1 : Nat} {f g v : Nat → Int32} (ha0 : ws[q0]? = some (a0, .inl (c0, n0, .inl f))) (ha1 : ws[q1]? = some (a, .inl (c1, n1, .inl g))) (ht0 : tys[t0]? = some (c0, .int)) (ht1 : tys[t1]? = some (c1, .int)) (sp dp n : Nat) (hv : v = va_cpy f g sp dp n) (hin : (Int32.ofNat sp).toNatClampNeg = sp ∧ (Int32.ofNat dp).toNatClampNeg = dp ∧ (Int32.ofNat n).toNatClampNeg = n ∧ ¬ Int32.ofNat sp < 0 ∧ ¬ Int32.ofNat dp < 0 ∧ ¬ Int32.ofNat n < 0 ∧ sp + n ≤ n0 ∧ dp + n ≤ n1) (hframes : 1 ≤ R.frames) (hlocals : (rest.map fun v => v.category).sum + (nativeFrameWords "java/lang/System" "arraycopy" 5 + 11) ≤ R.locals) (hdg : decode cc pc = .ok (.invokestatic index, 3)) {wn : va_W} (hw : ws.set q1 (a, .inl (c1, n1, .inl v)) = wn)
    (kk : ∀ (H1 : Heap) (locs1 : List Loc), va_P D cl wn H1 → va_D A wn → va_S A H0 H1 locs1 → W p l e R s m args below meth c H1 locs1 cells slots Q (F0 m (pc + 3) ls rest)) : W p l e R s m args below meth c H locs cells slots Q (F0 m pc ls (.int (Int32.ofNat n) :: .int (Int32.ofNat dp) :: .ref a :: .int (Int32.ofNat sp) :: .ref a0 :: rest)) := by
  subst hw; subst hv
  obtain ⟨e1, e2, e3, h1, h2, h3, h4, h5⟩ := hin
  refine va_copyi hexec hb hml hown hlink hnat hstat hini hK hP hD hS q0 q1 t0 t1 ha0 ha1 ht0 ht1 rfl h1 h2 h3 (by rw [e1, e3]; exact h4) (by rw [e2, e3]; exact h5) (fun _ _ => rfl) hframes hlocals hdg ?_
  rw [e1, e2, e3]
  exact kk
/-- a field is written -/
theorem pf (hexec : p.tables.exec = Jvm.exec) (hb : c.code = cc) {own ref C : String} {T : u_T} {N ci index : Nat} {Ts : List Cond} (hts : ∀ w ∈ Ts, w.before args s = true) (hin : ∀ w ∈ u_ws C T N, w ∈ Ts) (ty0 : Nat → FieldType) (hty : ∀ k, k < N → parseFieldDescriptor (T k).2.2.1 = some (ty0 k)) (hnm : ∀ a, a < N → ∀ b, b < N → a ≠ b → (T a).2.1 ≠ (T b).2.1) (hown : s.vm.findClass own = some m.cls) (hK : va_K D cl tys s) (hP : va_P D cl ws H) (hD : va_D A ws) (hS0 : va_S A H0 H locs) (q0 : Nat) {fs : List Value} (he : ws[q0]? = some (a, .inr (ci, fs))) (hc : cl[ci]? = some (C, T, N)) (k : Nat) (hk : k < N) (hlink : (Cond.fieldLink own index ref (T k).2.1 (T k).2.2.1).before args s = true) (hsame : ∀ x, s.fieldFound? (T k).1 (T k).2.1 (T k).2.2.1 = some x → s.fieldFound? ref (T k).2.1 (T k).2.2.1 = some x) (hfin : (T k).2.2.2 = false) {ty : FieldType} {v : Value} (hd : parseFieldDescriptor (T k).2.2.1 = some ty) (hn : narrow ty v = v) (hfit : fits ty v = true) (hl : k < fs.length) (hdg : decode cc pc = .ok (.putfield index, 3)) {wn : va_W} (hw : ws.set q0 (a, .inr (ci, fs.set k v)) = wn)
    (kk : ∀ (H1 : Heap) (locs1 : List Loc), va_P D cl wn H1 → va_D A wn → va_S A H0 H1 locs1 → W p l e R s m args below meth c H1 locs1 cells slots Q (F0 m (pc + 3) ls rest)) : W p l e R s m args below meth c H locs cells slots Q (F0 m pc ls (v :: .ref a :: rest)) := by
  subst hw
  exact va_put hexec hb hts hin ty0 hty hnm hown hK hP hD hS0 q0 he hc k hk hlink hsame hfin hd hn hfit hl hdg kk
end BASE2
end
section
/-! X6_placeOfTwo -/
def m_X6_placeOfTwo  (x0 : Int32) (x1 : Int32) : Option Int32 := some (((x0 &&& 3) <<< (2 &&& 31)) ||| (x1 &&& 3))
set_option maxHeartbeats 4000000 in
set_option maxRecDepth 100000 in
theorem c_X6_placeOfTwo (l : Launch) (D : va_G) (y : ClassId × ClassId × ClassId × ClassId) (x0 : Int32) (x1 : Int32) (K : Int32 → Prop) (h : sat (m_X6_placeOfTwo x0 x1) K) : Met l yX6_placeOfTwo wsX6_placeOfTwo ({ frames := 0, cells := 0, slots := 0, locals := 0 } : Room) (pR D y ([.int x0, .int x1] : List Value) []) (qSi K) 0 0 (fun _ => False) := by
  refine Met.ofW (cc := cX6_placeOfTwo) (maxL := 2) (ret := (some .int)) (by decide) rfl ?_
  intro p e s m args below meth c s₁ B hml hv
  obtain ⟨rfl, hP, hK⟩ := hv
  have hx := B.exec
  have hb := B.bytes
  have hr := B.returns
  have hts := atoms_spec (ws := wsX6_placeOfTwo) B.pre
  have hown : s.vm.findClass RX6 = some m.cls := findClass_of_methodNamed B.named
  have hlocks := B.notSynchronized
  have hl := lv_entry ([.int x0, .int x1] : List Value) (n := 2) (Nat.le_of_ble_eq_true rfl)
  rw [lg_entry_eq]
  generalize (lg_sl ([.int x0, .int x1] : List Value) ++ List.replicate (2 - (lg_sl ([.int x0, .int x1] : List Value)).length) Slot.unset).toArray = ls at hl ⊢
  have hl : lv_has ls 2 [(0, .int x0), (1, .int x1)] := hl
  unfold m_X6_placeOfTwo at h
  refine lv_iload_n hx hb dX6_placeOfTwo_0 rfl (lv_at hl 0 rfl) ?_
  refine lv_iconst (v := 3) hx hb dX6_placeOfTwo_1 (by decide) ?_
  refine lv_iand hx hb dX6_placeOfTwo_2 ?_
  refine lv_iconst (v := 2) hx hb dX6_placeOfTwo_3 (by decide) ?_
  refine lv_ishl hx hb dX6_placeOfTwo_4 ?_
  refine lv_iload_n hx hb dX6_placeOfTwo_5 rfl (lv_at hl 1 rfl) ?_
  refine lv_iconst (v := 3) hx hb dX6_placeOfTwo_6 (by decide) ?_
  refine lv_iand hx hb dX6_placeOfTwo_7 ?_
  refine lv_ior hx hb dX6_placeOfTwo_8 ?_
  have h := sat_some h
  exact W.iret (v := ((x0 &&& 3) <<< (2 &&& 31)) ||| (x1 &&& 3)) hx hb hr (fun t ht _ => ⟨((x0 &&& 3) <<< (2 &&& 31)) ||| (x1 &&& 3), rfl, h, ht⟩) (fun _ hq => by cases hq) dX6_placeOfTwo_9

/-! X6_placeOfOne -/
def m_X6_placeOfOne  (x0 : Int32) : Option Int32 := some (16 ||| (x0 &&& 3))
set_option maxHeartbeats 4000000 in
set_option maxRecDepth 100000 in
theorem c_X6_placeOfOne (l : Launch) (D : va_G) (y : ClassId × ClassId × ClassId × ClassId) (x0 : Int32) (K : Int32 → Prop) (h : sat (m_X6_placeOfOne x0) K) : Met l yX6_placeOfOne wsX6_placeOfOne ({ frames := 0, cells := 0, slots := 0, locals := 0 } : Room) (pR D y ([.int x0] : List Value) []) (qSi K) 0 0 (fun _ => False) := by
  refine Met.ofW (cc := cX6_placeOfOne) (maxL := 1) (ret := (some .int)) (by decide) rfl ?_
  intro p e s m args below meth c s₁ B hml hv
  obtain ⟨rfl, hP, hK⟩ := hv
  have hx := B.exec
  have hb := B.bytes
  have hr := B.returns
  have hts := atoms_spec (ws := wsX6_placeOfOne) B.pre
  have hown : s.vm.findClass RX6 = some m.cls := findClass_of_methodNamed B.named
  have hlocks := B.notSynchronized
  have hl := lv_entry ([.int x0] : List Value) (n := 1) (Nat.le_of_ble_eq_true rfl)
  rw [lg_entry_eq]
  generalize (lg_sl ([.int x0] : List Value) ++ List.replicate (1 - (lg_sl ([.int x0] : List Value)).length) Slot.unset).toArray = ls at hl ⊢
  have hl : lv_has ls 1 [(0, .int x0)] := hl
  unfold m_X6_placeOfOne at h
  refine lv_bipush (v := 16) hx hb dX6_placeOfOne_0 (by decide) ?_
  refine lv_iload_n hx hb dX6_placeOfOne_2 rfl (lv_at hl 0 rfl) ?_
  refine lv_iconst (v := 3) hx hb dX6_placeOfOne_3 (by decide) ?_
  refine lv_iand hx hb dX6_placeOfOne_4 ?_
  refine lv_ior hx hb dX6_placeOfOne_5 ?_
  have h := sat_some h
  exact W.iret (v := 16 ||| (x0 &&& 3)) hx hb hr (fun t ht _ => ⟨16 ||| (x0 &&& 3), rfl, h, ht⟩) (fun _ hq => by cases hq) dX6_placeOfOne_6

/-! X6_startOver -/
def m_X6_startOver_s14 (x2_7 : Int32) (x3_14 : Int32) (v_values_14 : Nat → Int32) : Option ((Int32 × (Nat → Int32)) ⊕ ((Nat → Int32))) := (if 4 ≤ x3_14 then some (.inr v_values_14) else (m_X6_placeOfTwo x2_7 x3_14).bind (fun r3 => wrI 20 v_values_14 r3 x2_7 (fun f4 => some (.inl (x3_14 + 1, f4)))))
def m_X6_startOver_s7  (x2_7 : Int32) (v_values_7 : Nat → Int32) : Option ((Int32 × (Nat → Int32)) ⊕ ((Nat → Int32))) := (if 4 ≤ x2_7 then some (.inr v_values_7) else (lp (fun q : (Int32 × (Nat → Int32)) => m_X6_startOver_s14 x2_7 q.1 q.2) 1000 (0, v_values_7)).bind (fun u14 => (m_X6_placeOfOne x2_7).bind (fun r5 => wrI 20 u14 r5 x2_7 (fun f6 => some (.inl (x2_7 + 1, f6))))))
def m_X6_startOver (v_size : Int32) (v_values : Nat → Int32) (x1 : Int32) : Option (Int32 × (Nat → Int32)) := (lp (fun q : (Int32 × (Nat → Int32)) => m_X6_startOver_s7  q.1 q.2) 1000 (0, v_values)).bind (fun u7 => some (x1, u7))
set_option maxHeartbeats 4000000 in
set_option maxRecDepth 100000 in
theorem c_X6_startOver (l : Launch) (D : va_G) (y : ClassId × ClassId × ClassId × ClassId) (a a_values : Nat) (v_size : Int32) (v_values : Nat → Int32) (x1 : Int32) (sz : Nat) (A : Nat → Prop) (hAe : va_A [(a, .inr (3, [.int v_size, .ref a_values])), (a_values, .inl (y.1, 20, .inl v_values))] sz = A) (K : (Int32 × (Nat → Int32)) → Prop) (h : sat (m_X6_startOver v_size v_values x1) K) : Met l yX6_startOver wsX6_startOver ({ frames := 1, cells := 0, slots := 0, locals := 21 } : Room) (pW D y ([.ref a, .int x1] : List Value) [(a, .inr (3, [.int v_size, .ref a_values])), (a_values, .inl (y.1, 20, .inl v_values))] sz) (va_Qv K (bW D y A (fun u : (Int32 × (Nat → Int32)) => [(a, .inr (3, [.int u.1, .ref a_values])), (a_values, .inl (y.1, 20, .inl u.2))])) A) 0 0 A := by
  refine Met.ofW (cc := cX6_startOver) (maxL := 4) (ret := none) (by decide) rfl ?_
  intro p e s m args below meth c s₁ B hml hv
  obtain ⟨rfl, hsz, hP, hK, hD0⟩ := hv
  have hx := B.exec
  have hb := B.bytes
  have hr := B.returns
  have hts := atoms_spec (ws := wsX6_startOver) B.pre
  have hown : s.vm.findClass RX6 = some m.cls := findClass_of_methodNamed B.named
  have hlocks := B.notSynchronized
  subst hsz
  have hD : va_D A [(a, .inr (3, [.int v_size, .ref a_values])), (a_values, .inl (y.1, 20, .inl v_values))] := hAe ▸ hD0.self
  have hA : ∀ q : Nat, s.heap.size ≤ q → A q := fun q h => hAe ▸ Or.inr h
  have hS : va_S A s.heap s.heap [] := va_S.rf
  have iX6 : ∀ w ∈ wsX60, w ∈ wsX6_startOver := by decide +kernel
  have fl13 := hts (.fieldLink RX6 13 "AlgebraLaws$Tables" "size" "I") (by decide +kernel)
  have fl9 := hts (.fieldLink RX6 9 "AlgebraLaws$Tables" "values" "[I") (by decide +kernel)
  have hl := lv_entry ([.ref a, .int x1] : List Value) (n := 4) (Nat.le_of_ble_eq_true rfl)
  rw [lg_entry_eq]
  generalize (lg_sl ([.ref a, .int x1] : List Value) ++ List.replicate (4 - (lg_sl ([.ref a, .int x1] : List Value)).length) Slot.unset).toArray = ls at hl ⊢
  have hl : lv_has ls 4 [(0, .ref a), (1, .int x1)] := hl
  unfold m_X6_startOver at h
  refine lv_aload_n hx hb dX6_startOver_0 rfl (lv_at hl 0 rfl) ?_
  refine lv_iload_n hx hb dX6_startOver_1 rfl (lv_at hl 1 rfl) ?_
  refine pf (D := D) (ci := 3) (v := .int x1) (ty := .int) (C := RX6) (T := TX6) (N := 2) (wn := [(a, .inr (3, [.int x1, .ref a_values])), (a_values, .inl (y.1, 20, .inl v_values))]) hx hb hts iX6 tyX6 tyX6_ok nmX6 hown hK hP hD hS 0 rfl rfl 0 (by decide) fl13 (fun _ h9 => h9) rfl (by decide +kernel) rfl rfl (Nat.le_of_ble_eq_true rfl) dX6_startOver_2 rfl (fun H locs hP hD hS => ?_)
  refine lv_iconst (v := 0) hx hb dX6_startOver_5 (by decide) ?_
  refine lv_istore_n (lv' := [(2, .int 0), (0, .ref a), (1, .int x1)]) hx hb dX6_startOver_6 rfl hl (by decide) rfl (fun ls hl => ?_)
  have hL7 : ∀ (K7 : ((Nat → Int32)) → Prop)
      (hE7 : ∀ (u7 : ((Nat → Int32))) (ls : Array Slot) (H : Heap) (locs : List Loc), K7 u7 → lv_has ls 4 [] → va_P D vwCl [(a, .inr (3, [.int x1, .ref a_values])), (a_values, .inl (y.1, 20, .inl u7))] H → va_D A [(a, .inr (3, [.int x1, .ref a_values])), (a_values, .inl (y.1, 20, .inl u7))] → va_S A s.heap H locs → W p l e (headSpec wsX6_startOver ({ frames := 1, cells := 0, slots := 0, locals := 21 } : Room)).room s m ([.ref a, .int x1] : List Value).toArray below meth c H locs 0 0 (MQ below (va_Qv K (bW D y A (fun u : (Int32 × (Nat → Int32)) => [(a, .inr (3, [.int u.1, .ref a_values])), (a_values, .inl (y.1, 20, .inl u.2))])) A) ([.ref a, .int x1] : List Value).toArray s 0 0 A) (F0 m 52 ls []))
      (n : Nat) (x2_7 : Int32) (v_values_7 : Nat → Int32) (ls : Array Slot) (H : Heap) (locs : List Loc), sat (lp (fun q : (Int32 × (Nat → Int32)) => m_X6_startOver_s7  q.1 q.2) n (x2_7, v_values_7)) K7 → lv_has ls 4 [(0, .ref a), (2, .int x2_7)] → va_P D vwCl [(a, .inr (3, [.int x1, .ref a_values])), (a_values, .inl (y.1, 20, .inl v_values_7))] H → va_D A [(a, .inr (3, [.int x1, .ref a_values])), (a_values, .inl (y.1, 20, .inl v_values_7))] → va_S A s.heap H locs → W p l e (headSpec wsX6_startOver ({ frames := 1, cells := 0, slots := 0, locals := 21 } : Room)).room s m ([.ref a, .int x1] : List Value).toArray below meth c H locs 0 0 (MQ below (va_Qv K (bW D y A (fun u : (Int32 × (Nat → Int32)) => [(a, .inr (3, [.int u.1, .ref a_values])), (a_values, .inl (y.1, 20, .inl u.2))])) A) ([.ref a, .int x1] : List Value).toArray s 0 0 A) (F0 m 7 ls []) := by
    intro K7 hE7 n
    induction n with
    | zero => intro x2_7 v_values_7 ls H locs h; exact (sat_lp0 h).elim
    | succ n ih =>
      intro x2_7 v_values_7 ls H locs h hl hP hD hS
      have h := sat_lp h
      have h : sat (m_X6_startOver_s7  x2_7 v_values_7) (lk (fun s' => sat (lp (fun q : (Int32 × (Nat → Int32)) => m_X6_startOver_s7  q.1 q.2) n s') K7) K7) := h
      unfold m_X6_startOver_s7 at h
      refine lv_iload_n hx hb dX6_startOver_7 rfl (lv_at hl 1 rfl) ?_
      refine lv_iconst (v := 4) hx hb dX6_startOver_8 (by decide) ?_
      refine lv_icmp_ge (tgt := 52) hx hb dX6_startOver_9 (by decide) (fun c9 => ?_) (fun c9 => ?_)
      · have h := sat_t c9 h
        have h := lk_r (sat_some h)
        exact hE7 v_values_7 ls H locs h (lv_sub hl [] rfl) hP hD hS
      · have h := sat_f c9 h
        refine lv_iconst (v := 0) hx hb dX6_startOver_12 (by decide) ?_
        refine lv_istore_n (lv' := [(3, .int 0), (0, .ref a), (2, .int x2_7)]) hx hb dX6_startOver_13 rfl hl (by decide) rfl (fun ls hl => ?_)
        have hL14 : ∀ (K14 : ((Nat → Int32)) → Prop)
            (hE14 : ∀ (u14 : ((Nat → Int32))) (ls : Array Slot) (H : Heap) (locs : List Loc), K14 u14 → lv_has ls 4 [(0, .ref a), (2, .int x2_7)] → va_P D vwCl [(a, .inr (3, [.int x1, .ref a_values])), (a_values, .inl (y.1, 20, .inl u14))] H → va_D A [(a, .inr (3, [.int x1, .ref a_values])), (a_values, .inl (y.1, 20, .inl u14))] → va_S A s.heap H locs → W p l e (headSpec wsX6_startOver ({ frames := 1, cells := 0, slots := 0, locals := 21 } : Room)).room s m ([.ref a, .int x1] : List Value).toArray below meth c H locs 0 0 (MQ below (va_Qv K (bW D y A (fun u : (Int32 × (Nat → Int32)) => [(a, .inr (3, [.int u.1, .ref a_values])), (a_values, .inl (y.1, 20, .inl u.2))])) A) ([.ref a, .int x1] : List Value).toArray s 0 0 A) (F0 m 36 ls []))
            (n : Nat) (x3_14 : Int32) (v_values_14 : Nat → Int32) (ls : Array Slot) (H : Heap) (locs : List Loc), sat (lp (fun q : (Int32 × (Nat → Int32)) => m_X6_startOver_s14 x2_7 q.1 q.2) n (x3_14, v_values_14)) K14 → lv_has ls 4 [(0, .ref a), (2, .int x2_7), (3, .int x3_14)] → va_P D vwCl [(a, .inr (3, [.int x1, .ref a_values])), (a_values, .inl (y.1, 20, .inl v_values_14))] H → va_D A [(a, .inr (3, [.int x1, .ref a_values])), (a_values, .inl (y.1, 20, .inl v_values_14))] → va_S A s.heap H locs → W p l e (headSpec wsX6_startOver ({ frames := 1, cells := 0, slots := 0, locals := 21 } : Room)).room s m ([.ref a, .int x1] : List Value).toArray below meth c H locs 0 0 (MQ below (va_Qv K (bW D y A (fun u : (Int32 × (Nat → Int32)) => [(a, .inr (3, [.int u.1, .ref a_values])), (a_values, .inl (y.1, 20, .inl u.2))])) A) ([.ref a, .int x1] : List Value).toArray s 0 0 A) (F0 m 14 ls []) := by
          intro K14 hE14 n
          induction n with
          | zero => intro x3_14 v_values_14 ls H locs h; exact (sat_lp0 h).elim
          | succ n ih =>
            intro x3_14 v_values_14 ls H locs h hl hP hD hS
            have h := sat_lp h
            have h : sat (m_X6_startOver_s14 x2_7 x3_14 v_values_14) (lk (fun s' => sat (lp (fun q : (Int32 × (Nat → Int32)) => m_X6_startOver_s14 x2_7 q.1 q.2) n s') K14) K14) := h
            unfold m_X6_startOver_s14 at h
            refine lv_iload_n hx hb dX6_startOver_14 rfl (lv_at hl 2 rfl) ?_
            refine lv_iconst (v := 4) hx hb dX6_startOver_15 (by decide) ?_
            refine lv_icmp_ge (tgt := 36) hx hb dX6_startOver_16 (by decide) (fun c16 => ?_) (fun c16 => ?_)
            · have h := sat_t c16 h
              have h := lk_r (sat_some h)
              exact hE14 v_values_14 ls H locs h (lv_sub hl [0, 1] rfl) hP hD hS
            · have h := sat_f c16 h
              refine lv_aload_n hx hb dX6_startOver_19 rfl (lv_at hl 0 rfl) ?_
              refine va_get (D := D) (ci := 3) (v := .ref a_values) (C := RX6) (T := TX6) (N := 2) hx hb hts iX6 hown hK hP 0 rfl rfl 1 (by decide) fl9 (fun _ h9 => h9) rfl dX6_startOver_20 ?_
              refine lv_iload_n hx hb dX6_startOver_23 rfl (lv_at hl 1 rfl) ?_
              refine lv_iload_n hx hb dX6_startOver_24 rfl (lv_at hl 2 rfl) ?_
              refine cr_i (rs (As := [.int x2_7, .int x3_14]) (rest := [.ref a_values]) ⟨hx, hb, hml, hown, hts⟩ (c_X6_placeOfTwo l D y x2_7 x3_14 _ (sat_bind h)) (va_cwS 2 hts gX6_startOver_X6_placeOfTwo rfl rfl rfl (by decide +kernel) ⟨Nat.le_of_ble_eq_true rfl, Nat.le_of_ble_eq_true rfl⟩) hK hP [] rfl rfl hl.1 rfl (Nat.le_of_ble_eq_true rfl) dX6_startOver_25 ⟨Nat.zero_le _, Nat.zero_le _⟩) (fun r3 h => ?_)
              refine lv_iload_n hx hb dX6_startOver_28 rfl (lv_at hl 1 rfl) ?_
              obtain ⟨f4, ef4, hin, h⟩ := sat_wrI h
              refine yi (wn := [(a, .inr (3, [.int x1, .ref a_values])), (a_values, .inl (y.1, 20, .inl f4))]) hx hb hK hP hD hS 1 0 rfl rfl ef4 hin dX6_startOver_29 rfl (fun H locs hP hD hS => ?_)
              refine lv_iinc (v := x3_14 + 1) (lv' := [(3, .int (x3_14 + 1)), (0, .ref a), (2, .int x2_7)]) hx hb dX6_startOver_30 hl (k := 2) rfl rfl (by decide) rfl (fun ls hl => ?_)
              refine lv_goto (tgt := 14) hx hb dX6_startOver_33 (by decide) ?_
              have h := lk_l (sat_some h)
              exact ih (x3_14 + 1) f4 ls H locs h (lv_sub hl [1, 2, 0] rfl) hP hD hS
        have h := sat_bind h
        refine hL14 _ (fun u14 ls H locs h hl hP hD hS => ?_) 1000 0 v_values_7 ls H locs h (lv_sub hl [1, 2, 0] rfl) hP hD hS
        refine lv_aload_n hx hb dX6_startOver_36 rfl (lv_at hl 0 rfl) ?_
        refine va_get (D := D) (ci := 3) (v := .ref a_values) (C := RX6) (T := TX6) (N := 2) hx hb hts iX6 hown hK hP 0 rfl rfl 1 (by decide) fl9 (fun _ h9 => h9) rfl dX6_startOver_37 ?_
        refine lv_iload_n hx hb dX6_startOver_40 rfl (lv_at hl 1 rfl) ?_
        refine cr_i (rs (As := [.int x2_7]) (rest := [.ref a_values]) ⟨hx, hb, hml, hown, hts⟩ (c_X6_placeOfOne l D y x2_7 _ (sat_bind h)) (va_cwS 1 hts gX6_startOver_X6_placeOfOne rfl rfl rfl (by decide +kernel) ⟨Nat.le_of_ble_eq_true rfl, Nat.le_of_ble_eq_true rfl⟩) hK hP [] rfl rfl hl.1 rfl (Nat.le_of_ble_eq_true rfl) dX6_startOver_41 ⟨Nat.zero_le _, Nat.zero_le _⟩) (fun r5 h => ?_)
        refine lv_iload_n hx hb dX6_startOver_44 rfl (lv_at hl 1 rfl) ?_
        obtain ⟨f6, ef6, hin, h⟩ := sat_wrI h
        refine yi (wn := [(a, .inr (3, [.int x1, .ref a_values])), (a_values, .inl (y.1, 20, .inl f6))]) hx hb hK hP hD hS 1 0 rfl rfl ef6 hin dX6_startOver_45 rfl (fun H locs hP hD hS => ?_)
        refine lv_iinc (v := x2_7 + 1) (lv' := [(2, .int (x2_7 + 1)), (0, .ref a)]) hx hb dX6_startOver_46 hl (k := 1) rfl rfl (by decide) rfl (fun ls hl => ?_)
        refine lv_goto (tgt := 7) hx hb dX6_startOver_49 (by decide) ?_
        have h := lk_l (sat_some h)
        exact ih (x2_7 + 1) f6 ls H locs h (lv_sub hl [1, 0] rfl) hP hD hS
  have h := sat_bind h
  refine hL7 _ (fun u7 ls H locs h hl hP hD hS => ?_) 1000 0 v_values ls H locs h (lv_sub hl [1, 0] rfl) hP hD hS
  have h := sat_some h
  exact W.vret hx hb hr (fun t ht hW => ⟨⟨(x1, u7), rfl, h, by rw [ht]; exact hP, va_K.moved hW.alike hK, hD⟩, hS.F ht⟩) hS.2.2 dX6_startOver_52

/-! X6_has -/
def m_X6_has (v_size : Int32) (x1 : Int32) : Option Int32 := (if x1 < 0 then some 0 else (if v_size ≤ x1 then some 0 else some 1))
set_option maxHeartbeats 4000000 in
set_option maxRecDepth 100000 in
theorem c_X6_has (l : Launch) (D : va_G) (y : ClassId × ClassId × ClassId × ClassId) (a a_values : Nat) (v_size : Int32) (x1 : Int32) (K : Int32 → Prop) (h : sat (m_X6_has v_size x1) K) : Met l yX6_has wsX6_has ({ frames := 0, cells := 0, slots := 0, locals := 0 } : Room) (pR D y ([.ref a, .int x1] : List Value) [(a, .inr (3, [.int v_size, .ref a_values]))]) (qSi K) 0 0 (fun _ => False) := by
  refine Met.ofW (cc := cX6_has) (maxL := 2) (ret := (some .boolean)) (by decide) rfl ?_
  intro p e s m args below meth c s₁ B hml hv
  obtain ⟨rfl, hP, hK⟩ := hv
  have hx := B.exec
  have hb := B.bytes
  have hr := B.returns
  have hts := atoms_spec (ws := wsX6_has) B.pre
  have hown : s.vm.findClass RX6 = some m.cls := findClass_of_methodNamed B.named
  have hlocks := B.notSynchronized
  have iX6 : ∀ w ∈ wsX60, w ∈ wsX6_has := by decide +kernel
  have fl13 := hts (.fieldLink RX6 13 "AlgebraLaws$Tables" "size" "I") (by decide +kernel)
  have hl := lv_entry ([.ref a, .int x1] : List Value) (n := 2) (Nat.le_of_ble_eq_true rfl)
  rw [lg_entry_eq]
  generalize (lg_sl ([.ref a, .int x1] : List Value) ++ List.replicate (2 - (lg_sl ([.ref a, .int x1] : List Value)).length) Slot.unset).toArray = ls at hl ⊢
  have hl : lv_has ls 2 [(0, .ref a), (1, .int x1)] := hl
  unfold m_X6_has at h
  refine lv_iload_n hx hb dX6_has_0 rfl (lv_at hl 1 rfl) ?_
  refine lv_if_lt (tgt := 16) hx hb dX6_has_1 (by decide) (fun c1 => ?_) (fun c1 => ?_)
  · have h := sat_t c1 h
    refine lv_iconst (v := 0) hx hb dX6_has_16 (by decide) ?_
    have h := sat_some h
    exact W.zret (v := 0) hx hb hr rfl (fun t ht _ => ⟨0, rfl, h, ht⟩) (fun _ hq => by cases hq) dX6_has_17
  · have h := sat_f c1 h
    refine lv_iload_n hx hb dX6_has_4 rfl (lv_at hl 1 rfl) ?_
    refine lv_aload_n hx hb dX6_has_5 rfl (lv_at hl 0 rfl) ?_
    refine va_get (D := D) (ci := 3) (v := .int v_size) (C := RX6) (T := TX6) (N := 2) hx hb hts iX6 hown hK hP 0 rfl rfl 0 (by decide) fl13 (fun _ h9 => h9) rfl dX6_has_6 ?_
    refine lv_icmp_ge (tgt := 16) hx hb dX6_has_9 (by decide) (fun c9 => ?_) (fun c9 => ?_)
    · have h := sat_t c9 h
      refine lv_iconst (v := 0) hx hb dX6_has_16 (by decide) ?_
      have h := sat_some h
      exact W.zret (v := 0) hx hb hr rfl (fun t ht _ => ⟨0, rfl, h, ht⟩) (fun _ hq => by cases hq) dX6_has_17
    · have h := sat_f c9 h
      refine lv_iconst (v := 1) hx hb dX6_has_12 (by decide) ?_
      refine lv_goto (tgt := 17) hx hb dX6_has_13 (by decide) ?_
      have h := sat_some h
      exact W.zret (v := 1) hx hb hr rfl (fun t ht _ => ⟨1, rfl, h, ht⟩) (fun _ hq => by cases hq) dX6_has_17

/-! X6_allElements -/
def m_X6_allElements (v_size : Int32)  : Option Int32 := some ((1 <<< (v_size &&& 31)) - 1)
set_option maxHeartbeats 4000000 in
set_option maxRecDepth 100000 in
theorem c_X6_allElements (l : Launch) (D : va_G) (y : ClassId × ClassId × ClassId × ClassId) (a a_values : Nat) (v_size : Int32) (K : Int32 → Prop) (h : sat (m_X6_allElements v_size) K) : Met l yX6_allElements wsX6_allElements ({ frames := 0, cells := 0, slots := 0, locals := 0 } : Room) (pR D y ([.ref a] : List Value) [(a, .inr (3, [.int v_size, .ref a_values]))]) (qSi K) 0 0 (fun _ => False) := by
  refine Met.ofW (cc := cX6_allElements) (maxL := 1) (ret := (some .int)) (by decide) rfl ?_
  intro p e s m args below meth c s₁ B hml hv
  obtain ⟨rfl, hP, hK⟩ := hv
  have hx := B.exec
  have hb := B.bytes
  have hr := B.returns
  have hts := atoms_spec (ws := wsX6_allElements) B.pre
  have hown : s.vm.findClass RX6 = some m.cls := findClass_of_methodNamed B.named
  have hlocks := B.notSynchronized
  have iX6 : ∀ w ∈ wsX60, w ∈ wsX6_allElements := by decide +kernel
  have fl13 := hts (.fieldLink RX6 13 "AlgebraLaws$Tables" "size" "I") (by decide +kernel)
  have hl := lv_entry ([.ref a] : List Value) (n := 1) (Nat.le_of_ble_eq_true rfl)
  rw [lg_entry_eq]
  generalize (lg_sl ([.ref a] : List Value) ++ List.replicate (1 - (lg_sl ([.ref a] : List Value)).length) Slot.unset).toArray = ls at hl ⊢
  have hl : lv_has ls 1 [(0, .ref a)] := hl
  unfold m_X6_allElements at h
  refine lv_iconst (v := 1) hx hb dX6_allElements_0 (by decide) ?_
  refine lv_aload_n hx hb dX6_allElements_1 rfl (lv_at hl 0 rfl) ?_
  refine va_get (D := D) (ci := 3) (v := .int v_size) (C := RX6) (T := TX6) (N := 2) hx hb hts iX6 hown hK hP 0 rfl rfl 0 (by decide) fl13 (fun _ h9 => h9) rfl dX6_allElements_2 ?_
  refine lv_ishl hx hb dX6_allElements_5 ?_
  refine lv_iconst (v := 1) hx hb dX6_allElements_6 (by decide) ?_
  refine lv_isub hx hb dX6_allElements_7 ?_
  have h := sat_some h
  exact W.iret (v := (1 <<< (v_size &&& 31)) - 1) hx hb hr (fun t ht _ => ⟨(1 <<< (v_size &&& 31)) - 1, rfl, h, ht⟩) (fun _ hq => by cases hq) dX6_allElements_8

/-! X6_two -/
def m_X6_two (v_values : Nat → Int32) (x1 : Int32) (x2 : Int32) : Option Int32 := (m_X6_placeOfTwo x1 x2).bind (fun r1 => rd 20 v_values r1 (fun r2 => some r2))
set_option maxHeartbeats 4000000 in
set_option maxRecDepth 100000 in
theorem c_X6_two (l : Launch) (D : va_G) (y : ClassId × ClassId × ClassId × ClassId) (a a_values : Nat) (v_size : Int32) (v_values : Nat → Int32) (x1 : Int32) (x2 : Int32) (K : Int32 → Prop) (h : sat (m_X6_two v_values x1 x2) K) : Met l yX6_two wsX6_two ({ frames := 1, cells := 0, slots := 0, locals := 21 } : Room) (pR D y ([.ref a, .int x1, .int x2] : List Value) [(a, .inr (3, [.int v_size, .ref a_values])), (a_values, .inl (y.1, 20, .inl v_values))]) (qSi K) 0 0 (fun _ => False) := by
  refine Met.ofW (cc := cX6_two) (maxL := 3) (ret := (some .int)) (by decide) rfl ?_
  intro p e s m args below meth c s₁ B hml hv
  obtain ⟨rfl, hP, hK⟩ := hv
  have hx := B.exec
  have hb := B.bytes
  have hr := B.returns
  have hts := atoms_spec (ws := wsX6_two) B.pre
  have hown : s.vm.findClass RX6 = some m.cls := findClass_of_methodNamed B.named
  have hlocks := B.notSynchronized
  have iX6 : ∀ w ∈ wsX60, w ∈ wsX6_two := by decide +kernel
  have fl9 := hts (.fieldLink RX6 9 "AlgebraLaws$Tables" "values" "[I") (by decide +kernel)
  have hl := lv_entry ([.ref a, .int x1, .int x2] : List Value) (n := 3) (Nat.le_of_ble_eq_true rfl)
  rw [lg_entry_eq]
  generalize (lg_sl ([.ref a, .int x1, .int x2] : List Value) ++ List.replicate (3 - (lg_sl ([.ref a, .int x1, .int x2] : List Value)).length) Slot.unset).toArray = ls at hl ⊢
  have hl : lv_has ls 3 [(0, .ref a), (1, .int x1), (2, .int x2)] := hl
  unfold m_X6_two at h
  refine lv_aload_n hx hb dX6_two_0 rfl (lv_at hl 0 rfl) ?_
  refine va_get (D := D) (ci := 3) (v := .ref a_values) (C := RX6) (T := TX6) (N := 2) hx hb hts iX6 hown hK hP 0 rfl rfl 1 (by decide) fl9 (fun _ h9 => h9) rfl dX6_two_1 ?_
  refine lv_iload_n hx hb dX6_two_4 rfl (lv_at hl 1 rfl) ?_
  refine lv_iload_n hx hb dX6_two_5 rfl (lv_at hl 2 rfl) ?_
  refine cr_i (rs (As := [.int x1, .int x2]) (rest := [.ref a_values]) ⟨hx, hb, hml, hown, hts⟩ (c_X6_placeOfTwo l D y x1 x2 _ (sat_bind h)) (va_cwS 2 hts gX6_two_X6_placeOfTwo rfl rfl rfl (by decide +kernel) ⟨Nat.le_of_ble_eq_true rfl, Nat.le_of_ble_eq_true rfl⟩) hK hP [] rfl rfl hl.1 rfl (Nat.le_of_ble_eq_true rfl) dX6_two_6 ⟨Nat.zero_le _, Nat.zero_le _⟩) (fun r1 h => ?_)
  obtain ⟨r2, er2, hin, h⟩ := sat_rd h
  refine xi hx hb hK hP 1 0 rfl rfl er2 hin dX6_two_9 ?_
  have h := sat_some h
  exact W.iret (v := r2) hx hb hr (fun t ht _ => ⟨r2, rfl, h, ht⟩) (fun _ hq => by cases hq) dX6_two_10

/-! X6_one -/
def m_X6_one (v_values : Nat → Int32) (x1 : Int32) : Option Int32 := (m_X6_placeOfOne x1).bind (fun r1 => rd 20 v_values r1 (fun r2 => some r2))
set_option maxHeartbeats 4000000 in
set_option maxRecDepth 100000 in
theorem c_X6_one (l : Launch) (D : va_G) (y : ClassId × ClassId × ClassId × ClassId) (a a_values : Nat) (v_size : Int32) (v_values : Nat → Int32) (x1 : Int32) (K : Int32 → Prop) (h : sat (m_X6_one v_values x1) K) : Met l yX6_one wsX6_one ({ frames := 1, cells := 0, slots := 0, locals := 20 } : Room) (pR D y ([.ref a, .int x1] : List Value) [(a, .inr (3, [.int v_size, .ref a_values])), (a_values, .inl (y.1, 20, .inl v_values))]) (qSi K) 0 0 (fun _ => False) := by
  refine Met.ofW (cc := cX6_one) (maxL := 2) (ret := (some .int)) (by decide) rfl ?_
  intro p e s m args below meth c s₁ B hml hv
  obtain ⟨rfl, hP, hK⟩ := hv
  have hx := B.exec
  have hb := B.bytes
  have hr := B.returns
  have hts := atoms_spec (ws := wsX6_one) B.pre
  have hown : s.vm.findClass RX6 = some m.cls := findClass_of_methodNamed B.named
  have hlocks := B.notSynchronized
  have iX6 : ∀ w ∈ wsX60, w ∈ wsX6_one := by decide +kernel
  have fl9 := hts (.fieldLink RX6 9 "AlgebraLaws$Tables" "values" "[I") (by decide +kernel)
  have hl := lv_entry ([.ref a, .int x1] : List Value) (n := 2) (Nat.le_of_ble_eq_true rfl)
  rw [lg_entry_eq]
  generalize (lg_sl ([.ref a, .int x1] : List Value) ++ List.replicate (2 - (lg_sl ([.ref a, .int x1] : List Value)).length) Slot.unset).toArray = ls at hl ⊢
  have hl : lv_has ls 2 [(0, .ref a), (1, .int x1)] := hl
  unfold m_X6_one at h
  refine lv_aload_n hx hb dX6_one_0 rfl (lv_at hl 0 rfl) ?_
  refine va_get (D := D) (ci := 3) (v := .ref a_values) (C := RX6) (T := TX6) (N := 2) hx hb hts iX6 hown hK hP 0 rfl rfl 1 (by decide) fl9 (fun _ h9 => h9) rfl dX6_one_1 ?_
  refine lv_iload_n hx hb dX6_one_4 rfl (lv_at hl 1 rfl) ?_
  refine cr_i (rs (As := [.int x1]) (rest := [.ref a_values]) ⟨hx, hb, hml, hown, hts⟩ (c_X6_placeOfOne l D y x1 _ (sat_bind h)) (va_cwS 1 hts gX6_one_X6_placeOfOne rfl rfl rfl (by decide +kernel) ⟨Nat.le_of_ble_eq_true rfl, Nat.le_of_ble_eq_true rfl⟩) hK hP [] rfl rfl hl.1 rfl (Nat.le_of_ble_eq_true rfl) dX6_one_5 ⟨Nat.zero_le _, Nat.zero_le _⟩) (fun r1 h => ?_)
  obtain ⟨r2, er2, hin, h⟩ := sat_rd h
  refine xi hx hb hK hP 1 0 rfl rfl er2 hin dX6_one_8 ?_
  have h := sat_some h
  exact W.iret (v := r2) hx hb hr (fun t ht _ => ⟨r2, rfl, h, ht⟩) (fun _ hq => by cases hq) dX6_one_9

/-! X6_at -/
def m_X6_at (v_values : Nat → Int32) (x1 : Int32) : Option Int32 := (if x1 < 0 then some 0 else (if 20 ≤ x1 then some 0 else rd 20 v_values x1 (fun r1 => some r1)))
set_option maxHeartbeats 4000000 in
set_option maxRecDepth 100000 in
theorem c_X6_at (l : Launch) (D : va_G) (y : ClassId × ClassId × ClassId × ClassId) (a a_values : Nat) (v_size : Int32) (v_values : Nat → Int32) (x1 : Int32) (K : Int32 → Prop) (h : sat (m_X6_at v_values x1) K) : Met l yX6_at wsX6_at ({ frames := 0, cells := 0, slots := 0, locals := 0 } : Room) (pR D y ([.ref a, .int x1] : List Value) [(a, .inr (3, [.int v_size, .ref a_values])), (a_values, .inl (y.1, 20, .inl v_values))]) (qSi K) 0 0 (fun _ => False) := by
  refine Met.ofW (cc := cX6_at) (maxL := 2) (ret := (some .int)) (by decide) rfl ?_
  intro p e s m args below meth c s₁ B hml hv
  obtain ⟨rfl, hP, hK⟩ := hv
  have hx := B.exec
  have hb := B.bytes
  have hr := B.returns
  have hts := atoms_spec (ws := wsX6_at) B.pre
  have hown : s.vm.findClass RX6 = some m.cls := findClass_of_methodNamed B.named
  have hlocks := B.notSynchronized
  have iX6 : ∀ w ∈ wsX60, w ∈ wsX6_at := by decide +kernel
  have fl9 := hts (.fieldLink RX6 9 "AlgebraLaws$Tables" "values" "[I") (by decide +kernel)
  have hl := lv_entry ([.ref a, .int x1] : List Value) (n := 2) (Nat.le_of_ble_eq_true rfl)
  rw [lg_entry_eq]
  generalize (lg_sl ([.ref a, .int x1] : List Value) ++ List.replicate (2 - (lg_sl ([.ref a, .int x1] : List Value)).length) Slot.unset).toArray = ls at hl ⊢
  have hl : lv_has ls 2 [(0, .ref a), (1, .int x1)] := hl
  unfold m_X6_at at h
  refine lv_iload_n hx hb dX6_at_0 rfl (lv_at hl 1 rfl) ?_
  refine lv_if_lt (tgt := 19) hx hb dX6_at_1 (by decide) (fun c1 => ?_) (fun c1 => ?_)
  · have h := sat_t c1 h
    refine lv_iconst (v := 0) hx hb dX6_at_19 (by decide) ?_
    have h := sat_some h
    exact W.iret (v := 0) hx hb hr (fun t ht _ => ⟨0, rfl, h, ht⟩) (fun _ hq => by cases hq) dX6_at_20
  · have h := sat_f c1 h
    refine lv_iload_n hx hb dX6_at_4 rfl (lv_at hl 1 rfl) ?_
    refine lv_bipush (v := 20) hx hb dX6_at_5 (by decide) ?_
    refine lv_icmp_ge (tgt := 19) hx hb dX6_at_7 (by decide) (fun c7 => ?_) (fun c7 => ?_)
    · have h := sat_t c7 h
      refine lv_iconst (v := 0) hx hb dX6_at_19 (by decide) ?_
      have h := sat_some h
      exact W.iret (v := 0) hx hb hr (fun t ht _ => ⟨0, rfl, h, ht⟩) (fun _ hq => by cases hq) dX6_at_20
    · have h := sat_f c7 h
      refine lv_aload_n hx hb dX6_at_10 rfl (lv_at hl 0 rfl) ?_
      refine va_get (D := D) (ci := 3) (v := .ref a_values) (C := RX6) (T := TX6) (N := 2) hx hb hts iX6 hown hK hP 0 rfl rfl 1 (by decide) fl9 (fun _ h9 => h9) rfl dX6_at_11 ?_
      refine lv_iload_n hx hb dX6_at_14 rfl (lv_at hl 1 rfl) ?_
      obtain ⟨r1, er1, hin, h⟩ := sat_rd h
      refine xi hx hb hK hP 1 0 rfl rfl er1 hin dX6_at_15 ?_
      refine lv_goto (tgt := 20) hx hb dX6_at_16 (by decide) ?_
      have h := sat_some h
      exact W.iret (v := r1) hx hb hr (fun t ht _ => ⟨r1, rfl, h, ht⟩) (fun _ hq => by cases hq) dX6_at_20

/-! X6_put -/
def m_X6_put (v_values : Nat → Int32) (x1 : Int32) (x2 : Int32) : Option ((Nat → Int32)) := (if x1 < 0 then some v_values else (if 20 ≤ x1 then some v_values else wrI 20 v_values x1 x2 (fun f1 => some f1)))
set_option maxHeartbeats 4000000 in
set_option maxRecDepth 100000 in
theorem c_X6_put (l : Launch) (D : va_G) (y : ClassId × ClassId × ClassId × ClassId) (a a_values : Nat) (v_size : Int32) (v_values : Nat → Int32) (x1 : Int32) (x2 : Int32) (sz : Nat) (A : Nat → Prop) (hAe : va_A [(a, .inr (3, [.int v_size, .ref a_values])), (a_values, .inl (y.1, 20, .inl v_values))] sz = A) (K : ((Nat → Int32)) → Prop) (h : sat (m_X6_put v_values x1 x2) K) : Met l yX6_put wsX6_put ({ frames := 0, cells := 0, slots := 0, locals := 0 } : Room) (pW D y ([.ref a, .int x1, .int x2] : List Value) [(a, .inr (3, [.int v_size, .ref a_values])), (a_values, .inl (y.1, 20, .inl v_values))] sz) (va_Qv K (bW D y A (fun u : ((Nat → Int32)) => [(a, .inr (3, [.int v_size, .ref a_values])), (a_values, .inl (y.1, 20, .inl u))])) A) 0 0 A := by
  refine Met.ofW (cc := cX6_put) (maxL := 3) (ret := none) (by decide) rfl ?_
  intro p e s m args below meth c s₁ B hml hv
  obtain ⟨rfl, hsz, hP, hK, hD0⟩ := hv
  have hx := B.exec
  have hb := B.bytes
  have hr := B.returns
  have hts := atoms_spec (ws := wsX6_put) B.pre
  have hown : s.vm.findClass RX6 = some m.cls := findClass_of_methodNamed B.named
  have hlocks := B.notSynchronized
  subst hsz
  have hD : va_D A [(a, .inr (3, [.int v_size, .ref a_values])), (a_values, .inl (y.1, 20, .inl v_values))] := hAe ▸ hD0.self
  have hA : ∀ q : Nat, s.heap.size ≤ q → A q := fun q h => hAe ▸ Or.inr h
  have hS : va_S A s.heap s.heap [] := va_S.rf
  have iX6 : ∀ w ∈ wsX60, w ∈ wsX6_put := by decide +kernel
  have fl9 := hts (.fieldLink RX6 9 "AlgebraLaws$Tables" "values" "[I") (by decide +kernel)
  have hl := lv_entry ([.ref a, .int x1, .int x2] : List Value) (n := 3) (Nat.le_of_ble_eq_true rfl)
  rw [lg_entry_eq]
  generalize (lg_sl ([.ref a, .int x1, .int x2] : List Value) ++ List.replicate (3 - (lg_sl ([.ref a, .int x1, .int x2] : List Value)).length) Slot.unset).toArray = ls at hl ⊢
  have hl : lv_has ls 3 [(0, .ref a), (1, .int x1), (2, .int x2)] := hl
  unfold m_X6_put at h
  refine lv_iload_n hx hb dX6_put_0 rfl (lv_at hl 1 rfl) ?_
  refine lv_if_lt (tgt := 17) hx hb dX6_put_1 (by decide) (fun c1 => ?_) (fun c1 => ?_)
  · have h := sat_t c1 h
    have h := sat_some h
    exact W.vret hx hb hr (fun t ht hW => ⟨⟨v_values, rfl, h, by rw [ht]; exact hP, va_K.moved hW.alike hK, hD⟩, hS.F ht⟩) hS.2.2 dX6_put_17
  · have h := sat_f c1 h
    refine lv_iload_n hx hb dX6_put_4 rfl (lv_at hl 1 rfl) ?_
    refine lv_bipush (v := 20) hx hb dX6_put_5 (by decide) ?_
    refine lv_icmp_ge (tgt := 17) hx hb dX6_put_7 (by decide) (fun c7 => ?_) (fun c7 => ?_)
    · have h := sat_t c7 h
      have h := sat_some h
      exact W.vret hx hb hr (fun t ht hW => ⟨⟨v_values, rfl, h, by rw [ht]; exact hP, va_K.moved hW.alike hK, hD⟩, hS.F ht⟩) hS.2.2 dX6_put_17
    · have h := sat_f c7 h
      refine lv_aload_n hx hb dX6_put_10 rfl (lv_at hl 0 rfl) ?_
      refine va_get (D := D) (ci := 3) (v := .ref a_values) (C := RX6) (T := TX6) (N := 2) hx hb hts iX6 hown hK hP 0 rfl rfl 1 (by decide) fl9 (fun _ h9 => h9) rfl dX6_put_11 ?_
      refine lv_iload_n hx hb dX6_put_14 rfl (lv_at hl 1 rfl) ?_
      refine lv_iload_n hx hb dX6_put_15 rfl (lv_at hl 2 rfl) ?_
      obtain ⟨f1, ef1, hin, h⟩ := sat_wrI h
      refine yi (wn := [(a, .inr (3, [.int v_size, .ref a_values])), (a_values, .inl (y.1, 20, .inl f1))]) hx hb hK hP hD hS 1 0 rfl rfl ef1 hin dX6_put_16 rfl (fun H locs hP hD hS => ?_)
      have h := sat_some h
      exact W.vret hx hb hr (fun t ht hW => ⟨⟨f1, rfl, h, by rw [ht]; exact hP, va_K.moved hW.alike hK, hD⟩, hS.F ht⟩) hS.2.2 dX6_put_17

/-! X6_copyFrom -/
def m_X6_copyFrom (v_size : Int32) (v_values : Nat → Int32) (v1_size : Int32) (v1_values : Nat → Int32)  : Option (Int32 × (Nat → Int32)) := nm (va_cpy v1_values v_values 0 0 20) (fun f1 => some (v1_size, f1))
set_option maxHeartbeats 4000000 in
set_option maxRecDepth 100000 in
theorem c_X6_copyFrom (l : Launch) (D : va_G) (y : ClassId × ClassId × ClassId × ClassId) (a a_values a1 a1_values : Nat) (v_size : Int32) (v_values : Nat → Int32) (v1_size : Int32) (v1_values : Nat → Int32) (sz : Nat) (A : Nat → Prop) (hAe : va_A [(a, .inr (3, [.int v_size, .ref a_values])), (a_values, .inl (y.1, 20, .inl v_values)), (a1, .inr (3, [.int v1_size, .ref a1_values])), (a1_values, .inl (y.1, 20, .inl v1_values))] sz = A) (K : (Int32 × (Nat → Int32)) → Prop) (h : sat (m_X6_copyFrom v_size v_values v1_size v1_values) K) : Met l yX6_copyFrom wsX6_copyFrom ({ frames := 1, cells := 0, slots := 0, locals := 40 } : Room) (pW D y ([.ref a, .ref a1] : List Value) [(a, .inr (3, [.int v_size, .ref a_values])), (a_values, .inl (y.1, 20, .inl v_values)), (a1, .inr (3, [.int v1_size, .ref a1_values])), (a1_values, .inl (y.1, 20, .inl v1_values))] sz) (va_Qv K (bW D y A (fun u : (Int32 × (Nat → Int32)) => [(a, .inr (3, [.int u.1, .ref a_values])), (a_values, .inl (y.1, 20, .inl u.2)), (a1, .inr (3, [.int v1_size, .ref a1_values])), (a1_values, .inl (y.1, 20, .inl v1_values))])) A) 0 0 A := by
  refine Met.ofW (cc := cX6_copyFrom) (maxL := 2) (ret := none) (by decide) rfl ?_
  intro p e s m args below meth c s₁ B hml hv
  obtain ⟨rfl, hsz, hP, hK, hD0⟩ := hv
  have hx := B.exec
  have hb := B.bytes
  have hr := B.returns
  have hts := atoms_spec (ws := wsX6_copyFrom) B.pre
  have hown : s.vm.findClass RX6 = some m.cls := findClass_of_methodNamed B.named
  have hlocks := B.notSynchronized
  subst hsz
  have hD : va_D A [(a, .inr (3, [.int v_size, .ref a_values])), (a_values, .inl (y.1, 20, .inl v_values)), (a1, .inr (3, [.int v1_size, .ref a1_values])), (a1_values, .inl (y.1, 20, .inl v1_values))] := hAe ▸ hD0.self
  have hA : ∀ q : Nat, s.heap.size ≤ q → A q := fun q h => hAe ▸ Or.inr h
  have hS : va_S A s.heap s.heap [] := va_S.rf
  have iX6 : ∀ w ∈ wsX60, w ∈ wsX6_copyFrom := by decide +kernel
  have fl13 := hts (.fieldLink RX6 13 "AlgebraLaws$Tables" "size" "I") (by decide +kernel)
  have fl9 := hts (.fieldLink RX6 9 "AlgebraLaws$Tables" "values" "[I") (by decide +kernel)
  have hl := lv_entry ([.ref a, .ref a1] : List Value) (n := 2) (Nat.le_of_ble_eq_true rfl)
  rw [lg_entry_eq]
  generalize (lg_sl ([.ref a, .ref a1] : List Value) ++ List.replicate (2 - (lg_sl ([.ref a, .ref a1] : List Value)).length) Slot.unset).toArray = ls at hl ⊢
  have hl : lv_has ls 2 [(0, .ref a), (1, .ref a1)] := hl
  unfold m_X6_copyFrom at h
  refine lv_aload_n hx hb dX6_copyFrom_0 rfl (lv_at hl 0 rfl) ?_
  refine lv_aload_n hx hb dX6_copyFrom_1 rfl (lv_at hl 1 rfl) ?_
  refine va_get (D := D) (ci := 3) (v := .int v1_size) (C := RX6) (T := TX6) (N := 2) hx hb hts iX6 hown hK hP 2 rfl rfl 0 (by decide) fl13 (fun _ h9 => h9) rfl dX6_copyFrom_2 ?_
  refine pf (D := D) (ci := 3) (v := .int v1_size) (ty := .int) (C := RX6) (T := TX6) (N := 2) (wn := [(a, .inr (3, [.int v1_size, .ref a_values])), (a_values, .inl (y.1, 20, .inl v_values)), (a1, .inr (3, [.int v1_size, .ref a1_values])), (a1_values, .inl (y.1, 20, .inl v1_values))]) hx hb hts iX6 tyX6 tyX6_ok nmX6 hown hK hP hD hS 0 rfl rfl 0 (by decide) fl13 (fun _ h9 => h9) rfl (by decide +kernel) rfl rfl (Nat.le_of_ble_eq_true rfl) dX6_copyFrom_5 rfl (fun H locs hP hD hS => ?_)
  refine lv_aload_n hx hb dX6_copyFrom_8 rfl (lv_at hl 1 rfl) ?_
  refine va_get (D := D) (ci := 3) (v := .ref a1_values) (C := RX6) (T := TX6) (N := 2) hx hb hts iX6 hown hK hP 2 rfl rfl 1 (by decide) fl9 (fun _ h9 => h9) rfl dX6_copyFrom_9 ?_
  refine lv_iconst (v := 0) hx hb dX6_copyFrom_12 (by decide) ?_
  refine lv_aload_n hx hb dX6_copyFrom_13 rfl (lv_at hl 0 rfl) ?_
  refine va_get (D := D) (ci := 3) (v := .ref a_values) (C := RX6) (T := TX6) (N := 2) hx hb hts iX6 hown hK hP 0 rfl rfl 1 (by decide) fl9 (fun _ h9 => h9) rfl dX6_copyFrom_14 ?_
  refine lv_iconst (v := 0) hx hb dX6_copyFrom_17 (by decide) ?_
  refine lv_bipush (v := 20) hx hb dX6_copyFrom_18 (by decide) ?_
  obtain ⟨f1, ef1, h⟩ := sat_nm h
  refine cpy (wn := [(a, .inr (3, [.int v1_size, .ref a_values])), (a_values, .inl (y.1, 20, .inl f1)), (a1, .inr (3, [.int v1_size, .ref a1_values])), (a1_values, .inl (y.1, 20, .inl v1_values))]) hx hb (by rw [hml]; exact hl.1.symm) hown (hts (.methodLink RX6 25 arraycopyName) (by decide +kernel)) (hts (.native arraycopyName) (by decide +kernel)) (hts (.static arraycopyName) (by decide +kernel)) (hts (.initialized "java/lang/System") (by decide +kernel)) hK hP hD hS 3 1 0 0 rfl rfl rfl rfl 0 0 20 ef1 (by decide) (Nat.le_of_ble_eq_true rfl) (Nat.le_of_ble_eq_true rfl) dX6_copyFrom_20 rfl (fun H locs hP hD hS => ?_)
  have h := sat_some h
  exact W.vret hx hb hr (fun t ht hW => ⟨⟨(v1_size, f1), rfl, h, by rw [ht]; exact hP, va_K.moved hW.alike hK, hD⟩, hS.F ht⟩) hS.2.2 dX6_copyFrom_23

/-! X0_valuesIn -/
def m_X0_valuesIn_s33 (v_size : Int32) (v_values : Nat → Int32) (x1 : Int32) (x3_4 : Int32) (x2_33 : Int32) (x4_33 : Int32) : Option ((Int32 × Int32) ⊕ Int32) := (if v_size ≤ x4_33 then some (.inr x2_33) else (if ((x1 >>> (x4_33 &&& 31)) &&& 1) = 0 then some (.inl (x2_33, x4_33 + 1)) else (m_X6_two v_values x3_4 x4_33).bind (fun r4 => some (.inl (x2_33 ||| (1 <<< (r4 &&& 31)), x4_33 + 1)))))
def m_X0_valuesIn_s4 (v_size : Int32) (v_values : Nat → Int32) (x1 : Int32) (x2_4 : Int32) (x3_4 : Int32) : Option ((Int32 × Int32) ⊕ Int32) := (if v_size ≤ x3_4 then some (.inr x2_4) else (if ((x1 >>> (x3_4 &&& 31)) &&& 1) = 0 then some (.inl (x2_4, x3_4 + 1)) else (m_X6_one v_values x3_4).bind (fun r2 => (lp (fun q : (Int32 × Int32) => m_X0_valuesIn_s33 v_size v_values x1 x3_4 q.1 q.2) 1000 (x2_4 ||| (1 <<< (r2 &&& 31)), 0)).bind (fun u33 => some (.inl (u33, x3_4 + 1))))))
def m_X0_valuesIn (v_size : Int32) (v_values : Nat → Int32) (x1 : Int32) : Option Int32 := (lp (fun q : (Int32 × Int32) => m_X0_valuesIn_s4 v_size v_values x1 q.1 q.2) 1000 (0, 0)).bind (fun u4 => some u4)
set_option maxHeartbeats 4000000 in
set_option maxRecDepth 100000 in
theorem c_X0_valuesIn (l : Launch) (D : va_G) (y : ClassId × ClassId × ClassId × ClassId) (a a_values : Nat) (v_size : Int32) (v_values : Nat → Int32) (x1 : Int32) (K : Int32 → Prop) (h : sat (m_X0_valuesIn v_size v_values x1) K) : Met l yX0_valuesIn wsX0_valuesIn ({ frames := 2, cells := 0, slots := 0, locals := 43 } : Room) (pR D y ([.ref a, .int x1] : List Value) [(a, .inr (3, [.int v_size, .ref a_values])), (a_values, .inl (y.1, 20, .inl v_values))]) (qSi K) 0 0 (fun _ => False) := by
  refine Met.ofW (cc := cX0_valuesIn) (maxL := 5) (ret := (some .int)) (by decide) rfl ?_
  intro p e s m args below meth c s₁ B hml hv
  obtain ⟨rfl, hP, hK⟩ := hv
  have hx := B.exec
  have hb := B.bytes
  have hr := B.returns
  have hts := atoms_spec (ws := wsX0_valuesIn) B.pre
  have hown : s.vm.findClass RX0 = some m.cls := findClass_of_methodNamed B.named
  have hlocks := B.notSynchronized
  have iX6 : ∀ w ∈ wsX60, w ∈ wsX0_valuesIn := by decide +kernel
  have fl25 := hts (.fieldLink RX0 25 "AlgebraLaws$Tables" "size" "I") (by decide +kernel)
  have hl := lv_entry ([.ref a, .int x1] : List Value) (n := 5) (Nat.le_of_ble_eq_true rfl)
  rw [lg_entry_eq]
  generalize (lg_sl ([.ref a, .int x1] : List Value) ++ List.replicate (5 - (lg_sl ([.ref a, .int x1] : List Value)).length) Slot.unset).toArray = ls at hl ⊢
  have hl : lv_has ls 5 [(0, .ref a), (1, .int x1)] := hl
  unfold m_X0_valuesIn at h
  refine lv_iconst (v := 0) hx hb dX0_valuesIn_0 (by decide) ?_
  refine lv_istore_n (lv' := [(2, .int 0), (0, .ref a), (1, .int x1)]) hx hb dX0_valuesIn_1 rfl hl (by decide) rfl (fun ls hl => ?_)
  refine lv_iconst (v := 0) hx hb dX0_valuesIn_2 (by decide) ?_
  refine lv_istore_n (lv' := [(3, .int 0), (2, .int 0), (0, .ref a), (1, .int x1)]) hx hb dX0_valuesIn_3 rfl hl (by decide) rfl (fun ls hl => ?_)
  have hL4 : ∀ (K4 : Int32 → Prop)
      (hE4 : ∀ (u4 : Int32) (ls : Array Slot), K4 u4 → lv_has ls 5 [(2, .int u4)] → W p l e (headSpec wsX0_valuesIn ({ frames := 2, cells := 0, slots := 0, locals := 43 } : Room)).room s m ([.ref a, .int x1] : List Value).toArray below meth c s.heap [] 0 0 (MQ below (qSi K) ([.ref a, .int x1] : List Value).toArray s 0 0 (fun _ => False)) (F0 m 75 ls []))
      (n : Nat) (x2_4 : Int32) (x3_4 : Int32) (ls : Array Slot), sat (lp (fun q : (Int32 × Int32) => m_X0_valuesIn_s4 v_size v_values x1 q.1 q.2) n (x2_4, x3_4)) K4 → lv_has ls 5 [(0, .ref a), (1, .int x1), (2, .int x2_4), (3, .int x3_4)] → W p l e (headSpec wsX0_valuesIn ({ frames := 2, cells := 0, slots := 0, locals := 43 } : Room)).room s m ([.ref a, .int x1] : List Value).toArray below meth c s.heap [] 0 0 (MQ below (qSi K) ([.ref a, .int x1] : List Value).toArray s 0 0 (fun _ => False)) (F0 m 4 ls []) := by
    intro K4 hE4 n
    induction n with
    | zero => intro x2_4 x3_4 ls h; exact (sat_lp0 h).elim
    | succ n ih =>
      intro x2_4 x3_4 ls h hl
      have h := sat_lp h
      have h : sat (m_X0_valuesIn_s4 v_size v_values x1 x2_4 x3_4) (lk (fun s' => sat (lp (fun q : (Int32 × Int32) => m_X0_valuesIn_s4 v_size v_values x1 q.1 q.2) n s') K4) K4) := h
      unfold m_X0_valuesIn_s4 at h
      refine lv_iload_n hx hb dX0_valuesIn_4 rfl (lv_at hl 3 rfl) ?_
      refine lv_aload_n hx hb dX0_valuesIn_5 rfl (lv_at hl 0 rfl) ?_
      refine va_get (D := D) (ci := 3) (v := .int v_size) (C := RX6) (T := TX6) (N := 2) hx hb hts iX6 hown hK hP 0 rfl rfl 0 (by decide) fl25 (fun _ h9 => h9) rfl dX0_valuesIn_6 ?_
      refine lv_icmp_ge (tgt := 75) hx hb dX0_valuesIn_9 (by decide) (fun c9 => ?_) (fun c9 => ?_)
      · have h := sat_t c9 h
        have h := lk_r (sat_some h)
        exact hE4 x2_4 ls h (lv_sub hl [2] rfl)
      · have h := sat_f c9 h
        refine lv_iload_n hx hb dX0_valuesIn_12 rfl (lv_at hl 1 rfl) ?_
        refine lv_iload_n hx hb dX0_valuesIn_13 rfl (lv_at hl 3 rfl) ?_
        refine lv_ishr hx hb dX0_valuesIn_14 ?_
        refine lv_iconst (v := 1) hx hb dX0_valuesIn_15 (by decide) ?_
        refine lv_iand hx hb dX0_valuesIn_16 ?_
        refine lv_if_eq (tgt := 69) hx hb dX0_valuesIn_17 (by decide) (fun c17 => ?_) (fun c17 => ?_)
        · have h := sat_t c17 h
          refine lv_iinc (v := x3_4 + 1) (lv' := [(3, .int (x3_4 + 1)), (0, .ref a), (1, .int x1), (2, .int x2_4)]) hx hb dX0_valuesIn_69 hl (k := 3) rfl rfl (by decide) rfl (fun ls hl => ?_)
          refine lv_goto (tgt := 4) hx hb dX0_valuesIn_72 (by decide) ?_
          have h := lk_l (sat_some h)
          exact ih x2_4 (x3_4 + 1) ls h (lv_sub hl [1, 2, 3, 0] rfl)
        · have h := sat_f c17 h
          refine lv_iload_n hx hb dX0_valuesIn_20 rfl (lv_at hl 2 rfl) ?_
          refine lv_iconst (v := 1) hx hb dX0_valuesIn_21 (by decide) ?_
          refine lv_aload_n hx hb dX0_valuesIn_22 rfl (lv_at hl 0 rfl) ?_
          refine lv_iload_n hx hb dX0_valuesIn_23 rfl (lv_at hl 3 rfl) ?_
          refine cr_i (rv (As := [.int x3_4]) (rest := [.int 1, .int x2_4]) ⟨hx, hb, hml, hown, hts⟩ (c_X6_one l D y a a_values v_size v_values x3_4 _ (sat_bind h)) (cwV 1 hts gX0_valuesIn_X6_one rfl rfl rfl (by decide +kernel) ⟨Nat.le_of_ble_eq_true rfl, Nat.le_of_ble_eq_true rfl⟩) hK hP [0, 1] rfl 0 3 rfl rfl rfl rfl hl.1 rfl (Nat.le_of_ble_eq_true rfl) dX0_valuesIn_24 ⟨Nat.zero_le _, Nat.zero_le _⟩) (fun r2 h => ?_)
          refine lv_ishl hx hb dX0_valuesIn_27 ?_
          refine lv_ior hx hb dX0_valuesIn_28 ?_
          refine lv_istore_n (lv' := [(2, .int (x2_4 ||| (1 <<< (r2 &&& 31)))), (0, .ref a), (1, .int x1), (3, .int x3_4)]) hx hb dX0_valuesIn_29 rfl hl (by decide) rfl (fun ls hl => ?_)
          refine lv_iconst (v := 0) hx hb dX0_valuesIn_30 (by decide) ?_
          refine lv_istore (lv' := [(4, .int 0), (2, .int (x2_4 ||| (1 <<< (r2 &&& 31)))), (0, .ref a), (1, .int x1), (3, .int x3_4)]) hx hb dX0_valuesIn_31 hl (by decide) rfl (fun ls hl => ?_)
          have hL33 : ∀ (K33 : Int32 → Prop)
              (hE33 : ∀ (u33 : Int32) (ls : Array Slot), K33 u33 → lv_has ls 5 [(0, .ref a), (1, .int x1), (2, .int u33), (3, .int x3_4)] → W p l e (headSpec wsX0_valuesIn ({ frames := 2, cells := 0, slots := 0, locals := 43 } : Room)).room s m ([.ref a, .int x1] : List Value).toArray below meth c s.heap [] 0 0 (MQ below (qSi K) ([.ref a, .int x1] : List Value).toArray s 0 0 (fun _ => False)) (F0 m 69 ls []))
              (n : Nat) (x2_33 : Int32) (x4_33 : Int32) (ls : Array Slot), sat (lp (fun q : (Int32 × Int32) => m_X0_valuesIn_s33 v_size v_values x1 x3_4 q.1 q.2) n (x2_33, x4_33)) K33 → lv_has ls 5 [(0, .ref a), (1, .int x1), (2, .int x2_33), (3, .int x3_4), (4, .int x4_33)] → W p l e (headSpec wsX0_valuesIn ({ frames := 2, cells := 0, slots := 0, locals := 43 } : Room)).room s m ([.ref a, .int x1] : List Value).toArray below meth c s.heap [] 0 0 (MQ below (qSi K) ([.ref a, .int x1] : List Value).toArray s 0 0 (fun _ => False)) (F0 m 33 ls []) := by
            intro K33 hE33 n
            induction n with
            | zero => intro x2_33 x4_33 ls h; exact (sat_lp0 h).elim
            | succ n ih =>
              intro x2_33 x4_33 ls h hl
              have h := sat_lp h
              have h : sat (m_X0_valuesIn_s33 v_size v_values x1 x3_4 x2_33 x4_33) (lk (fun s' => sat (lp (fun q : (Int32 × Int32) => m_X0_valuesIn_s33 v_size v_values x1 x3_4 q.1 q.2) n s') K33) K33) := h
              unfold m_X0_valuesIn_s33 at h
              refine lv_iload hx hb dX0_valuesIn_33 (lv_at hl 4 rfl) ?_
              refine lv_aload_n hx hb dX0_valuesIn_35 rfl (lv_at hl 0 rfl) ?_
              refine va_get (D := D) (ci := 3) (v := .int v_size) (C := RX6) (T := TX6) (N := 2) hx hb hts iX6 hown hK hP 0 rfl rfl 0 (by decide) fl25 (fun _ h9 => h9) rfl dX0_valuesIn_36 ?_
              refine lv_icmp_ge (tgt := 69) hx hb dX0_valuesIn_39 (by decide) (fun c39 => ?_) (fun c39 => ?_)
              · have h := sat_t c39 h
                have h := lk_r (sat_some h)
                exact hE33 x2_33 ls h (lv_sub hl [0, 1, 2, 3] rfl)
              · have h := sat_f c39 h
                refine lv_iload_n hx hb dX0_valuesIn_42 rfl (lv_at hl 1 rfl) ?_
                refine lv_iload hx hb dX0_valuesIn_43 (lv_at hl 4 rfl) ?_
                refine lv_ishr hx hb dX0_valuesIn_45 ?_
                refine lv_iconst (v := 1) hx hb dX0_valuesIn_46 (by decide) ?_
                refine lv_iand hx hb dX0_valuesIn_47 ?_
                refine lv_if_eq (tgt := 63) hx hb dX0_valuesIn_48 (by decide) (fun c48 => ?_) (fun c48 => ?_)
                · have h := sat_t c48 h
                  refine lv_iinc (v := x4_33 + 1) (lv' := [(4, .int (x4_33 + 1)), (0, .ref a), (1, .int x1), (2, .int x2_33), (3, .int x3_4)]) hx hb dX0_valuesIn_63 hl (k := 4) rfl rfl (by decide) rfl (fun ls hl => ?_)
                  refine lv_goto (tgt := 33) hx hb dX0_valuesIn_66 (by decide) ?_
                  have h := lk_l (sat_some h)
                  exact ih x2_33 (x4_33 + 1) ls h (lv_sub hl [1, 2, 3, 4, 0] rfl)
                · have h := sat_f c48 h
                  refine lv_iload_n hx hb dX0_valuesIn_51 rfl (lv_at hl 2 rfl) ?_
                  refine lv_iconst (v := 1) hx hb dX0_valuesIn_52 (by decide) ?_
                  refine lv_aload_n hx hb dX0_valuesIn_53 rfl (lv_at hl 0 rfl) ?_
                  refine lv_iload_n hx hb dX0_valuesIn_54 rfl (lv_at hl 3 rfl) ?_
                  refine lv_iload hx hb dX0_valuesIn_55 (lv_at hl 4 rfl) ?_
                  refine cr_i (rv (As := [.int x3_4, .int x4_33]) (rest := [.int 1, .int x2_33]) ⟨hx, hb, hml, hown, hts⟩ (c_X6_two l D y a a_values v_size v_values x3_4 x4_33 _ (sat_bind h)) (cwV 2 hts gX0_valuesIn_X6_two rfl rfl rfl (by decide +kernel) ⟨Nat.le_of_ble_eq_true rfl, Nat.le_of_ble_eq_true rfl⟩) hK hP [0, 1] rfl 0 3 rfl rfl rfl rfl hl.1 rfl (Nat.le_of_ble_eq_true rfl) dX0_valuesIn_57 ⟨Nat.zero_le _, Nat.zero_le _⟩) (fun r4 h => ?_)
                  refine lv_ishl hx hb dX0_valuesIn_60 ?_
                  refine lv_ior hx hb dX0_valuesIn_61 ?_
                  refine lv_istore_n (lv' := [(2, .int (x2_33 ||| (1 <<< (r4 &&& 31)))), (0, .ref a), (1, .int x1), (3, .int x3_4), (4, .int x4_33)]) hx hb dX0_valuesIn_62 rfl hl (by decide) rfl (fun ls hl => ?_)
                  refine lv_iinc (v := x4_33 + 1) (lv' := [(4, .int (x4_33 + 1)), (2, .int (x2_33 ||| (1 <<< (r4 &&& 31)))), (0, .ref a), (1, .int x1), (3, .int x3_4)]) hx hb dX0_valuesIn_63 hl (k := 4) rfl rfl (by decide) rfl (fun ls hl => ?_)
                  refine lv_goto (tgt := 33) hx hb dX0_valuesIn_66 (by decide) ?_
                  have h := lk_l (sat_some h)
                  exact ih (x2_33 ||| (1 <<< (r4 &&& 31))) (x4_33 + 1) ls h (lv_sub hl [2, 3, 1, 4, 0] rfl)
          have h := sat_bind h
          refine hL33 _ (fun u33 ls h hl => ?_) 1000 (x2_4 ||| (1 <<< (r2 &&& 31))) 0 ls h (lv_sub hl [2, 3, 1, 4, 0] rfl)
          refine lv_iinc (v := x3_4 + 1) (lv' := [(3, .int (x3_4 + 1)), (0, .ref a), (1, .int x1), (2, .int u33)]) hx hb dX0_valuesIn_69 hl (k := 3) rfl rfl (by decide) rfl (fun ls hl => ?_)
          refine lv_goto (tgt := 4) hx hb dX0_valuesIn_72 (by decide) ?_
          have h := lk_l (sat_some h)
          exact ih u33 (x3_4 + 1) ls h (lv_sub hl [1, 2, 3, 0] rfl)
  have h := sat_bind h
  refine hL4 _ (fun u4 ls h hl => ?_) 1000 0 0 ls h (lv_sub hl [2, 3, 1, 0] rfl)
  refine lv_iload_n hx hb dX0_valuesIn_75 rfl (lv_at hl 0 rfl) ?_
  have h := sat_some h
  exact W.iret (v := u4) hx hb hr (fun t ht _ => ⟨u4, rfl, h, ht⟩) (fun _ hq => by cases hq) dX0_valuesIn_76

/-! X0_leastAround -/
def m_X0_leastAround_s4 (v_size : Int32) (v_values : Nat → Int32) (x2_4 : Int32) (x3_4 : Int32) : Option ((Int32 × Int32) ⊕ Int32) := (if 4 ≤ x3_4 then some (.inr x2_4) else (m_X0_valuesIn v_size v_values x2_4).bind (fun r2 => some (.inl (x2_4 ||| r2, x3_4 + 1))))
def m_X0_leastAround (v_size : Int32) (v_values : Nat → Int32) (x1 : Int32) : Option Int32 := (lp (fun q : (Int32 × Int32) => m_X0_leastAround_s4 v_size v_values q.1 q.2) 1000 (x1, 0)).bind (fun u4 => some u4)
set_option maxHeartbeats 4000000 in
set_option maxRecDepth 100000 in
theorem c_X0_leastAround (l : Launch) (D : va_G) (y : ClassId × ClassId × ClassId × ClassId) (a a_values : Nat) (v_size : Int32) (v_values : Nat → Int32) (x1 : Int32) (K : Int32 → Prop) (h : sat (m_X0_leastAround v_size v_values x1) K) : Met l yX0_leastAround wsX0_leastAround ({ frames := 3, cells := 0, slots := 0, locals := 67 } : Room) (pR D y ([.ref a, .int x1] : List Value) [(a, .inr (3, [.int v_size, .ref a_values])), (a_values, .inl (y.1, 20, .inl v_values))]) (qSi K) 0 0 (fun _ => False) := by
  refine Met.ofW (cc := cX0_leastAround) (maxL := 4) (ret := (some .int)) (by decide) rfl ?_
  intro p e s m args below meth c s₁ B hml hv
  obtain ⟨rfl, hP, hK⟩ := hv
  have hx := B.exec
  have hb := B.bytes
  have hr := B.returns
  have hts := atoms_spec (ws := wsX0_leastAround) B.pre
  have hown : s.vm.findClass RX0 = some m.cls := findClass_of_methodNamed B.named
  have hlocks := B.notSynchronized
  have hl := lv_entry ([.ref a, .int x1] : List Value) (n := 4) (Nat.le_of_ble_eq_true rfl)
  rw [lg_entry_eq]
  generalize (lg_sl ([.ref a, .int x1] : List Value) ++ List.replicate (4 - (lg_sl ([.ref a, .int x1] : List Value)).length) Slot.unset).toArray = ls at hl ⊢
  have hl : lv_has ls 4 [(0, .ref a), (1, .int x1)] := hl
  unfold m_X0_leastAround at h
  refine lv_iload_n hx hb dX0_leastAround_0 rfl (lv_at hl 1 rfl) ?_
  refine lv_istore_n (lv' := [(2, .int x1), (0, .ref a), (1, .int x1)]) hx hb dX0_leastAround_1 rfl hl (by decide) rfl (fun ls hl => ?_)
  refine lv_iconst (v := 0) hx hb dX0_leastAround_2 (by decide) ?_
  refine lv_istore_n (lv' := [(3, .int 0), (2, .int x1), (0, .ref a), (1, .int x1)]) hx hb dX0_leastAround_3 rfl hl (by decide) rfl (fun ls hl => ?_)
  have hL4 : ∀ (K4 : Int32 → Prop)
      (hE4 : ∀ (u4 : Int32) (ls : Array Slot), K4 u4 → lv_has ls 4 [(2, .int u4)] → W p l e (headSpec wsX0_leastAround ({ frames := 3, cells := 0, slots := 0, locals := 67 } : Room)).room s m ([.ref a, .int x1] : List Value).toArray below meth c s.heap [] 0 0 (MQ below (qSi K) ([.ref a, .int x1] : List Value).toArray s 0 0 (fun _ => False)) (F0 m 23 ls []))
      (n : Nat) (x2_4 : Int32) (x3_4 : Int32) (ls : Array Slot), sat (lp (fun q : (Int32 × Int32) => m_X0_leastAround_s4 v_size v_values q.1 q.2) n (x2_4, x3_4)) K4 → lv_has ls 4 [(0, .ref a), (2, .int x2_4), (3, .int x3_4)] → W p l e (headSpec wsX0_leastAround ({ frames := 3, cells := 0, slots := 0, locals := 67 } : Room)).room s m ([.ref a, .int x1] : List Value).toArray below meth c s.heap [] 0 0 (MQ below (qSi K) ([.ref a, .int x1] : List Value).toArray s 0 0 (fun _ => False)) (F0 m 4 ls []) := by
    intro K4 hE4 n
    induction n with
    | zero => intro x2_4 x3_4 ls h; exact (sat_lp0 h).elim
    | succ n ih =>
      intro x2_4 x3_4 ls h hl
      have h := sat_lp h
      have h : sat (m_X0_leastAround_s4 v_size v_values x2_4 x3_4) (lk (fun s' => sat (lp (fun q : (Int32 × Int32) => m_X0_leastAround_s4 v_size v_values q.1 q.2) n s') K4) K4) := h
      unfold m_X0_leastAround_s4 at h
      refine lv_iload_n hx hb dX0_leastAround_4 rfl (lv_at hl 2 rfl) ?_
      refine lv_iconst (v := 4) hx hb dX0_leastAround_5 (by decide) ?_
      refine lv_icmp_ge (tgt := 23) hx hb dX0_leastAround_6 (by decide) (fun c6 => ?_) (fun c6 => ?_)
      · have h := sat_t c6 h
        have h := lk_r (sat_some h)
        exact hE4 x2_4 ls h (lv_sub hl [1] rfl)
      · have h := sat_f c6 h
        refine lv_iload_n hx hb dX0_leastAround_9 rfl (lv_at hl 1 rfl) ?_
        refine lv_aload_n hx hb dX0_leastAround_10 rfl (lv_at hl 0 rfl) ?_
        refine lv_iload_n hx hb dX0_leastAround_11 rfl (lv_at hl 1 rfl) ?_
        refine cr_i (rs (As := [.ref a, .int x2_4]) (rest := [.int x2_4]) ⟨hx, hb, hml, hown, hts⟩ (c_X0_valuesIn l D y a a_values v_size v_values x2_4 _ (sat_bind h)) (va_cwS 2 hts gX0_leastAround_X0_valuesIn rfl rfl rfl (by decide +kernel) ⟨Nat.le_of_ble_eq_true rfl, Nat.le_of_ble_eq_true rfl⟩) hK hP [0, 1] rfl rfl hl.1 rfl (Nat.le_of_ble_eq_true rfl) dX0_leastAround_12 ⟨Nat.zero_le _, Nat.zero_le _⟩) (fun r2 h => ?_)
        refine lv_ior hx hb dX0_leastAround_15 ?_
        refine lv_istore_n (lv' := [(2, .int (x2_4 ||| r2)), (0, .ref a), (3, .int x3_4)]) hx hb dX0_leastAround_16 rfl hl (by decide) rfl (fun ls hl => ?_)
        refine lv_iinc (v := x3_4 + 1) (lv' := [(3, .int (x3_4 + 1)), (2, .int (x2_4 ||| r2)), (0, .ref a)]) hx hb dX0_leastAround_17 hl (k := 2) rfl rfl (by decide) rfl (fun ls hl => ?_)
        refine lv_goto (tgt := 4) hx hb dX0_leastAround_20 (by decide) ?_
        have h := lk_l (sat_some h)
        exact ih (x2_4 ||| r2) (x3_4 + 1) ls h (lv_sub hl [2, 1, 0] rfl)
  have h := sat_bind h
  refine hL4 _ (fun u4 ls h hl => ?_) 1000 x1 0 ls h (lv_sub hl [2, 1, 0] rfl)
  refine lv_iload_n hx hb dX0_leastAround_23 rfl (lv_at hl 0 rfl) ?_
  have h := sat_some h
  exact W.iret (v := u4) hx hb hr (fun t ht _ => ⟨u4, rfl, h, ht⟩) (fun _ hq => by cases hq) dX0_leastAround_24

/-! X0_isClosed -/
def m_X0_isClosed (v_size : Int32) (v_values : Nat → Int32) (x1 : Int32) : Option Int32 := (m_X0_valuesIn v_size v_values x1).bind (fun r1 => (if (r1 &&& (x1 ^^^ (-1))) = 0 then some 1 else some 0))
set_option maxHeartbeats 4000000 in
set_option maxRecDepth 100000 in
theorem c_X0_isClosed (l : Launch) (D : va_G) (y : ClassId × ClassId × ClassId × ClassId) (a a_values : Nat) (v_size : Int32) (v_values : Nat → Int32) (x1 : Int32) (K : Int32 → Prop) (h : sat (m_X0_isClosed v_size v_values x1) K) : Met l yX0_isClosed wsX0_isClosed ({ frames := 3, cells := 0, slots := 0, locals := 67 } : Room) (pR D y ([.ref a, .int x1] : List Value) [(a, .inr (3, [.int v_size, .ref a_values])), (a_values, .inl (y.1, 20, .inl v_values))]) (qSi K) 0 0 (fun _ => False) := by
  refine Met.ofW (cc := cX0_isClosed) (maxL := 2) (ret := (some .boolean)) (by decide) rfl ?_
  intro p e s m args below meth c s₁ B hml hv
  obtain ⟨rfl, hP, hK⟩ := hv
  have hx := B.exec
  have hb := B.bytes
  have hr := B.returns
  have hts := atoms_spec (ws := wsX0_isClosed) B.pre
  have hown : s.vm.findClass RX0 = some m.cls := findClass_of_methodNamed B.named
  have hlocks := B.notSynchronized
  have hl := lv_entry ([.ref a, .int x1] : List Value) (n := 2) (Nat.le_of_ble_eq_true rfl)
  rw [lg_entry_eq]
  generalize (lg_sl ([.ref a, .int x1] : List Value) ++ List.replicate (2 - (lg_sl ([.ref a, .int x1] : List Value)).length) Slot.unset).toArray = ls at hl ⊢
  have hl : lv_has ls 2 [(0, .ref a), (1, .int x1)] := hl
  unfold m_X0_isClosed at h
  refine lv_aload_n hx hb dX0_isClosed_0 rfl (lv_at hl 0 rfl) ?_
  refine lv_iload_n hx hb dX0_isClosed_1 rfl (lv_at hl 1 rfl) ?_
  refine cr_i (rs (As := [.ref a, .int x1]) (rest := []) ⟨hx, hb, hml, hown, hts⟩ (c_X0_valuesIn l D y a a_values v_size v_values x1 _ (sat_bind h)) (va_cwS 2 hts gX0_isClosed_X0_valuesIn rfl rfl rfl (by decide +kernel) ⟨Nat.le_of_ble_eq_true rfl, Nat.le_of_ble_eq_true rfl⟩) hK hP [0, 1] rfl rfl hl.1 rfl (Nat.le_of_ble_eq_true rfl) dX0_isClosed_2 ⟨Nat.zero_le _, Nat.zero_le _⟩) (fun r1 h => ?_)
  refine lv_iload_n hx hb dX0_isClosed_5 rfl (lv_at hl 1 rfl) ?_
  refine lv_iconst (v := (-1)) hx hb dX0_isClosed_6 (by decide) ?_
  refine lv_ixor hx hb dX0_isClosed_7 ?_
  refine lv_iand hx hb dX0_isClosed_8 ?_
  refine lv_if_ne (tgt := 16) hx hb dX0_isClosed_9 (by decide) (fun c9 => ?_) (fun c9 => ?_)
  · have h := sat_f c9 h
    refine lv_iconst (v := 0) hx hb dX0_isClosed_16 (by decide) ?_
    have h := sat_some h
    exact W.zret (v := 0) hx hb hr rfl (fun t ht _ => ⟨0, rfl, h, ht⟩) (fun _ hq => by cases hq) dX0_isClosed_17
  · have h := sat_t c9 h
    refine lv_iconst (v := 1) hx hb dX0_isClosed_12 (by decide) ?_
    refine lv_goto (tgt := 17) hx hb dX0_isClosed_13 (by decide) ?_
    have h := sat_some h
    exact W.zret (v := 1) hx hb hr rfl (fun t ht _ => ⟨1, rfl, h, ht⟩) (fun _ hq => by cases hq) dX0_isClosed_17

/-! X0_byNumber -/
def m_X0_byNumber_s4 (v_size : Int32) (v_values : Nat → Int32) (x1 : Int32) (x2_4 : Int32) (x3_4 : Int32) : Option ((Int32 × Int32) ⊕ (Int32 ⊕ Unit)) := (m_X6_allElements v_size).bind (fun r2 => (if r2 < x3_4 then some (.inr (.inr ())) else (m_X0_isClosed v_size v_values x3_4).bind (fun r3 => (if r3 = 0 then some (.inl (x2_4, x3_4 + 1)) else (if x2_4 = x1 then some (.inr (.inl x3_4)) else some (.inl (x2_4 + 1, x3_4 + 1)))))))
def m_X0_byNumber (v_size : Int32) (v_values : Nat → Int32) (x1 : Int32) : Option Int32 := bdS (lp (fun q : (Int32 × Int32) => m_X0_byNumber_s4 v_size v_values x1 q.1 q.2) 1000 (0, 0)) (fun u => some u) (fun u4 => some (-9))
set_option maxHeartbeats 4000000 in
set_option maxRecDepth 100000 in
theorem c_X0_byNumber (l : Launch) (D : va_G) (y : ClassId × ClassId × ClassId × ClassId) (a a_values : Nat) (v_size : Int32) (v_values : Nat → Int32) (x1 : Int32) (K : Int32 → Prop) (h : sat (m_X0_byNumber v_size v_values x1) K) : Met l yX0_byNumber wsX0_byNumber ({ frames := 4, cells := 0, slots := 0, locals := 88 } : Room) (pR D y ([.ref a, .int x1] : List Value) [(a, .inr (3, [.int v_size, .ref a_values])), (a_values, .inl (y.1, 20, .inl v_values))]) (qSi K) 0 0 (fun _ => False) := by
  refine Met.ofW (cc := cX0_byNumber) (maxL := 4) (ret := (some .int)) (by decide) rfl ?_
  intro p e s m args below meth c s₁ B hml hv
  obtain ⟨rfl, hP, hK⟩ := hv
  have hx := B.exec
  have hb := B.bytes
  have hr := B.returns
  have hts := atoms_spec (ws := wsX0_byNumber) B.pre
  have hown : s.vm.findClass RX0 = some m.cls := findClass_of_methodNamed B.named
  have hlocks := B.notSynchronized
  have hl := lv_entry ([.ref a, .int x1] : List Value) (n := 4) (Nat.le_of_ble_eq_true rfl)
  rw [lg_entry_eq]
  generalize (lg_sl ([.ref a, .int x1] : List Value) ++ List.replicate (4 - (lg_sl ([.ref a, .int x1] : List Value)).length) Slot.unset).toArray = ls at hl ⊢
  have hl : lv_has ls 4 [(0, .ref a), (1, .int x1)] := hl
  unfold m_X0_byNumber at h
  refine lv_iconst (v := 0) hx hb dX0_byNumber_0 (by decide) ?_
  refine lv_istore_n (lv' := [(2, .int 0), (0, .ref a), (1, .int x1)]) hx hb dX0_byNumber_1 rfl hl (by decide) rfl (fun ls hl => ?_)
  refine lv_iconst (v := 0) hx hb dX0_byNumber_2 (by decide) ?_
  refine lv_istore_n (lv' := [(3, .int 0), (2, .int 0), (0, .ref a), (1, .int x1)]) hx hb dX0_byNumber_3 rfl hl (by decide) rfl (fun ls hl => ?_)
  have hL4 : ∀ (K4 : (Int32 ⊕ Unit) → Prop)
      (hR4 : ∀ (u : Int32), K4 (.inl u) → K u)
      (hE4 : ∀ (u4 : Unit) (ls : Array Slot), K4 (.inr u4) → lv_has ls 4 [] → W p l e (headSpec wsX0_byNumber ({ frames := 4, cells := 0, slots := 0, locals := 88 } : Room)).room s m ([.ref a, .int x1] : List Value).toArray below meth c s.heap [] 0 0 (MQ below (qSi K) ([.ref a, .int x1] : List Value).toArray s 0 0 (fun _ => False)) (F0 m 36 ls []))
      (n : Nat) (x2_4 : Int32) (x3_4 : Int32) (ls : Array Slot), sat (lp (fun q : (Int32 × Int32) => m_X0_byNumber_s4 v_size v_values x1 q.1 q.2) n (x2_4, x3_4)) K4 → lv_has ls 4 [(0, .ref a), (1, .int x1), (2, .int x2_4), (3, .int x3_4)] → W p l e (headSpec wsX0_byNumber ({ frames := 4, cells := 0, slots := 0, locals := 88 } : Room)).room s m ([.ref a, .int x1] : List Value).toArray below meth c s.heap [] 0 0 (MQ below (qSi K) ([.ref a, .int x1] : List Value).toArray s 0 0 (fun _ => False)) (F0 m 4 ls []) := by
    intro K4 hR4 hE4 n
    induction n with
    | zero => intro x2_4 x3_4 ls h; exact (sat_lp0 h).elim
    | succ n ih =>
      intro x2_4 x3_4 ls h hl
      have h := sat_lp h
      have h : sat (m_X0_byNumber_s4 v_size v_values x1 x2_4 x3_4) (lk (fun s' => sat (lp (fun q : (Int32 × Int32) => m_X0_byNumber_s4 v_size v_values x1 q.1 q.2) n s') K4) K4) := h
      unfold m_X0_byNumber_s4 at h
      refine lv_iload_n hx hb dX0_byNumber_4 rfl (lv_at hl 3 rfl) ?_
      refine lv_aload_n hx hb dX0_byNumber_5 rfl (lv_at hl 0 rfl) ?_
      refine cr_i (rv (As := []) (rest := [.int x3_4]) ⟨hx, hb, hml, hown, hts⟩ (c_X6_allElements l D y a a_values v_size _ (sat_bind h)) (cwV 0 hts gX0_byNumber_X6_allElements rfl rfl rfl (by decide +kernel) ⟨Nat.le_of_ble_eq_true rfl, Nat.le_of_ble_eq_true rfl⟩) hK hP [0] rfl 0 3 rfl rfl rfl rfl hl.1 rfl (Nat.le_of_ble_eq_true rfl) dX0_byNumber_6 ⟨Nat.zero_le _, Nat.zero_le _⟩) (fun r2 h => ?_)
      refine lv_icmp_gt (tgt := 36) hx hb dX0_byNumber_9 (by decide) (fun c9 => ?_) (fun c9 => ?_)
      · have h := sat_t c9 h
        have h := lk_r (sat_some h)
        exact hE4 () ls h (lv_sub hl [] rfl)
      · have h := sat_f c9 h
        refine lv_aload_n hx hb dX0_byNumber_12 rfl (lv_at hl 0 rfl) ?_
        refine lv_iload_n hx hb dX0_byNumber_13 rfl (lv_at hl 3 rfl) ?_
        refine cr_i (rs (As := [.ref a, .int x3_4]) (rest := []) ⟨hx, hb, hml, hown, hts⟩ (c_X0_isClosed l D y a a_values v_size v_values x3_4 _ (sat_bind h)) (va_cwS 2 hts gX0_byNumber_X0_isClosed rfl rfl rfl (by decide +kernel) ⟨Nat.le_of_ble_eq_true rfl, Nat.le_of_ble_eq_true rfl⟩) hK hP [0, 1] rfl rfl hl.1 rfl (Nat.le_of_ble_eq_true rfl) dX0_byNumber_14 ⟨Nat.zero_le _, Nat.zero_le _⟩) (fun r3 h => ?_)
        refine lv_if_eq (tgt := 30) hx hb dX0_byNumber_17 (by decide) (fun c17 => ?_) (fun c17 => ?_)
        · have h := sat_t c17 h
          refine lv_iinc (v := x3_4 + 1) (lv' := [(3, .int (x3_4 + 1)), (0, .ref a), (1, .int x1), (2, .int x2_4)]) hx hb dX0_byNumber_30 hl (k := 3) rfl rfl (by decide) rfl (fun ls hl => ?_)
          refine lv_goto (tgt := 4) hx hb dX0_byNumber_33 (by decide) ?_
          have h := lk_l (sat_some h)
          exact ih x2_4 (x3_4 + 1) ls h (lv_sub hl [1, 2, 3, 0] rfl)
        · have h := sat_f c17 h
          refine lv_iload_n hx hb dX0_byNumber_20 rfl (lv_at hl 2 rfl) ?_
          refine lv_iload_n hx hb dX0_byNumber_21 rfl (lv_at hl 1 rfl) ?_
          refine lv_icmp_ne (tgt := 27) hx hb dX0_byNumber_22 (by decide) (fun c22 => ?_) (fun c22 => ?_)
          · have h := sat_f c22 h
            refine lv_iinc (v := x2_4 + 1) (lv' := [(2, .int (x2_4 + 1)), (0, .ref a), (1, .int x1), (3, .int x3_4)]) hx hb dX0_byNumber_27 hl (k := 2) rfl rfl (by decide) rfl (fun ls hl => ?_)
            refine lv_iinc (v := x3_4 + 1) (lv' := [(3, .int (x3_4 + 1)), (2, .int (x2_4 + 1)), (0, .ref a), (1, .int x1)]) hx hb dX0_byNumber_30 hl (k := 3) rfl rfl (by decide) rfl (fun ls hl => ?_)
            refine lv_goto (tgt := 4) hx hb dX0_byNumber_33 (by decide) ?_
            have h := lk_l (sat_some h)
            exact ih (x2_4 + 1) (x3_4 + 1) ls h (lv_sub hl [2, 3, 1, 0] rfl)
          · have h := sat_t c22 h
            refine lv_iload_n hx hb dX0_byNumber_25 rfl (lv_at hl 3 rfl) ?_
            have h := hR4 _ (lk_r (sat_some h))
            exact W.iret (v := x3_4) hx hb hr (fun t ht _ => ⟨x3_4, rfl, h, ht⟩) (fun _ hq => by cases hq) dX0_byNumber_26
  have h := sat_bdS h
  refine hL4 _ (fun u h => ?_) (fun u4 ls h hl => ?_) 1000 0 0 ls h (lv_sub hl [2, 3, 1, 0] rfl)
  · have h := lk_l h
    exact sat_some h
  · have h := lk_r h
    refine lv_bipush (v := (-9)) hx hb dX0_byNumber_36 (by decide) ?_
    have h := sat_some h
    exact W.iret (v := (-9)) hx hb hr (fun t ht _ => ⟨(-9), rfl, h, ht⟩) (fun _ hq => by cases hq) dX0_byNumber_38

/-! X0_howMany -/
def m_X0_howMany_s4 (v_size : Int32) (v_values : Nat → Int32) (x1_4 : Int32) (x2_4 : Int32) : Option ((Int32 × Int32) ⊕ Int32) := (m_X6_allElements v_size).bind (fun r2 => (if r2 < x2_4 then some (.inr x1_4) else (m_X0_isClosed v_size v_values x2_4).bind (fun r3 => (if r3 = 0 then some (.inl (x1_4, x2_4 + 1)) else some (.inl (x1_4 + 1, x2_4 + 1))))))
def m_X0_howMany (v_size : Int32) (v_values : Nat → Int32)  : Option Int32 := (lp (fun q : (Int32 × Int32) => m_X0_howMany_s4 v_size v_values q.1 q.2) 1000 (0, 0)).bind (fun u4 => some u4)
set_option maxHeartbeats 4000000 in
set_option maxRecDepth 100000 in
theorem c_X0_howMany (l : Launch) (D : va_G) (y : ClassId × ClassId × ClassId × ClassId) (a a_values : Nat) (v_size : Int32) (v_values : Nat → Int32) (K : Int32 → Prop) (h : sat (m_X0_howMany v_size v_values) K) : Met l yX0_howMany wsX0_howMany ({ frames := 4, cells := 0, slots := 0, locals := 88 } : Room) (pR D y ([.ref a] : List Value) [(a, .inr (3, [.int v_size, .ref a_values])), (a_values, .inl (y.1, 20, .inl v_values))]) (qSi K) 0 0 (fun _ => False) := by
  refine Met.ofW (cc := cX0_howMany) (maxL := 3) (ret := (some .int)) (by decide) rfl ?_
  intro p e s m args below meth c s₁ B hml hv
  obtain ⟨rfl, hP, hK⟩ := hv
  have hx := B.exec
  have hb := B.bytes
  have hr := B.returns
  have hts := atoms_spec (ws := wsX0_howMany) B.pre
  have hown : s.vm.findClass RX0 = some m.cls := findClass_of_methodNamed B.named
  have hlocks := B.notSynchronized
  have hl := lv_entry ([.ref a] : List Value) (n := 3) (Nat.le_of_ble_eq_true rfl)
  rw [lg_entry_eq]
  generalize (lg_sl ([.ref a] : List Value) ++ List.replicate (3 - (lg_sl ([.ref a] : List Value)).length) Slot.unset).toArray = ls at hl ⊢
  have hl : lv_has ls 3 [(0, .ref a)] := hl
  unfold m_X0_howMany at h
  refine lv_iconst (v := 0) hx hb dX0_howMany_0 (by decide) ?_
  refine lv_istore_n (lv' := [(1, .int 0), (0, .ref a)]) hx hb dX0_howMany_1 rfl hl (by decide) rfl (fun ls hl => ?_)
  refine lv_iconst (v := 0) hx hb dX0_howMany_2 (by decide) ?_
  refine lv_istore_n (lv' := [(2, .int 0), (1, .int 0), (0, .ref a)]) hx hb dX0_howMany_3 rfl hl (by decide) rfl (fun ls hl => ?_)
  have hL4 : ∀ (K4 : Int32 → Prop)
      (hE4 : ∀ (u4 : Int32) (ls : Array Slot), K4 u4 → lv_has ls 3 [(1, .int u4)] → W p l e (headSpec wsX0_howMany ({ frames := 4, cells := 0, slots := 0, locals := 88 } : Room)).room s m ([.ref a] : List Value).toArray below meth c s.heap [] 0 0 (MQ below (qSi K) ([.ref a] : List Value).toArray s 0 0 (fun _ => False)) (F0 m 29 ls []))
      (n : Nat) (x1_4 : Int32) (x2_4 : Int32) (ls : Array Slot), sat (lp (fun q : (Int32 × Int32) => m_X0_howMany_s4 v_size v_values q.1 q.2) n (x1_4, x2_4)) K4 → lv_has ls 3 [(0, .ref a), (1, .int x1_4), (2, .int x2_4)] → W p l e (headSpec wsX0_howMany ({ frames := 4, cells := 0, slots := 0, locals := 88 } : Room)).room s m ([.ref a] : List Value).toArray below meth c s.heap [] 0 0 (MQ below (qSi K) ([.ref a] : List Value).toArray s 0 0 (fun _ => False)) (F0 m 4 ls []) := by
    intro K4 hE4 n
    induction n with
    | zero => intro x1_4 x2_4 ls h; exact (sat_lp0 h).elim
    | succ n ih =>
      intro x1_4 x2_4 ls h hl
      have h := sat_lp h
      have h : sat (m_X0_howMany_s4 v_size v_values x1_4 x2_4) (lk (fun s' => sat (lp (fun q : (Int32 × Int32) => m_X0_howMany_s4 v_size v_values q.1 q.2) n s') K4) K4) := h
      unfold m_X0_howMany_s4 at h
      refine lv_iload_n hx hb dX0_howMany_4 rfl (lv_at hl 2 rfl) ?_
      refine lv_aload_n hx hb dX0_howMany_5 rfl (lv_at hl 0 rfl) ?_
      refine cr_i (rv (As := []) (rest := [.int x2_4]) ⟨hx, hb, hml, hown, hts⟩ (c_X6_allElements l D y a a_values v_size _ (sat_bind h)) (cwV 0 hts gX0_howMany_X6_allElements rfl rfl rfl (by decide +kernel) ⟨Nat.le_of_ble_eq_true rfl, Nat.le_of_ble_eq_true rfl⟩) hK hP [0] rfl 0 3 rfl rfl rfl rfl hl.1 rfl (Nat.le_of_ble_eq_true rfl) dX0_howMany_6 ⟨Nat.zero_le _, Nat.zero_le _⟩) (fun r2 h => ?_)
      refine lv_icmp_gt (tgt := 29) hx hb dX0_howMany_9 (by decide) (fun c9 => ?_) (fun c9 => ?_)
      · have h := sat_t c9 h
        have h := lk_r (sat_some h)
        exact hE4 x1_4 ls h (lv_sub hl [1] rfl)
      · have h := sat_f c9 h
        refine lv_aload_n hx hb dX0_howMany_12 rfl (lv_at hl 0 rfl) ?_
        refine lv_iload_n hx hb dX0_howMany_13 rfl (lv_at hl 2 rfl) ?_
        refine cr_i (rs (As := [.ref a, .int x2_4]) (rest := []) ⟨hx, hb, hml, hown, hts⟩ (c_X0_isClosed l D y a a_values v_size v_values x2_4 _ (sat_bind h)) (va_cwS 2 hts gX0_howMany_X0_isClosed rfl rfl rfl (by decide +kernel) ⟨Nat.le_of_ble_eq_true rfl, Nat.le_of_ble_eq_true rfl⟩) hK hP [0, 1] rfl rfl hl.1 rfl (Nat.le_of_ble_eq_true rfl) dX0_howMany_14 ⟨Nat.zero_le _, Nat.zero_le _⟩) (fun r3 h => ?_)
        refine lv_if_eq (tgt := 23) hx hb dX0_howMany_17 (by decide) (fun c17 => ?_) (fun c17 => ?_)
        · have h := sat_t c17 h
          refine lv_iinc (v := x2_4 + 1) (lv' := [(2, .int (x2_4 + 1)), (0, .ref a), (1, .int x1_4)]) hx hb dX0_howMany_23 hl (k := 2) rfl rfl (by decide) rfl (fun ls hl => ?_)
          refine lv_goto (tgt := 4) hx hb dX0_howMany_26 (by decide) ?_
          have h := lk_l (sat_some h)
          exact ih x1_4 (x2_4 + 1) ls h (lv_sub hl [1, 2, 0] rfl)
        · have h := sat_f c17 h
          refine lv_iinc (v := x1_4 + 1) (lv' := [(1, .int (x1_4 + 1)), (0, .ref a), (2, .int x2_4)]) hx hb dX0_howMany_20 hl (k := 1) rfl rfl (by decide) rfl (fun ls hl => ?_)
          refine lv_iinc (v := x2_4 + 1) (lv' := [(2, .int (x2_4 + 1)), (1, .int (x1_4 + 1)), (0, .ref a)]) hx hb dX0_howMany_23 hl (k := 2) rfl rfl (by decide) rfl (fun ls hl => ?_)
          refine lv_goto (tgt := 4) hx hb dX0_howMany_26 (by decide) ?_
          have h := lk_l (sat_some h)
          exact ih (x1_4 + 1) (x2_4 + 1) ls h (lv_sub hl [2, 1, 0] rfl)
  have h := sat_bind h
  refine hL4 _ (fun u4 ls h hl => ?_) 1000 0 0 ls h (lv_sub hl [2, 1, 0] rfl)
  refine lv_iload_n hx hb dX0_howMany_29 rfl (lv_at hl 0 rfl) ?_
  have h := sat_some h
  exact W.iret (v := u4) hx hb hr (fun t ht _ => ⟨u4, rfl, h, ht⟩) (fun _ hq => by cases hq) dX0_howMany_30
end
