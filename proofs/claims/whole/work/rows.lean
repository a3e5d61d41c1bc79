section
-- ===== PART A: goes FIRST, ahead of the names: the tables' words, and 'selects' of the private methods out of them =====
/-- a private method of a class that the tables say can be made, by its rows of tables_1 -/
def lw_okq (q : MethodName × Nat) : Prop := (q.1.cls ≠ "java/lang/invoke/MethodHandle" ∧ q.1.cls ≠ "java/lang/invoke/VarHandle") ∧ Cond.instantiable q.1.cls q.2 ∈ tables_1 ∧ Cond.privateMethod q.1 ∈ tables_1 ∧ Cond.instanceMethod q.1 ∈ tables_1
theorem lw_p0 : lw_okq (⟨"CarriedSets", "refuse", "(I)I"⟩, 10) := ⟨⟨by decide +kernel, by decide +kernel⟩, List.mem_of_getElem? (i := 15) (by decide +kernel), List.mem_of_getElem? (i := 211) (by decide +kernel), List.mem_of_getElem? (i := 212) (by decide +kernel)⟩
theorem lw_p1 : lw_okq (⟨"CarriedSets", "keepState", "()V"⟩, 10) := ⟨⟨by decide +kernel, by decide +kernel⟩, List.mem_of_getElem? (i := 15) (by decide +kernel), List.mem_of_getElem? (i := 215) (by decide +kernel), List.mem_of_getElem? (i := 216) (by decide +kernel)⟩
theorem lw_p2 : lw_okq (⟨"CarriedSets$States", "loseOldest", "()V"⟩, 2) := ⟨⟨by decide +kernel, by decide +kernel⟩, List.mem_of_getElem? (i := 45) (by decide +kernel), List.mem_of_getElem? (i := 223) (by decide +kernel), List.mem_of_getElem? (i := 224) (by decide +kernel)⟩
theorem lw_p3 : lw_okq (⟨"CarriedSets", "fit", "()V"⟩, 10) := ⟨⟨by decide +kernel, by decide +kernel⟩, List.mem_of_getElem? (i := 15) (by decide +kernel), List.mem_of_getElem? (i := 262) (by decide +kernel), List.mem_of_getElem? (i := 263) (by decide +kernel)⟩
theorem lw_p4 : lw_okq (⟨"CarriedSets$Elements", "take", "(I)V"⟩, 8) := ⟨⟨by decide +kernel, by decide +kernel⟩, List.mem_of_getElem? (i := 114) (by decide +kernel), List.mem_of_getElem? (i := 276) (by decide +kernel), List.mem_of_getElem? (i := 277) (by decide +kernel)⟩
theorem lw_p5 : lw_okq (⟨"CarriedSets$Elements", "addStep", "(III)V"⟩, 8) := ⟨⟨by decide +kernel, by decide +kernel⟩, List.mem_of_getElem? (i := 114) (by decide +kernel), List.mem_of_getElem? (i := 283) (by decide +kernel), List.mem_of_getElem? (i := 284) (by decide +kernel)⟩
theorem lw_p6 : lw_okq (⟨"CarriedSets$Elements", "closeSteps", "()V"⟩, 8) := ⟨⟨by decide +kernel, by decide +kernel⟩, List.mem_of_getElem? (i := 114) (by decide +kernel), List.mem_of_getElem? (i := 293) (by decide +kernel), List.mem_of_getElem? (i := 294) (by decide +kernel)⟩
theorem lw_p7 : lw_okq (⟨"CarriedSets$Carried", "arrange", "()V"⟩, 7) := ⟨⟨by decide +kernel, by decide +kernel⟩, List.mem_of_getElem? (i := 145) (by decide +kernel), List.mem_of_getElem? (i := 307) (by decide +kernel), List.mem_of_getElem? (i := 308) (by decide +kernel)⟩
theorem lw_p8 : lw_okq (⟨"CarriedSets$Carried", "turnRound", "(I)I"⟩, 7) := ⟨⟨by decide +kernel, by decide +kernel⟩, List.mem_of_getElem? (i := 145) (by decide +kernel), List.mem_of_getElem? (i := 312) (by decide +kernel), List.mem_of_getElem? (i := 313) (by decide +kernel)⟩
theorem lw_p9 : lw_okq (⟨"CarriedSets$Carried", "spread", "(LCarriedSets$Elements;I)V"⟩, 7) := ⟨⟨by decide +kernel, by decide +kernel⟩, List.mem_of_getElem? (i := 145) (by decide +kernel), List.mem_of_getElem? (i := 316) (by decide +kernel), List.mem_of_getElem? (i := 317) (by decide +kernel)⟩
theorem lw_p10 : lw_okq (⟨"CarriedSets$Carried", "reach", "(II)V"⟩, 7) := ⟨⟨by decide +kernel, by decide +kernel⟩, List.mem_of_getElem? (i := 145) (by decide +kernel), List.mem_of_getElem? (i := 320) (by decide +kernel), List.mem_of_getElem? (i := 321) (by decide +kernel)⟩
theorem lw_p11 : lw_okq (⟨"CarriedSets$Carried", "spreadBy", "(III)V"⟩, 7) := ⟨⟨by decide +kernel, by decide +kernel⟩, List.mem_of_getElem? (i := 145) (by decide +kernel), List.mem_of_getElem? (i := 332) (by decide +kernel), List.mem_of_getElem? (i := 333) (by decide +kernel)⟩
theorem lw_p12 : lw_okq (⟨"CarriedSets", "tellPoint", "(II)I"⟩, 10) := ⟨⟨by decide +kernel, by decide +kernel⟩, List.mem_of_getElem? (i := 15) (by decide +kernel), List.mem_of_getElem? (i := 347) (by decide +kernel), List.mem_of_getElem? (i := 348) (by decide +kernel)⟩
theorem lw_p13 : lw_okq (⟨"CarriedSets", "isSet", "(I)Z"⟩, 10) := ⟨⟨by decide +kernel, by decide +kernel⟩, List.mem_of_getElem? (i := 15) (by decide +kernel), List.mem_of_getElem? (i := 399) (by decide +kernel), List.mem_of_getElem? (i := 400) (by decide +kernel)⟩
theorem lw_p14 : lw_okq (⟨"CarriedSets$Carried", "start", "(I)I"⟩, 7) := ⟨⟨by decide +kernel, by decide +kernel⟩, List.mem_of_getElem? (i := 145) (by decide +kernel), List.mem_of_getElem? (i := 417) (by decide +kernel), List.mem_of_getElem? (i := 418) (by decide +kernel)⟩
theorem lw_p15 : lw_okq (⟨"CarriedSets$Carried", "goOnTowards", "(LCarriedSets$Elements;III)I"⟩, 7) := ⟨⟨by decide +kernel, by decide +kernel⟩, List.mem_of_getElem? (i := 145) (by decide +kernel), List.mem_of_getElem? (i := 441) (by decide +kernel), List.mem_of_getElem? (i := 442) (by decide +kernel)⟩
def lw_privs_1 : List (MethodName × Nat) := [(⟨"CarriedSets", "refuse", "(I)I"⟩, 10), (⟨"CarriedSets", "keepState", "()V"⟩, 10), (⟨"CarriedSets$States", "loseOldest", "()V"⟩, 2), (⟨"CarriedSets", "fit", "()V"⟩, 10), (⟨"CarriedSets$Elements", "take", "(I)V"⟩, 8), (⟨"CarriedSets$Elements", "addStep", "(III)V"⟩, 8), (⟨"CarriedSets$Elements", "closeSteps", "()V"⟩, 8), (⟨"CarriedSets$Carried", "arrange", "()V"⟩, 7), (⟨"CarriedSets$Carried", "turnRound", "(I)I"⟩, 7), (⟨"CarriedSets$Carried", "spread", "(LCarriedSets$Elements;I)V"⟩, 7), (⟨"CarriedSets$Carried", "reach", "(II)V"⟩, 7), (⟨"CarriedSets$Carried", "spreadBy", "(III)V"⟩, 7), (⟨"CarriedSets", "tellPoint", "(II)I"⟩, 10), (⟨"CarriedSets", "isSet", "(I)Z"⟩, 10), (⟨"CarriedSets$Carried", "start", "(I)I"⟩, 7), (⟨"CarriedSets$Carried", "goOnTowards", "(LCarriedSets$Elements;III)I"⟩, 7)]
theorem lw_r1 : ∀ q ∈ lw_privs_1, lw_okq q := List.forall_mem_cons.mpr ⟨lw_p0, List.forall_mem_cons.mpr ⟨lw_p1, List.forall_mem_cons.mpr ⟨lw_p2, List.forall_mem_cons.mpr ⟨lw_p3, List.forall_mem_cons.mpr ⟨lw_p4, List.forall_mem_cons.mpr ⟨lw_p5, List.forall_mem_cons.mpr ⟨lw_p6, List.forall_mem_cons.mpr ⟨lw_p7, List.forall_mem_cons.mpr ⟨lw_p8, List.forall_mem_cons.mpr ⟨lw_p9, List.forall_mem_cons.mpr ⟨lw_p10, List.forall_mem_cons.mpr ⟨lw_p11, List.forall_mem_cons.mpr ⟨lw_p12, List.forall_mem_cons.mpr ⟨lw_p13, List.forall_mem_cons.mpr ⟨lw_p14, List.forall_mem_cons.mpr ⟨lw_p15, fun _ h => absurd h List.not_mem_nil⟩⟩⟩⟩⟩⟩⟩⟩⟩⟩⟩⟩⟩⟩⟩⟩
theorem lw_p16 : lw_okq (⟨"CarriedSets$Carried", "isFirst", "(I)Z"⟩, 7) := ⟨⟨by decide +kernel, by decide +kernel⟩, List.mem_of_getElem? (i := 145) (by decide +kernel), List.mem_of_getElem? (i := 460) (by decide +kernel), List.mem_of_getElem? (i := 461) (by decide +kernel)⟩
theorem lw_p17 : lw_okq (⟨"CarriedSets$Reader", "takes", "(I)Z"⟩, 8) := ⟨⟨by decide +kernel, by decide +kernel⟩, List.mem_of_getElem? (i := 78) (by decide +kernel), List.mem_of_getElem? (i := 501) (by decide +kernel), List.mem_of_getElem? (i := 502) (by decide +kernel)⟩
theorem lw_p18 : lw_okq (⟨"CarriedSets$Reader", "takesLetter", "(I)Z"⟩, 8) := ⟨⟨by decide +kernel, by decide +kernel⟩, List.mem_of_getElem? (i := 78) (by decide +kernel), List.mem_of_getElem? (i := 505) (by decide +kernel), List.mem_of_getElem? (i := 506) (by decide +kernel)⟩
theorem lw_p19 : lw_okq (⟨"CarriedSets$Reader", "takesFigure", "(I)Z"⟩, 8) := ⟨⟨by decide +kernel, by decide +kernel⟩, List.mem_of_getElem? (i := 78) (by decide +kernel), List.mem_of_getElem? (i := 509) (by decide +kernel), List.mem_of_getElem? (i := 510) (by decide +kernel)⟩
theorem lw_p20 : lw_okq (⟨"CarriedSets$Reader", "isDue", "(I)Z"⟩, 8) := ⟨⟨by decide +kernel, by decide +kernel⟩, List.mem_of_getElem? (i := 78) (by decide +kernel), List.mem_of_getElem? (i := 513) (by decide +kernel), List.mem_of_getElem? (i := 514) (by decide +kernel)⟩
theorem lw_p21 : lw_okq (⟨"CarriedSets$Reader", "takesEnd", "(I)Z"⟩, 8) := ⟨⟨by decide +kernel, by decide +kernel⟩, List.mem_of_getElem? (i := 78) (by decide +kernel), List.mem_of_getElem? (i := 517) (by decide +kernel), List.mem_of_getElem? (i := 518) (by decide +kernel)⟩
theorem lw_p22 : lw_okq (⟨"CarriedSets$Reader", "obeys", "()Z"⟩, 8) := ⟨⟨by decide +kernel, by decide +kernel⟩, List.mem_of_getElem? (i := 78) (by decide +kernel), List.mem_of_getElem? (i := 521) (by decide +kernel), List.mem_of_getElem? (i := 522) (by decide +kernel)⟩
theorem lw_p23 : lw_okq (⟨"CarriedSets", "tell", "(I)I"⟩, 10) := ⟨⟨by decide +kernel, by decide +kernel⟩, List.mem_of_getElem? (i := 15) (by decide +kernel), List.mem_of_getElem? (i := 542) (by decide +kernel), List.mem_of_getElem? (i := 543) (by decide +kernel)⟩
theorem lw_p24 : lw_okq (⟨"CarriedSetsModel", "refuses", "(I)I"⟩, 29) := ⟨⟨by decide +kernel, by decide +kernel⟩, List.mem_of_getElem? (i := 559) (by decide +kernel), List.mem_of_getElem? (i := 659) (by decide +kernel), List.mem_of_getElem? (i := 660) (by decide +kernel)⟩
theorem lw_p25 : lw_okq (⟨"CarriedSetsModel", "hold", "()V"⟩, 29) := ⟨⟨by decide +kernel, by decide +kernel⟩, List.mem_of_getElem? (i := 559) (by decide +kernel), List.mem_of_getElem? (i := 667) (by decide +kernel), List.mem_of_getElem? (i := 668) (by decide +kernel)⟩
theorem lw_p26 : lw_okq (⟨"CarriedSetsModel", "doPoints", "(I)I"⟩, 29) := ⟨⟨by decide +kernel, by decide +kernel⟩, List.mem_of_getElem? (i := 559) (by decide +kernel), List.mem_of_getElem? (i := 671) (by decide +kernel), List.mem_of_getElem? (i := 672) (by decide +kernel)⟩
theorem lw_p27 : lw_okq (⟨"CarriedSetsModel", "ends", "(I)I"⟩, 29) := ⟨⟨by decide +kernel, by decide +kernel⟩, List.mem_of_getElem? (i := 559) (by decide +kernel), List.mem_of_getElem? (i := 678) (by decide +kernel), List.mem_of_getElem? (i := 679) (by decide +kernel)⟩
theorem lw_p28 : lw_okq (⟨"CarriedSetsModel", "push", "()V"⟩, 29) := ⟨⟨by decide +kernel, by decide +kernel⟩, List.mem_of_getElem? (i := 559) (by decide +kernel), List.mem_of_getElem? (i := 682) (by decide +kernel), List.mem_of_getElem? (i := 683) (by decide +kernel)⟩
theorem lw_p29 : lw_okq (⟨"CarriedSetsModel", "doMoves", "(I)I"⟩, 29) := ⟨⟨by decide +kernel, by decide +kernel⟩, List.mem_of_getElem? (i := 559) (by decide +kernel), List.mem_of_getElem? (i := 690) (by decide +kernel), List.mem_of_getElem? (i := 691) (by decide +kernel)⟩
theorem lw_p30 : lw_okq (⟨"CarriedSetsModel", "isMove", "(I)Z"⟩, 29) := ⟨⟨by decide +kernel, by decide +kernel⟩, List.mem_of_getElem? (i := 559) (by decide +kernel), List.mem_of_getElem? (i := 694) (by decide +kernel), List.mem_of_getElem? (i := 695) (by decide +kernel)⟩
theorem lw_p31 : lw_okq (⟨"CarriedSetsModel", "open", "(I)V"⟩, 29) := ⟨⟨by decide +kernel, by decide +kernel⟩, List.mem_of_getElem? (i := 559) (by decide +kernel), List.mem_of_getElem? (i := 698) (by decide +kernel), List.mem_of_getElem? (i := 699) (by decide +kernel)⟩
def lw_privs_2 : List (MethodName × Nat) := [(⟨"CarriedSets$Carried", "isFirst", "(I)Z"⟩, 7), (⟨"CarriedSets$Reader", "takes", "(I)Z"⟩, 8), (⟨"CarriedSets$Reader", "takesLetter", "(I)Z"⟩, 8), (⟨"CarriedSets$Reader", "takesFigure", "(I)Z"⟩, 8), (⟨"CarriedSets$Reader", "isDue", "(I)Z"⟩, 8), (⟨"CarriedSets$Reader", "takesEnd", "(I)Z"⟩, 8), (⟨"CarriedSets$Reader", "obeys", "()Z"⟩, 8), (⟨"CarriedSets", "tell", "(I)I"⟩, 10), (⟨"CarriedSetsModel", "refuses", "(I)I"⟩, 29), (⟨"CarriedSetsModel", "hold", "()V"⟩, 29), (⟨"CarriedSetsModel", "doPoints", "(I)I"⟩, 29), (⟨"CarriedSetsModel", "ends", "(I)I"⟩, 29), (⟨"CarriedSetsModel", "push", "()V"⟩, 29), (⟨"CarriedSetsModel", "doMoves", "(I)I"⟩, 29), (⟨"CarriedSetsModel", "isMove", "(I)Z"⟩, 29), (⟨"CarriedSetsModel", "open", "(I)V"⟩, 29)]
theorem lw_r2 : ∀ q ∈ lw_privs_2, lw_okq q := List.forall_mem_cons.mpr ⟨lw_p16, List.forall_mem_cons.mpr ⟨lw_p17, List.forall_mem_cons.mpr ⟨lw_p18, List.forall_mem_cons.mpr ⟨lw_p19, List.forall_mem_cons.mpr ⟨lw_p20, List.forall_mem_cons.mpr ⟨lw_p21, List.forall_mem_cons.mpr ⟨lw_p22, List.forall_mem_cons.mpr ⟨lw_p23, List.forall_mem_cons.mpr ⟨lw_p24, List.forall_mem_cons.mpr ⟨lw_p25, List.forall_mem_cons.mpr ⟨lw_p26, List.forall_mem_cons.mpr ⟨lw_p27, List.forall_mem_cons.mpr ⟨lw_p28, List.forall_mem_cons.mpr ⟨lw_p29, List.forall_mem_cons.mpr ⟨lw_p30, List.forall_mem_cons.mpr ⟨lw_p31, fun _ h => absurd h List.not_mem_nil⟩⟩⟩⟩⟩⟩⟩⟩⟩⟩⟩⟩⟩⟩⟩⟩
theorem lw_p32 : lw_okq (⟨"CarriedSetsModel", "doDrops", "(I)I"⟩, 29) := ⟨⟨by decide +kernel, by decide +kernel⟩, List.mem_of_getElem? (i := 559) (by decide +kernel), List.mem_of_getElem? (i := 706) (by decide +kernel), List.mem_of_getElem? (i := 707) (by decide +kernel)⟩
theorem lw_p33 : lw_okq (⟨"CarriedSetsModel", "lay", "()V"⟩, 29) := ⟨⟨by decide +kernel, by decide +kernel⟩, List.mem_of_getElem? (i := 559) (by decide +kernel), List.mem_of_getElem? (i := 714) (by decide +kernel), List.mem_of_getElem? (i := 715) (by decide +kernel)⟩
theorem lw_p34 : lw_okq (⟨"CarriedSetsModel", "mark", "(I)V"⟩, 29) := ⟨⟨by decide +kernel, by decide +kernel⟩, List.mem_of_getElem? (i := 559) (by decide +kernel), List.mem_of_getElem? (i := 718) (by decide +kernel), List.mem_of_getElem? (i := 719) (by decide +kernel)⟩
theorem lw_p35 : lw_okq (⟨"CarriedSetsModel", "codeAt", "(I)I"⟩, 29) := ⟨⟨by decide +kernel, by decide +kernel⟩, List.mem_of_getElem? (i := 559) (by decide +kernel), List.mem_of_getElem? (i := 722) (by decide +kernel), List.mem_of_getElem? (i := 723) (by decide +kernel)⟩
theorem lw_p36 : lw_okq (⟨"CarriedSetsModel", "placeOf", "()I"⟩, 29) := ⟨⟨by decide +kernel, by decide +kernel⟩, List.mem_of_getElem? (i := 559) (by decide +kernel), List.mem_of_getElem? (i := 726) (by decide +kernel), List.mem_of_getElem? (i := 727) (by decide +kernel)⟩
theorem lw_p37 : lw_okq (⟨"CarriedSetsModel", "sortMade", "()V"⟩, 29) := ⟨⟨by decide +kernel, by decide +kernel⟩, List.mem_of_getElem? (i := 559) (by decide +kernel), List.mem_of_getElem? (i := 730) (by decide +kernel), List.mem_of_getElem? (i := 731) (by decide +kernel)⟩
theorem lw_p38 : lw_okq (⟨"CarriedSetsModel", "findChains", "()V"⟩, 29) := ⟨⟨by decide +kernel, by decide +kernel⟩, List.mem_of_getElem? (i := 559) (by decide +kernel), List.mem_of_getElem? (i := 734) (by decide +kernel), List.mem_of_getElem? (i := 735) (by decide +kernel)⟩
theorem lw_p39 : lw_okq (⟨"CarriedSetsModel", "ofPoint", "(II)I"⟩, 29) := ⟨⟨by decide +kernel, by decide +kernel⟩, List.mem_of_getElem? (i := 559) (by decide +kernel), List.mem_of_getElem? (i := 742) (by decide +kernel), List.mem_of_getElem? (i := 743) (by decide +kernel)⟩
theorem lw_p40 : lw_okq (⟨"CarriedSetsModel", "isSet", "(I)Z"⟩, 29) := ⟨⟨by decide +kernel, by decide +kernel⟩, List.mem_of_getElem? (i := 559) (by decide +kernel), List.mem_of_getElem? (i := 764) (by decide +kernel), List.mem_of_getElem? (i := 765) (by decide +kernel)⟩
theorem lw_p41 : lw_okq (⟨"CarriedSetsModel", "imageOf", "(I)I"⟩, 29) := ⟨⟨by decide +kernel, by decide +kernel⟩, List.mem_of_getElem? (i := 559) (by decide +kernel), List.mem_of_getElem? (i := 768) (by decide +kernel), List.mem_of_getElem? (i := 769) (by decide +kernel)⟩
theorem lw_p42 : lw_okq (⟨"CarriedSetsModel", "leastOf", "(I)I"⟩, 29) := ⟨⟨by decide +kernel, by decide +kernel⟩, List.mem_of_getElem? (i := 559) (by decide +kernel), List.mem_of_getElem? (i := 776) (by decide +kernel), List.mem_of_getElem? (i := 777) (by decide +kernel)⟩
theorem lw_p43 : lw_okq (⟨"CarriedSetsModel", "sortSets", "()V"⟩, 29) := ⟨⟨by decide +kernel, by decide +kernel⟩, List.mem_of_getElem? (i := 559) (by decide +kernel), List.mem_of_getElem? (i := 780) (by decide +kernel), List.mem_of_getElem? (i := 781) (by decide +kernel)⟩
theorem lw_p44 : lw_okq (⟨"CarriedSetsModel", "findImages", "(I)V"⟩, 29) := ⟨⟨by decide +kernel, by decide +kernel⟩, List.mem_of_getElem? (i := 559) (by decide +kernel), List.mem_of_getElem? (i := 790) (by decide +kernel), List.mem_of_getElem? (i := 791) (by decide +kernel)⟩
theorem lw_p45 : lw_okq (⟨"CarriedSetsModel", "carry", "(I)V"⟩, 29) := ⟨⟨by decide +kernel, by decide +kernel⟩, List.mem_of_getElem? (i := 559) (by decide +kernel), List.mem_of_getElem? (i := 794) (by decide +kernel), List.mem_of_getElem? (i := 795) (by decide +kernel)⟩
theorem lw_p46 : lw_okq (⟨"CarriedSetsModel", "headsOf", "(II)I"⟩, 29) := ⟨⟨by decide +kernel, by decide +kernel⟩, List.mem_of_getElem? (i := 559) (by decide +kernel), List.mem_of_getElem? (i := 814) (by decide +kernel), List.mem_of_getElem? (i := 815) (by decide +kernel)⟩
theorem lw_p47 : lw_okq (⟨"CarriedSetsModel", "here", "()I"⟩, 29) := ⟨⟨by decide +kernel, by decide +kernel⟩, List.mem_of_getElem? (i := 559) (by decide +kernel), List.mem_of_getElem? (i := 834) (by decide +kernel), List.mem_of_getElem? (i := 835) (by decide +kernel)⟩
def lw_privs_3 : List (MethodName × Nat) := [(⟨"CarriedSetsModel", "doDrops", "(I)I"⟩, 29), (⟨"CarriedSetsModel", "lay", "()V"⟩, 29), (⟨"CarriedSetsModel", "mark", "(I)V"⟩, 29), (⟨"CarriedSetsModel", "codeAt", "(I)I"⟩, 29), (⟨"CarriedSetsModel", "placeOf", "()I"⟩, 29), (⟨"CarriedSetsModel", "sortMade", "()V"⟩, 29), (⟨"CarriedSetsModel", "findChains", "()V"⟩, 29), (⟨"CarriedSetsModel", "ofPoint", "(II)I"⟩, 29), (⟨"CarriedSetsModel", "isSet", "(I)Z"⟩, 29), (⟨"CarriedSetsModel", "imageOf", "(I)I"⟩, 29), (⟨"CarriedSetsModel", "leastOf", "(I)I"⟩, 29), (⟨"CarriedSetsModel", "sortSets", "()V"⟩, 29), (⟨"CarriedSetsModel", "findImages", "(I)V"⟩, 29), (⟨"CarriedSetsModel", "carry", "(I)V"⟩, 29), (⟨"CarriedSetsModel", "headsOf", "(II)I"⟩, 29), (⟨"CarriedSetsModel", "here", "()I"⟩, 29)]
theorem lw_r3 : ∀ q ∈ lw_privs_3, lw_okq q := List.forall_mem_cons.mpr ⟨lw_p32, List.forall_mem_cons.mpr ⟨lw_p33, List.forall_mem_cons.mpr ⟨lw_p34, List.forall_mem_cons.mpr ⟨lw_p35, List.forall_mem_cons.mpr ⟨lw_p36, List.forall_mem_cons.mpr ⟨lw_p37, List.forall_mem_cons.mpr ⟨lw_p38, List.forall_mem_cons.mpr ⟨lw_p39, List.forall_mem_cons.mpr ⟨lw_p40, List.forall_mem_cons.mpr ⟨lw_p41, List.forall_mem_cons.mpr ⟨lw_p42, List.forall_mem_cons.mpr ⟨lw_p43, List.forall_mem_cons.mpr ⟨lw_p44, List.forall_mem_cons.mpr ⟨lw_p45, List.forall_mem_cons.mpr ⟨lw_p46, List.forall_mem_cons.mpr ⟨lw_p47, fun _ h => absurd h List.not_mem_nil⟩⟩⟩⟩⟩⟩⟩⟩⟩⟩⟩⟩⟩⟩⟩⟩
theorem lw_p48 : lw_okq (⟨"CarriedSetsModel", "readOrder", "()V"⟩, 29) := ⟨⟨by decide +kernel, by decide +kernel⟩, List.mem_of_getElem? (i := 559) (by decide +kernel), List.mem_of_getElem? (i := 838) (by decide +kernel), List.mem_of_getElem? (i := 839) (by decide +kernel)⟩
theorem lw_p49 : lw_okq (⟨"CarriedSetsModel", "must", "(Z)V"⟩, 29) := ⟨⟨by decide +kernel, by decide +kernel⟩, List.mem_of_getElem? (i := 559) (by decide +kernel), List.mem_of_getElem? (i := 842) (by decide +kernel), List.mem_of_getElem? (i := 843) (by decide +kernel)⟩
theorem lw_p50 : lw_okq (⟨"CarriedSetsModel", "readMove", "()I"⟩, 29) := ⟨⟨by decide +kernel, by decide +kernel⟩, List.mem_of_getElem? (i := 559) (by decide +kernel), List.mem_of_getElem? (i := 846) (by decide +kernel), List.mem_of_getElem? (i := 847) (by decide +kernel)⟩
theorem lw_p51 : lw_okq (⟨"CarriedSetsModel", "figure", "(II)I"⟩, 29) := ⟨⟨by decide +kernel, by decide +kernel⟩, List.mem_of_getElem? (i := 559) (by decide +kernel), List.mem_of_getElem? (i := 850) (by decide +kernel), List.mem_of_getElem? (i := 851) (by decide +kernel)⟩
theorem lw_p52 : lw_okq (⟨"CarriedSetsModel", "doOrder", "(I)I"⟩, 29) := ⟨⟨by decide +kernel, by decide +kernel⟩, List.mem_of_getElem? (i := 559) (by decide +kernel), List.mem_of_getElem? (i := 854) (by decide +kernel), List.mem_of_getElem? (i := 855) (by decide +kernel)⟩
theorem lw_p53 : lw_okq (⟨"CarriedSetsModel", "toldOf", "(I)I"⟩, 29) := ⟨⟨by decide +kernel, by decide +kernel⟩, List.mem_of_getElem? (i := 559) (by decide +kernel), List.mem_of_getElem? (i := 862) (by decide +kernel), List.mem_of_getElem? (i := 863) (by decide +kernel)⟩
theorem lw_p54 : lw_okq (⟨"CarriedSetsModel", "mix", "(I)V"⟩, 29) := ⟨⟨by decide +kernel, by decide +kernel⟩, List.mem_of_getElem? (i := 559) (by decide +kernel), List.mem_of_getElem? (i := 871) (by decide +kernel), List.mem_of_getElem? (i := 872) (by decide +kernel)⟩
def lw_privs_4 : List (MethodName × Nat) := [(⟨"CarriedSetsModel", "readOrder", "()V"⟩, 29), (⟨"CarriedSetsModel", "must", "(Z)V"⟩, 29), (⟨"CarriedSetsModel", "readMove", "()I"⟩, 29), (⟨"CarriedSetsModel", "figure", "(II)I"⟩, 29), (⟨"CarriedSetsModel", "doOrder", "(I)I"⟩, 29), (⟨"CarriedSetsModel", "toldOf", "(I)I"⟩, 29), (⟨"CarriedSetsModel", "mix", "(I)V"⟩, 29)]
theorem lw_r4 : ∀ q ∈ lw_privs_4, lw_okq q := List.forall_mem_cons.mpr ⟨lw_p48, List.forall_mem_cons.mpr ⟨lw_p49, List.forall_mem_cons.mpr ⟨lw_p50, List.forall_mem_cons.mpr ⟨lw_p51, List.forall_mem_cons.mpr ⟨lw_p52, List.forall_mem_cons.mpr ⟨lw_p53, List.forall_mem_cons.mpr ⟨lw_p54, fun _ h => absurd h List.not_mem_nil⟩⟩⟩⟩⟩⟩⟩
def lw_privs : List (MethodName × Nat) := lw_privs_1 ++ (lw_privs_2 ++ (lw_privs_3 ++ (lw_privs_4)))
def lw_tbl : List Cond := k2_sels lw_privs ++ tables_1
theorem lw_privs_ok : ∀ q ∈ lw_privs, lw_okq q := by
  show ∀ q ∈ lw_privs_1 ++ (lw_privs_2 ++ (lw_privs_3 ++ (lw_privs_4))), lw_okq q
  exact List.forall_mem_append.mpr ⟨lw_r1, List.forall_mem_append.mpr ⟨lw_r2, List.forall_mem_append.mpr ⟨lw_r3, lw_r4⟩⟩⟩
end
section
def RX0 : String := "CarriedSets$Carried"
def TX0 : u_T := fun k => match k with
  | 0 => ("CarriedSets$Carried", "n", "I", false)
  | 1 => ("CarriedSets$Carried", "inOrder", "[I", true)
  | 2 => ("CarriedSets$Carried", "starts", "[I", true)
  | 3 => ("CarriedSets$Carried", "firsts", "[I", true)
  | 4 => ("CarriedSets$Carried", "reached", "[I", true)
  | 5 => ("CarriedSets$Carried", "reachedAt", "[I", true)
  | _ => ("CarriedSets$Carried", "reachedCount", "I", false)
def tyX0 : Nat → FieldType := fun k => match k with
  | 0 => .int
  | 1 => .array .int
  | 2 => .array .int
  | 3 => .array .int
  | 4 => .array .int
  | 5 => .array .int
  | _ => .int
theorem nmX0 : ∀ a, a < 7 → ∀ b, b < 7 → a ≠ b → (TX0 a).2.1 ≠ (TX0 b).2.1 := by decide +kernel
theorem tyX0_ok : ∀ k, k < 7 → parseFieldDescriptor (TX0 k).2.2.1 = some (tyX0 k) := by decide +kernel
abbrev cX0_init : ByteArray := prog_2_method_1_code
def yX0_init : MethodName := ⟨RX0, "<init>", "()V"⟩
abbrev cX0_make : ByteArray := prog_2_method_2_code
def yX0_make : MethodName := ⟨RX0, "make", "(LCarriedSets$Elements;I)V"⟩
abbrev cX0_arrange : ByteArray := prog_2_method_3_code
def yX0_arrange : MethodName := ⟨RX0, "arrange", "()V"⟩
abbrev cX0_turnRound : ByteArray := prog_2_method_4_code
def yX0_turnRound : MethodName := ⟨RX0, "turnRound", "(I)I"⟩
abbrev cX0_spread : ByteArray := prog_2_method_5_code
def yX0_spread : MethodName := ⟨RX0, "spread", "(LCarriedSets$Elements;I)V"⟩
abbrev cX0_spreadBy : ByteArray := prog_2_method_6_code
def yX0_spreadBy : MethodName := ⟨RX0, "spreadBy", "(III)V"⟩
abbrev cX0_reach : ByteArray := prog_2_method_7_code
def yX0_reach : MethodName := ⟨RX0, "reach", "(II)V"⟩
abbrev cX0_firstMove : ByteArray := prog_2_method_8_code
def yX0_firstMove : MethodName := ⟨RX0, "firstMove", "(LCarriedSets$Elements;II)I"⟩
abbrev cX0_goOnTowards : ByteArray := prog_2_method_9_code
def yX0_goOnTowards : MethodName := ⟨RX0, "goOnTowards", "(LCarriedSets$Elements;III)I"⟩
abbrev cX0_first : ByteArray := prog_2_method_10_code
def yX0_first : MethodName := ⟨RX0, "first", "(I)I"⟩
abbrev cX0_start : ByteArray := prog_2_method_11_code
def yX0_start : MethodName := ⟨RX0, "start", "(I)I"⟩
abbrev cX0_countWith : ByteArray := prog_2_method_12_code
def yX0_countWith : MethodName := ⟨RX0, "countWith", "(I)I"⟩
abbrev cX0_nthWith : ByteArray := prog_2_method_13_code
def yX0_nthWith : MethodName := ⟨RX0, "nthWith", "(II)I"⟩
abbrev cX0_isFirst : ByteArray := prog_2_method_14_code
def yX0_isFirst : MethodName := ⟨RX0, "isFirst", "(I)Z"⟩
abbrev cX0_countFirsts : ByteArray := prog_2_method_15_code
def yX0_countFirsts : MethodName := ⟨RX0, "countFirsts", "(I)I"⟩
abbrev cX0_nthFirst : ByteArray := prog_2_method_16_code
def yX0_nthFirst : MethodName := ⟨RX0, "nthFirst", "(II)I"⟩
abbrev cX0_placeOfFirst : ByteArray := prog_2_method_17_code
def yX0_placeOfFirst : MethodName := ⟨RX0, "placeOfFirst", "(I)I"⟩
abbrev cX0_digestFirsts : ByteArray := prog_2_method_18_code
def yX0_digestFirsts : MethodName := ⟨RX0, "digestFirsts", "(IJ)J"⟩
abbrev cX0_orbit : ByteArray := prog_2_method_19_code
def yX0_orbit : MethodName := ⟨RX0, "orbit", "(I)I"⟩
abbrev cX0_leastPoint : ByteArray := prog_2_method_20_code
def yX0_leastPoint : MethodName := ⟨RX0, "leastPoint", "(I)I"⟩
def RX1 : String := "CarriedSets$Elements"
def TX1 : u_T := fun k => match k with
  | 0 => ("CarriedSets$Elements", "n", "I", false)
  | 1 => ("CarriedSets$Elements", "steps", "[I", true)
  | 2 => ("CarriedSets$Elements", "undoing", "[I", true)
  | 3 => ("CarriedSets$Elements", "chains", "[I", true)
  | 4 => ("CarriedSets$Elements", "leaving", "[I", true)
  | 5 => ("CarriedSets$Elements", "found", "[I", true)
  | 6 => ("CarriedSets$Elements", "foundAt", "[I", true)
  | _ => ("CarriedSets$Elements", "foundCount", "I", false)
def tyX1 : Nat → FieldType := fun k => match k with
  | 0 => .int
  | 1 => .array .int
  | 2 => .array .int
  | 3 => .array .int
  | 4 => .array .int
  | 5 => .array .int
  | 6 => .array .int
  | _ => .int
theorem nmX1 : ∀ a, a < 8 → ∀ b, b < 8 → a ≠ b → (TX1 a).2.1 ≠ (TX1 b).2.1 := by decide +kernel
theorem tyX1_ok : ∀ k, k < 8 → parseFieldDescriptor (TX1 k).2.2.1 = some (tyX1 k) := by decide +kernel
abbrev cX1_init : ByteArray := prog_3_method_1_code
def yX1_init : MethodName := ⟨RX1, "<init>", "()V"⟩
abbrev cX1_howMany : ByteArray := prog_3_method_2_code
def yX1_howMany : MethodName := ⟨RX1, "howMany", "()I"⟩
abbrev cX1_chain : ByteArray := prog_3_method_3_code
def yX1_chain : MethodName := ⟨RX1, "chain", "(I)I"⟩
abbrev cX1_step : ByteArray := prog_3_method_4_code
def yX1_step : MethodName := ⟨RX1, "step", "(II)I"⟩
abbrev cX1_make : ByteArray := prog_3_method_5_code
def yX1_make : MethodName := ⟨RX1, "make", "(LCarriedSets$Setup;)V"⟩
abbrev cX1_take : ByteArray := prog_3_method_6_code
def yX1_take : MethodName := ⟨RX1, "take", "(I)V"⟩
abbrev cX1_addStep : ByteArray := prog_3_method_7_code
def yX1_addStep : MethodName := ⟨RX1, "addStep", "(III)V"⟩
abbrev cX1_closeSteps : ByteArray := prog_3_method_8_code
def yX1_closeSteps : MethodName := ⟨RX1, "closeSteps", "()V"⟩
abbrev cX1_choices : ByteArray := prog_3_method_9_code
def yX1_choices : MethodName := ⟨RX1, "choices", "(II)I"⟩
abbrev cX1_goOn : ByteArray := prog_3_method_10_code
def yX1_goOn : MethodName := ⟨RX1, "goOn", "(III)I"⟩
abbrev cX1_rank : ByteArray := prog_3_method_11_code
def yX1_rank : MethodName := ⟨RX1, "rank", "(I)I"⟩
abbrev cX1_withRank : ByteArray := prog_3_method_12_code
def yX1_withRank : MethodName := ⟨RX1, "withRank", "(I)I"⟩
def RX2 : String := "CarriedSets$Move"
def TX2 : u_T := fun k => match k with
  | _ => ("", "", "", false)
def tyX2 : Nat → FieldType := fun k => match k with
  | _ => .int
theorem nmX2 : ∀ a, a < 0 → ∀ b, b < 0 → a ≠ b → (TX2 a).2.1 ≠ (TX2 b).2.1 := by decide +kernel
theorem tyX2_ok : ∀ k, k < 0 → parseFieldDescriptor (TX2 k).2.2.1 = some (tyX2 k) := by decide +kernel
abbrev cX2_at : ByteArray := prog_4_method_2_code
def yX2_at : MethodName := ⟨RX2, "at", "(II)I"⟩
abbrev cX2_then : ByteArray := prog_4_method_3_code
def yX2_then : MethodName := ⟨RX2, "then", "(II)I"⟩
abbrev cX2_inverse : ByteArray := prog_4_method_4_code
def yX2_inverse : MethodName := ⟨RX2, "inverse", "(I)I"⟩
abbrev cX2_carry : ByteArray := prog_4_method_5_code
def yX2_carry : MethodName := ⟨RX2, "carry", "(II)I"⟩
abbrev cX2_read : ByteArray := prog_4_method_6_code
def yX2_read : MethodName := ⟨RX2, "read", "(II)I"⟩
abbrev cX2_write : ByteArray := prog_4_method_7_code
def yX2_write : MethodName := ⟨RX2, "write", "(II)I"⟩
def RX3 : String := "CarriedSets$Reader"
def TX3 : u_T := fun k => match k with
  | 0 => ("CarriedSets$Reader", "trial", "LCarriedSets$Setup;", true)
  | 1 => ("CarriedSets$Reader", "done", "I", false)
  | 2 => ("CarriedSets$Reader", "stopped", "I", false)
  | 3 => ("CarriedSets$Reader", "due", "I", false)
  | 4 => ("CarriedSets$Reader", "letter", "I", false)
  | 5 => ("CarriedSets$Reader", "value", "I", false)
  | 6 => ("CarriedSets$Reader", "figures", "I", false)
  | _ => ("CarriedSets$Reader", "seen", "I", false)
def tyX3 : Nat → FieldType := fun k => match k with
  | 0 => .object "CarriedSets$Setup"
  | 1 => .int
  | 2 => .int
  | 3 => .int
  | 4 => .int
  | 5 => .int
  | 6 => .int
  | _ => .int
theorem nmX3 : ∀ a, a < 8 → ∀ b, b < 8 → a ≠ b → (TX3 a).2.1 ≠ (TX3 b).2.1 := by decide +kernel
theorem tyX3_ok : ∀ k, k < 8 → parseFieldDescriptor (TX3 k).2.2.1 = some (tyX3 k) := by decide +kernel
abbrev cX3_init : ByteArray := prog_5_method_1_code
def yX3_init : MethodName := ⟨RX3, "<init>", "()V"⟩
abbrev cX3_read : ByteArray := prog_5_method_2_code
def yX3_read : MethodName := ⟨RX3, "read", "(LCarriedSets$Text;LCarriedSets$Setup;)I"⟩
abbrev cX3_takes : ByteArray := prog_5_method_3_code
def yX3_takes : MethodName := ⟨RX3, "takes", "(I)Z"⟩
abbrev cX3_takesLetter : ByteArray := prog_5_method_4_code
def yX3_takesLetter : MethodName := ⟨RX3, "takesLetter", "(I)Z"⟩
abbrev cX3_takesFigure : ByteArray := prog_5_method_5_code
def yX3_takesFigure : MethodName := ⟨RX3, "takesFigure", "(I)Z"⟩
abbrev cX3_isDue : ByteArray := prog_5_method_6_code
def yX3_isDue : MethodName := ⟨RX3, "isDue", "(I)Z"⟩
abbrev cX3_takesEnd : ByteArray := prog_5_method_7_code
def yX3_takesEnd : MethodName := ⟨RX3, "takesEnd", "(I)Z"⟩
abbrev cX3_obeys : ByteArray := prog_5_method_8_code
def yX3_obeys : MethodName := ⟨RX3, "obeys", "()Z"⟩
def RX4 : String := "CarriedSets$Setup"
def TX4 : u_T := fun k => match k with
  | 0 => ("CarriedSets$Setup", "n", "I", false)
  | 1 => ("CarriedSets$Setup", "count", "I", false)
  | _ => ("CarriedSets$Setup", "generators", "[I", true)
def tyX4 : Nat → FieldType := fun k => match k with
  | 0 => .int
  | 1 => .int
  | _ => .array .int
theorem nmX4 : ∀ a, a < 3 → ∀ b, b < 3 → a ≠ b → (TX4 a).2.1 ≠ (TX4 b).2.1 := by decide +kernel
theorem tyX4_ok : ∀ k, k < 3 → parseFieldDescriptor (TX4 k).2.2.1 = some (tyX4 k) := by decide +kernel
abbrev cX4_init : ByteArray := prog_6_method_1_code
def yX4_init : MethodName := ⟨RX4, "<init>", "()V"⟩
abbrev cX4_start : ByteArray := prog_6_method_2_code
def yX4_start : MethodName := ⟨RX4, "start", "(I)V"⟩
abbrev cX4_generator : ByteArray := prog_6_method_3_code
def yX4_generator : MethodName := ⟨RX4, "generator", "(I)I"⟩
abbrev cX4_adds : ByteArray := prog_6_method_4_code
def yX4_adds : MethodName := ⟨RX4, "adds", "(I)Z"⟩
abbrev cX4_loses : ByteArray := prog_6_method_5_code
def yX4_loses : MethodName := ⟨RX4, "loses", "(I)Z"⟩
abbrev cX4_copy : ByteArray := prog_6_method_6_code
def yX4_copy : MethodName := ⟨RX4, "copy", "(LCarriedSets$Setup;)V"⟩
def RX5 : String := "CarriedSets$States"
def TX5 : u_T := fun k => match k with
  | 0 => ("CarriedSets$States", "count", "I", false)
  | _ => ("CarriedSets$States", "rows", "[LCarriedSets$Setup;", true)
def tyX5 : Nat → FieldType := fun k => match k with
  | 0 => .int
  | _ => .array (.object "CarriedSets$Setup")
theorem nmX5 : ∀ a, a < 2 → ∀ b, b < 2 → a ≠ b → (TX5 a).2.1 ≠ (TX5 b).2.1 := by decide +kernel
theorem tyX5_ok : ∀ k, k < 2 → parseFieldDescriptor (TX5 k).2.2.1 = some (tyX5 k) := by decide +kernel
abbrev cX5_init : ByteArray := prog_7_method_1_code
def yX5_init : MethodName := ⟨RX5, "<init>", "()V"⟩
abbrev cX5_push : ByteArray := prog_7_method_2_code
def yX5_push : MethodName := ⟨RX5, "push", "(LCarriedSets$Setup;)V"⟩
abbrev cX5_pop : ByteArray := prog_7_method_3_code
def yX5_pop : MethodName := ⟨RX5, "pop", "(LCarriedSets$Setup;)V"⟩
abbrev cX5_loseOldest : ByteArray := prog_7_method_4_code
def yX5_loseOldest : MethodName := ⟨RX5, "loseOldest", "()V"⟩
def RX6 : String := "CarriedSets$Text"
def TX6 : u_T := fun k => match k with
  | 0 => ("CarriedSets$Text", "length", "I", false)
  | _ => ("CarriedSets$Text", "bytes", "[B", true)
def tyX6 : Nat → FieldType := fun k => match k with
  | 0 => .int
  | _ => .array .byte
theorem nmX6 : ∀ a, a < 2 → ∀ b, b < 2 → a ≠ b → (TX6 a).2.1 ≠ (TX6 b).2.1 := by decide +kernel
theorem tyX6_ok : ∀ k, k < 2 → parseFieldDescriptor (TX6 k).2.2.1 = some (tyX6 k) := by decide +kernel
abbrev cX6_init : ByteArray := prog_8_method_1_code
def yX6_init : MethodName := ⟨RX6, "<init>", "()V"⟩
abbrev cX6_add : ByteArray := prog_8_method_2_code
def yX6_add : MethodName := ⟨RX6, "add", "(I)V"⟩
abbrev cX6_at : ByteArray := prog_8_method_3_code
def yX6_at : MethodName := ⟨RX6, "at", "(I)I"⟩
def RX7 : String := "CarriedSets"
def TX7 : u_T := fun k => match k with
  | 0 => ("CarriedSets", "now", "LCarriedSets$Setup;", true)
  | 1 => ("CarriedSets", "states", "LCarriedSets$States;", true)
  | 2 => ("CarriedSets", "text", "LCarriedSets$Text;", true)
  | 3 => ("CarriedSets", "reader", "LCarriedSets$Reader;", true)
  | 4 => ("CarriedSets", "elements", "LCarriedSets$Elements;", true)
  | 5 => ("CarriedSets", "carried", "LCarriedSets$Carried;", true)
  | 6 => ("CarriedSets", "fits", "Z", false)
  | 7 => ("CarriedSets", "refusedBad", "I", false)
  | 8 => ("CarriedSets", "refusedNo", "I", false)
  | _ => ("CarriedSets", "refusedFull", "I", false)
def tyX7 : Nat → FieldType := fun k => match k with
  | 0 => .object "CarriedSets$Setup"
  | 1 => .object "CarriedSets$States"
  | 2 => .object "CarriedSets$Text"
  | 3 => .object "CarriedSets$Reader"
  | 4 => .object "CarriedSets$Elements"
  | 5 => .object "CarriedSets$Carried"
  | 6 => .boolean
  | 7 => .int
  | 8 => .int
  | _ => .int
theorem nmX7 : ∀ a, a < 10 → ∀ b, b < 10 → a ≠ b → (TX7 a).2.1 ≠ (TX7 b).2.1 := by decide +kernel
theorem tyX7_ok : ∀ k, k < 10 → parseFieldDescriptor (TX7 k).2.2.1 = some (tyX7 k) := by decide +kernel
abbrev cX7_init : ByteArray := prog_1_method_1_code
def yX7_init : MethodName := ⟨RX7, "<init>", "()V"⟩
abbrev cX7_points : ByteArray := prog_1_method_2_code
def yX7_points : MethodName := ⟨RX7, "points", "(I)I"⟩
abbrev cX7_moves : ByteArray := prog_1_method_3_code
def yX7_moves : MethodName := ⟨RX7, "moves", "(I)I"⟩
abbrev cX7_drops : ByteArray := prog_1_method_4_code
def yX7_drops : MethodName := ⟨RX7, "drops", "(I)I"⟩
abbrev cX7_order : ByteArray := prog_1_method_5_code
def yX7_order : MethodName := ⟨RX7, "order", "()I"⟩
abbrev cX7_of : ByteArray := prog_1_method_6_code
def yX7_of : MethodName := ⟨RX7, "of", "(II)I"⟩
abbrev cX7_number : ByteArray := prog_1_method_7_code
def yX7_number : MethodName := ⟨RX7, "number", "(I)I"⟩
abbrev cX7_element : ByteArray := prog_1_method_8_code
def yX7_element : MethodName := ⟨RX7, "element", "(I)I"⟩
abbrev cX7_image : ByteArray := prog_1_method_9_code
def yX7_image : MethodName := ⟨RX7, "image", "(II)I"⟩
abbrev cX7_least : ByteArray := prog_1_method_10_code
def yX7_least : MethodName := ⟨RX7, "least", "(I)I"⟩
abbrev cX7_images : ByteArray := prog_1_method_11_code
def yX7_images : MethodName := ⟨RX7, "images", "(II)I"⟩
abbrev cX7_carrier : ByteArray := prog_1_method_12_code
def yX7_carrier : MethodName := ⟨RX7, "carrier", "(II)I"⟩
abbrev cX7_holds : ByteArray := prog_1_method_13_code
def yX7_holds : MethodName := ⟨RX7, "holds", "(I)I"⟩
abbrev cX7_heads : ByteArray := prog_1_method_14_code
def yX7_heads : MethodName := ⟨RX7, "heads", "(II)I"⟩
abbrev cX7_head : ByteArray := prog_1_method_15_code
def yX7_head : MethodName := ⟨RX7, "head", "(I)I"⟩
abbrev cX7_type : ByteArray := prog_1_method_16_code
def yX7_type : MethodName := ⟨RX7, "type", "(I)I"⟩
abbrev cX7_clear : ByteArray := prog_1_method_17_code
def yX7_clear : MethodName := ⟨RX7, "clear", "()I"⟩
abbrev cX7_reads : ByteArray := prog_1_method_18_code
def yX7_reads : MethodName := ⟨RX7, "reads", "()I"⟩
abbrev cX7_back : ByteArray := prog_1_method_19_code
def yX7_back : MethodName := ⟨RX7, "back", "()I"⟩
abbrev cX7_told : ByteArray := prog_1_method_20_code
def yX7_told : MethodName := ⟨RX7, "told", "(I)I"⟩
abbrev cX7_digest : ByteArray := prog_1_method_21_code
def yX7_digest : MethodName := ⟨RX7, "digest", "()J"⟩
abbrev cX7_refuse : ByteArray := prog_1_method_22_code
def yX7_refuse : MethodName := ⟨RX7, "refuse", "(I)I"⟩
abbrev cX7_isSet : ByteArray := prog_1_method_23_code
def yX7_isSet : MethodName := ⟨RX7, "isSet", "(I)Z"⟩
abbrev cX7_keepState : ByteArray := prog_1_method_24_code
def yX7_keepState : MethodName := ⟨RX7, "keepState", "()V"⟩
abbrev cX7_fit : ByteArray := prog_1_method_25_code
def yX7_fit : MethodName := ⟨RX7, "fit", "()V"⟩
abbrev cX7_tellPoint : ByteArray := prog_1_method_26_code
def yX7_tellPoint : MethodName := ⟨RX7, "tellPoint", "(II)I"⟩
abbrev cX7_tell : ByteArray := prog_1_method_27_code
def yX7_tell : MethodName := ⟨RX7, "tell", "(I)I"⟩
def RX8 : String := "CarriedSetsModel"
def TX8 : u_T := fun k => match k with
  | 0 => ("CarriedSetsModel", "now", "[I", true)
  | 1 => ("CarriedSetsModel", "held", "[I", true)
  | 2 => ("CarriedSetsModel", "past", "[I", true)
  | 3 => ("CarriedSetsModel", "pasts", "I", false)
  | 4 => ("CarriedSetsModel", "refused", "[I", true)
  | 5 => ("CarriedSetsModel", "figures", "[I", true)
  | 6 => ("CarriedSetsModel", "isLaid", "Z", false)
  | 7 => ("CarriedSetsModel", "many", "I", false)
  | 8 => ("CarriedSetsModel", "isMade", "[Z", true)
  | 9 => ("CarriedSetsModel", "made", "[I", true)
  | 10 => ("CarriedSetsModel", "images", "[I", true)
  | 11 => ("CarriedSetsModel", "orbits", "[I", true)
  | 12 => ("CarriedSetsModel", "chains", "[I", true)
  | 13 => ("CarriedSetsModel", "isCarried", "[Z", true)
  | 14 => ("CarriedSetsModel", "carried", "[I", true)
  | 15 => ("CarriedSetsModel", "carriedMany", "I", false)
  | 16 => ("CarriedSetsModel", "isSorted", "Z", false)
  | 17 => ("CarriedSetsModel", "leasts", "[I", true)
  | 18 => ("CarriedSetsModel", "heads", "[I", true)
  | 19 => ("CarriedSetsModel", "headFrom", "[I", true)
  | 20 => ("CarriedSetsModel", "text", "[I", true)
  | 21 => ("CarriedSetsModel", "typed", "I", false)
  | 22 => ("CarriedSetsModel", "at", "I", false)
  | 23 => ("CarriedSetsModel", "fault", "I", false)
  | 24 => ("CarriedSetsModel", "orders", "I", false)
  | 25 => ("CarriedSetsModel", "pointsThen", "I", false)
  | 26 => ("CarriedSetsModel", "letters", "[I", true)
  | 27 => ("CarriedSetsModel", "numbers", "[I", true)
  | _ => ("CarriedSetsModel", "h", "J", false)
def tyX8 : Nat → FieldType := fun k => match k with
  | 0 => .array .int
  | 1 => .array .int
  | 2 => .array .int
  | 3 => .int
  | 4 => .array .int
  | 5 => .array .int
  | 6 => .boolean
  | 7 => .int
  | 8 => .array .boolean
  | 9 => .array .int
  | 10 => .array .int
  | 11 => .array .int
  | 12 => .array .int
  | 13 => .array .boolean
  | 14 => .array .int
  | 15 => .int
  | 16 => .boolean
  | 17 => .array .int
  | 18 => .array .int
  | 19 => .array .int
  | 20 => .array .int
  | 21 => .int
  | 22 => .int
  | 23 => .int
  | 24 => .int
  | 25 => .int
  | 26 => .array .int
  | 27 => .array .int
  | _ => .long
theorem nmX8 : ∀ a, a < 29 → ∀ b, b < 29 → a ≠ b → (TX8 a).2.1 ≠ (TX8 b).2.1 := by decide +kernel
theorem tyX8_ok : ∀ k, k < 29 → parseFieldDescriptor (TX8 k).2.2.1 = some (tyX8 k) := by decide +kernel
abbrev cX8_init : ByteArray := prog_10_method_1_code
def yX8_init : MethodName := ⟨RX8, "<init>", "()V"⟩
abbrev cX8_in : ByteArray := prog_10_method_2_code
def yX8_in : MethodName := ⟨RX8, "in", "(III)Z"⟩
abbrev cX8_has : ByteArray := prog_10_method_3_code
def yX8_has : MethodName := ⟨RX8, "has", "(II)Z"⟩
abbrev cX8_refuses : ByteArray := prog_10_method_4_code
def yX8_refuses : MethodName := ⟨RX8, "refuses", "(I)I"⟩
abbrev cX8_hold : ByteArray := prog_10_method_5_code
def yX8_hold : MethodName := ⟨RX8, "hold", "()V"⟩
abbrev cX8_push : ByteArray := prog_10_method_6_code
def yX8_push : MethodName := ⟨RX8, "push", "()V"⟩
abbrev cX8_ends : ByteArray := prog_10_method_7_code
def yX8_ends : MethodName := ⟨RX8, "ends", "(I)I"⟩
abbrev cX8_back : ByteArray := prog_10_method_8_code
def yX8_back : MethodName := ⟨RX8, "back", "()I"⟩
abbrev cX8_open : ByteArray := prog_10_method_9_code
def yX8_open : MethodName := ⟨RX8, "open", "(I)V"⟩
abbrev cX8_isMove : ByteArray := prog_10_method_10_code
def yX8_isMove : MethodName := ⟨RX8, "isMove", "(I)Z"⟩
abbrev cX8_placeOf : ByteArray := prog_10_method_11_code
def yX8_placeOf : MethodName := ⟨RX8, "placeOf", "()I"⟩
abbrev cX8_codeAt : ByteArray := prog_10_method_12_code
def yX8_codeAt : MethodName := ⟨RX8, "codeAt", "(I)I"⟩
abbrev cX8_doPoints : ByteArray := prog_10_method_13_code
def yX8_doPoints : MethodName := ⟨RX8, "doPoints", "(I)I"⟩
abbrev cX8_doMoves : ByteArray := prog_10_method_14_code
def yX8_doMoves : MethodName := ⟨RX8, "doMoves", "(I)I"⟩
abbrev cX8_doDrops : ByteArray := prog_10_method_15_code
def yX8_doDrops : MethodName := ⟨RX8, "doDrops", "(I)I"⟩
abbrev cX8_points : ByteArray := prog_10_method_16_code
def yX8_points : MethodName := ⟨RX8, "points", "(I)I"⟩
abbrev cX8_moves : ByteArray := prog_10_method_17_code
def yX8_moves : MethodName := ⟨RX8, "moves", "(I)I"⟩
abbrev cX8_drops : ByteArray := prog_10_method_18_code
def yX8_drops : MethodName := ⟨RX8, "drops", "(I)I"⟩
abbrev cX8_mark : ByteArray := prog_10_method_19_code
def yX8_mark : MethodName := ⟨RX8, "mark", "(I)V"⟩
abbrev cX8_lay : ByteArray := prog_10_method_20_code
def yX8_lay : MethodName := ⟨RX8, "lay", "()V"⟩
abbrev cX8_sortMade : ByteArray := prog_10_method_21_code
def yX8_sortMade : MethodName := ⟨RX8, "sortMade", "()V"⟩
abbrev cX8_findChains : ByteArray := prog_10_method_22_code
def yX8_findChains : MethodName := ⟨RX8, "findChains", "()V"⟩
abbrev cX8_order : ByteArray := prog_10_method_23_code
def yX8_order : MethodName := ⟨RX8, "order", "()I"⟩
abbrev cX8_lowest : ByteArray := prog_10_method_24_code
def yX8_lowest : MethodName := ⟨RX8, "lowest", "(I)I"⟩
abbrev cX8_ofPoint : ByteArray := prog_10_method_25_code
def yX8_ofPoint : MethodName := ⟨RX8, "ofPoint", "(II)I"⟩
abbrev cX8_of : ByteArray := prog_10_method_26_code
def yX8_of : MethodName := ⟨RX8, "of", "(II)I"⟩
abbrev cX8_number : ByteArray := prog_10_method_27_code
def yX8_number : MethodName := ⟨RX8, "number", "(I)I"⟩
abbrev cX8_element : ByteArray := prog_10_method_28_code
def yX8_element : MethodName := ⟨RX8, "element", "(I)I"⟩
abbrev cX8_isSet : ByteArray := prog_10_method_29_code
def yX8_isSet : MethodName := ⟨RX8, "isSet", "(I)Z"⟩
abbrev cX8_imageOf : ByteArray := prog_10_method_30_code
def yX8_imageOf : MethodName := ⟨RX8, "imageOf", "(I)I"⟩
abbrev cX8_size : ByteArray := prog_10_method_31_code
def yX8_size : MethodName := ⟨RX8, "size", "(I)I"⟩
abbrev cX8_turned : ByteArray := prog_10_method_32_code
def yX8_turned : MethodName := ⟨RX8, "turned", "(I)I"⟩
abbrev cX8_image : ByteArray := prog_10_method_33_code
def yX8_image : MethodName := ⟨RX8, "image", "(II)I"⟩
abbrev cX8_carry : ByteArray := prog_10_method_34_code
def yX8_carry : MethodName := ⟨RX8, "carry", "(I)V"⟩
abbrev cX8_findImages : ByteArray := prog_10_method_35_code
def yX8_findImages : MethodName := ⟨RX8, "findImages", "(I)V"⟩
abbrev cX8_sortSets : ByteArray := prog_10_method_36_code
def yX8_sortSets : MethodName := ⟨RX8, "sortSets", "()V"⟩
abbrev cX8_leastOf : ByteArray := prog_10_method_37_code
def yX8_leastOf : MethodName := ⟨RX8, "leastOf", "(I)I"⟩
abbrev cX8_least : ByteArray := prog_10_method_38_code
def yX8_least : MethodName := ⟨RX8, "least", "(I)I"⟩
abbrev cX8_images : ByteArray := prog_10_method_39_code
def yX8_images : MethodName := ⟨RX8, "images", "(II)I"⟩
abbrev cX8_carrier : ByteArray := prog_10_method_40_code
def yX8_carrier : MethodName := ⟨RX8, "carrier", "(II)I"⟩
abbrev cX8_holds : ByteArray := prog_10_method_41_code
def yX8_holds : MethodName := ⟨RX8, "holds", "(I)I"⟩
abbrev cX8_headsOf : ByteArray := prog_10_method_42_code
def yX8_headsOf : MethodName := ⟨RX8, "headsOf", "(II)I"⟩
abbrev cX8_heads : ByteArray := prog_10_method_43_code
def yX8_heads : MethodName := ⟨RX8, "heads", "(II)I"⟩
abbrev cX8_head : ByteArray := prog_10_method_44_code
def yX8_head : MethodName := ⟨RX8, "head", "(I)I"⟩
abbrev cX8_type : ByteArray := prog_10_method_45_code
def yX8_type : MethodName := ⟨RX8, "type", "(I)I"⟩
abbrev cX8_clear : ByteArray := prog_10_method_46_code
def yX8_clear : MethodName := ⟨RX8, "clear", "()I"⟩
abbrev cX8_here : ByteArray := prog_10_method_47_code
def yX8_here : MethodName := ⟨RX8, "here", "()I"⟩
abbrev cX8_must : ByteArray := prog_10_method_48_code
def yX8_must : MethodName := ⟨RX8, "must", "(Z)V"⟩
abbrev cX8_figure : ByteArray := prog_10_method_49_code
def yX8_figure : MethodName := ⟨RX8, "figure", "(II)I"⟩
abbrev cX8_readMove : ByteArray := prog_10_method_50_code
def yX8_readMove : MethodName := ⟨RX8, "readMove", "()I"⟩
abbrev cX8_readOrder : ByteArray := prog_10_method_51_code
def yX8_readOrder : MethodName := ⟨RX8, "readOrder", "()V"⟩
abbrev cX8_doOrder : ByteArray := prog_10_method_52_code
def yX8_doOrder : MethodName := ⟨RX8, "doOrder", "(I)I"⟩
abbrev cX8_reads : ByteArray := prog_10_method_53_code
def yX8_reads : MethodName := ⟨RX8, "reads", "()I"⟩
abbrev cX8_toldOf : ByteArray := prog_10_method_54_code
def yX8_toldOf : MethodName := ⟨RX8, "toldOf", "(I)I"⟩
abbrev cX8_told : ByteArray := prog_10_method_55_code
def yX8_told : MethodName := ⟨RX8, "told", "(I)I"⟩
abbrev cX8_mix : ByteArray := prog_10_method_56_code
def yX8_mix : MethodName := ⟨RX8, "mix", "(I)V"⟩
abbrev cX8_digest : ByteArray := prog_10_method_57_code
def yX8_digest : MethodName := ⟨RX8, "digest", "()J"⟩
def RJ6 : String := "java/lang/Integer"
def TJ6 : u_T := fun k => match k with
  | _ => ("", "", "", false)
def tyJ6 : Nat → FieldType := fun k => match k with
  | _ => .int
theorem nmJ6 : ∀ a, a < 0 → ∀ b, b < 0 → a ≠ b → (TJ6 a).2.1 ≠ (TJ6 b).2.1 := by decide +kernel
theorem tyJ6_ok : ∀ k, k < 0 → parseFieldDescriptor (TJ6 k).2.2.1 = some (tyJ6 k) := by decide +kernel
abbrev cJ6_bitCount_0f7a4 : ByteArray := prog_11_method_49_code
def yJ6_bitCount_0f7a4 : MethodName := ⟨RJ6, "bitCount", "(I)I"⟩
def RJ9 : String := "java/lang/Math"
def TJ9 : u_T := fun k => match k with
  | _ => ("", "", "", false)
def tyJ9 : Nat → FieldType := fun k => match k with
  | _ => .int
theorem nmJ9 : ∀ a, a < 0 → ∀ b, b < 0 → a ≠ b → (TJ9 a).2.1 ≠ (TJ9 b).2.1 := by decide +kernel
theorem tyJ9_ok : ∀ k, k < 0 → parseFieldDescriptor (TJ9 k).2.2.1 = some (tyJ9 k) := by decide +kernel
abbrev cJ9_max_7cf53 : ByteArray := prog_12_method_65_code
def yJ9_max_7cf53 : MethodName := ⟨RJ9, "max", "(II)I"⟩
abbrev cJ9_min_7cf53 : ByteArray := prog_12_method_69_code
def yJ9_min_7cf53 : MethodName := ⟨RJ9, "min", "(II)I"⟩
def RJ10 : String := "java/lang/System"
def TJ10 : u_T := fun k => match k with
  | _ => ("", "", "", false)
def tyJ10 : Nat → FieldType := fun k => match k with
  | _ => .int
theorem nmJ10 : ∀ a, a < 0 → ∀ b, b < 0 → a ≠ b → (TJ10 a).2.1 ≠ (TJ10 b).2.1 := by decide +kernel
theorem tyJ10_ok : ∀ k, k < 0 → parseFieldDescriptor (TJ10 k).2.2.1 = some (tyJ10 k) := by decide +kernel
def RJ7 : String := "java/util/Arrays"
def TJ7 : u_T := fun k => match k with
  | _ => ("", "", "", false)
def tyJ7 : Nat → FieldType := fun k => match k with
  | _ => .int
theorem nmJ7 : ∀ a, a < 0 → ∀ b, b < 0 → a ≠ b → (TJ7 a).2.1 ≠ (TJ7 b).2.1 := by decide +kernel
theorem tyJ7_ok : ∀ k, k < 0 → parseFieldDescriptor (TJ7 k).2.2.1 = some (tyJ7 k) := by decide +kernel
abbrev cJ7_fill_53178 : ByteArray := prog_14_method_103_code
def yJ7_fill_53178 : MethodName := ⟨RJ7, "fill", "([II)V"⟩
def RL : String := "CarriedSetsLaw"
abbrev cL_law : ByteArray := code
def yL_law : MethodName := ⟨RL, "law", "([I)Z"⟩
abbrev vwCl : List vw_C := [(RX0, TX0, 7), (RX1, TX1, 8), (RX3, TX3, 8), (RX4, TX4, 3), (RX5, TX5, 2), (RX6, TX6, 2), (RX7, TX7, 10), (RX8, TX8, 29)]
end
section
def xtb : List Cond := lw_tbl.filter goodWord
theorem tw_r (i : Nat) {w : Cond} (h : lw_tbl[i]? = some w) (hg : goodWord w = true) : w ∈ xtb := List.mem_filter.mpr ⟨List.mem_of_getElem? h, hg⟩
theorem tw_in {ws : List Cond} (ps : List Nat) (hp : ws = ps.filterMap (fun i => lw_tbl[i]?)) (hg : ws.all goodWord = true) : ∀ w ∈ ws, w ∈ xtb := by
  intro w hw
  have h2 := List.all_eq_true.mp hg w hw
  rw [hp] at hw
  obtain ⟨i, -, hi⟩ := List.mem_filterMap.mp hw
  exact List.mem_filter.mpr ⟨List.mem_of_getElem? hi, h2⟩
theorem tw_good : ∀ w ∈ xtb, goodWord w = true := fun w h => (List.mem_filter.mp h).2
theorem inX0 : ∀ w ∈ u_ws RX0 TX0 7, w ∈ xtb := tw_in [215, 217, 219, 221, 223, 225, 227] (by decide +kernel) (by decide +kernel)
theorem inX1 : ∀ w ∈ u_ws RX1 TX1 8, w ∈ xtb := tw_in [182, 184, 186, 188, 190, 192, 194, 196] (by decide +kernel) (by decide +kernel)
theorem inX3 : ∀ w ∈ u_ws RX3 TX3 8, w ∈ xtb := tw_in [151, 153, 155, 157, 159, 161, 163, 165] (by decide +kernel) (by decide +kernel)
theorem inX4 : ∀ w ∈ u_ws RX4 TX4 3, w ∈ xtb := tw_in [91, 93, 95] (by decide +kernel) (by decide +kernel)
theorem inX5 : ∀ w ∈ u_ws RX5 TX5 2, w ∈ xtb := tw_in [111, 113] (by decide +kernel) (by decide +kernel)
theorem inX6 : ∀ w ∈ u_ws RX6 TX6 2, w ∈ xtb := tw_in [126, 128] (by decide +kernel) (by decide +kernel)
theorem inX7 : ∀ w ∈ u_ws RX7 TX7 10, w ∈ xtb := tw_in [240, 242, 244, 246, 248, 250, 252, 254, 256, 258] (by decide +kernel) (by decide +kernel)
theorem inX8 : ∀ w ∈ u_ws RX8 TX8 29, w ∈ xtb := tw_in [649, 651, 653, 655, 657, 659, 661, 663, 665, 667, 669, 671, 673, 675, 677, 679, 681, 683, 685, 687, 689, 691, 693, 695, 697, 699, 701, 703, 705] (by decide +kernel) (by decide +kernel)
theorem lkF_X4_9 : Cond.fieldLink RX4 9 "CarriedSets$Setup" "n" "I" ∈ xtb := tw_r 83 (by decide +kernel) (by decide +kernel)
theorem lkF_X7_69 : Cond.fieldLink RX7 69 "CarriedSets$Setup" "n" "I" ∈ xtb := tw_r 84 (by decide +kernel) (by decide +kernel)
theorem lkF_X1_37 : Cond.fieldLink RX1 37 "CarriedSets$Setup" "n" "I" ∈ xtb := tw_r 85 (by decide +kernel) (by decide +kernel)
theorem lkF_X3_69 : Cond.fieldLink RX3 69 "CarriedSets$Setup" "n" "I" ∈ xtb := tw_r 86 (by decide +kernel) (by decide +kernel)
theorem lkF_X4_15 : Cond.fieldLink RX4 15 "CarriedSets$Setup" "count" "I" ∈ xtb := tw_r 87 (by decide +kernel) (by decide +kernel)
theorem lkF_X7_85 : Cond.fieldLink RX7 85 "CarriedSets$Setup" "count" "I" ∈ xtb := tw_r 88 (by decide +kernel) (by decide +kernel)
theorem lkF_X1_43 : Cond.fieldLink RX1 43 "CarriedSets$Setup" "count" "I" ∈ xtb := tw_r 89 (by decide +kernel) (by decide +kernel)
theorem lkF_X4_18 : Cond.fieldLink RX4 18 "CarriedSets$Setup" "generators" "[I" ∈ xtb := tw_r 90 (by decide +kernel) (by decide +kernel)
theorem lkF_X5_9 : Cond.fieldLink RX5 9 "CarriedSets$States" "count" "I" ∈ xtb := tw_r 108 (by decide +kernel) (by decide +kernel)
theorem lkF_X7_169 : Cond.fieldLink RX7 169 "CarriedSets$States" "count" "I" ∈ xtb := tw_r 109 (by decide +kernel) (by decide +kernel)
theorem lkF_X5_17 : Cond.fieldLink RX5 17 "CarriedSets$States" "rows" "[LCarriedSets$Setup;" ∈ xtb := tw_r 110 (by decide +kernel) (by decide +kernel)
theorem lkF_X6_9 : Cond.fieldLink RX6 9 "CarriedSets$Text" "length" "I" ∈ xtb := tw_r 122 (by decide +kernel) (by decide +kernel)
theorem lkF_X3_44 : Cond.fieldLink RX3 44 "CarriedSets$Text" "length" "I" ∈ xtb := tw_r 123 (by decide +kernel) (by decide +kernel)
theorem lkF_X7_147 : Cond.fieldLink RX7 147 "CarriedSets$Text" "length" "I" ∈ xtb := tw_r 124 (by decide +kernel) (by decide +kernel)
theorem lkF_X6_15 : Cond.fieldLink RX6 15 "CarriedSets$Text" "bytes" "[B" ∈ xtb := tw_r 125 (by decide +kernel) (by decide +kernel)
theorem lkF_X3_12 : Cond.fieldLink RX3 12 "CarriedSets$Reader" "trial" "LCarriedSets$Setup;" ∈ xtb := tw_r 140 (by decide +kernel) (by decide +kernel)
theorem lkF_X7_159 : Cond.fieldLink RX7 159 "CarriedSets$Reader" "trial" "LCarriedSets$Setup;" ∈ xtb := tw_r 141 (by decide +kernel) (by decide +kernel)
theorem lkF_X3_18 : Cond.fieldLink RX3 18 "CarriedSets$Reader" "done" "I" ∈ xtb := tw_r 142 (by decide +kernel) (by decide +kernel)
theorem lkF_X7_166 : Cond.fieldLink RX7 166 "CarriedSets$Reader" "done" "I" ∈ xtb := tw_r 143 (by decide +kernel) (by decide +kernel)
theorem lkF_X3_22 : Cond.fieldLink RX3 22 "CarriedSets$Reader" "stopped" "I" ∈ xtb := tw_r 144 (by decide +kernel) (by decide +kernel)
theorem lkF_X7_156 : Cond.fieldLink RX7 156 "CarriedSets$Reader" "stopped" "I" ∈ xtb := tw_r 145 (by decide +kernel) (by decide +kernel)
theorem lkF_X3_25 : Cond.fieldLink RX3 25 "CarriedSets$Reader" "due" "I" ∈ xtb := tw_r 146 (by decide +kernel) (by decide +kernel)
theorem lkF_X3_28 : Cond.fieldLink RX3 28 "CarriedSets$Reader" "letter" "I" ∈ xtb := tw_r 147 (by decide +kernel) (by decide +kernel)
theorem lkF_X3_31 : Cond.fieldLink RX3 31 "CarriedSets$Reader" "value" "I" ∈ xtb := tw_r 148 (by decide +kernel) (by decide +kernel)
theorem lkF_X3_34 : Cond.fieldLink RX3 34 "CarriedSets$Reader" "figures" "I" ∈ xtb := tw_r 149 (by decide +kernel) (by decide +kernel)
theorem lkF_X3_37 : Cond.fieldLink RX3 37 "CarriedSets$Reader" "seen" "I" ∈ xtb := tw_r 150 (by decide +kernel) (by decide +kernel)
theorem lkF_X1_9 : Cond.fieldLink RX1 9 "CarriedSets$Elements" "n" "I" ∈ xtb := tw_r 174 (by decide +kernel) (by decide +kernel)
theorem lkF_X1_15 : Cond.fieldLink RX1 15 "CarriedSets$Elements" "steps" "[I" ∈ xtb := tw_r 175 (by decide +kernel) (by decide +kernel)
theorem lkF_X1_19 : Cond.fieldLink RX1 19 "CarriedSets$Elements" "undoing" "[I" ∈ xtb := tw_r 176 (by decide +kernel) (by decide +kernel)
theorem lkF_X1_22 : Cond.fieldLink RX1 22 "CarriedSets$Elements" "chains" "[I" ∈ xtb := tw_r 177 (by decide +kernel) (by decide +kernel)
theorem lkF_X1_25 : Cond.fieldLink RX1 25 "CarriedSets$Elements" "leaving" "[I" ∈ xtb := tw_r 178 (by decide +kernel) (by decide +kernel)
theorem lkF_X1_28 : Cond.fieldLink RX1 28 "CarriedSets$Elements" "found" "[I" ∈ xtb := tw_r 179 (by decide +kernel) (by decide +kernel)
theorem lkF_X1_31 : Cond.fieldLink RX1 31 "CarriedSets$Elements" "foundAt" "[I" ∈ xtb := tw_r 180 (by decide +kernel) (by decide +kernel)
theorem lkF_X1_34 : Cond.fieldLink RX1 34 "CarriedSets$Elements" "foundCount" "I" ∈ xtb := tw_r 181 (by decide +kernel) (by decide +kernel)
theorem lkF_X0_9 : Cond.fieldLink RX0 9 "CarriedSets$Carried" "n" "I" ∈ xtb := tw_r 208 (by decide +kernel) (by decide +kernel)
theorem lkF_X0_15 : Cond.fieldLink RX0 15 "CarriedSets$Carried" "inOrder" "[I" ∈ xtb := tw_r 209 (by decide +kernel) (by decide +kernel)
theorem lkF_X0_19 : Cond.fieldLink RX0 19 "CarriedSets$Carried" "starts" "[I" ∈ xtb := tw_r 210 (by decide +kernel) (by decide +kernel)
theorem lkF_X0_22 : Cond.fieldLink RX0 22 "CarriedSets$Carried" "firsts" "[I" ∈ xtb := tw_r 211 (by decide +kernel) (by decide +kernel)
theorem lkF_X0_25 : Cond.fieldLink RX0 25 "CarriedSets$Carried" "reached" "[I" ∈ xtb := tw_r 212 (by decide +kernel) (by decide +kernel)
theorem lkF_X0_28 : Cond.fieldLink RX0 28 "CarriedSets$Carried" "reachedAt" "[I" ∈ xtb := tw_r 213 (by decide +kernel) (by decide +kernel)
theorem lkF_X0_31 : Cond.fieldLink RX0 31 "CarriedSets$Carried" "reachedCount" "I" ∈ xtb := tw_r 214 (by decide +kernel) (by decide +kernel)
theorem lkF_X7_10 : Cond.fieldLink RX7 10 "CarriedSets" "now" "LCarriedSets$Setup;" ∈ xtb := tw_r 230 (by decide +kernel) (by decide +kernel)
theorem lkF_X7_19 : Cond.fieldLink RX7 19 "CarriedSets" "states" "LCarriedSets$States;" ∈ xtb := tw_r 231 (by decide +kernel) (by decide +kernel)
theorem lkF_X7_26 : Cond.fieldLink RX7 26 "CarriedSets" "text" "LCarriedSets$Text;" ∈ xtb := tw_r 232 (by decide +kernel) (by decide +kernel)
theorem lkF_X7_33 : Cond.fieldLink RX7 33 "CarriedSets" "reader" "LCarriedSets$Reader;" ∈ xtb := tw_r 233 (by decide +kernel) (by decide +kernel)
theorem lkF_X7_40 : Cond.fieldLink RX7 40 "CarriedSets" "elements" "LCarriedSets$Elements;" ∈ xtb := tw_r 234 (by decide +kernel) (by decide +kernel)
theorem lkF_X7_47 : Cond.fieldLink RX7 47 "CarriedSets" "carried" "LCarriedSets$Carried;" ∈ xtb := tw_r 235 (by decide +kernel) (by decide +kernel)
theorem lkF_X7_51 : Cond.fieldLink RX7 51 "CarriedSets" "fits" "Z" ∈ xtb := tw_r 236 (by decide +kernel) (by decide +kernel)
theorem lkF_X7_55 : Cond.fieldLink RX7 55 "CarriedSets" "refusedBad" "I" ∈ xtb := tw_r 237 (by decide +kernel) (by decide +kernel)
theorem lkF_X7_59 : Cond.fieldLink RX7 59 "CarriedSets" "refusedNo" "I" ∈ xtb := tw_r 238 (by decide +kernel) (by decide +kernel)
theorem lkF_X7_62 : Cond.fieldLink RX7 62 "CarriedSets" "refusedFull" "I" ∈ xtb := tw_r 239 (by decide +kernel) (by decide +kernel)
theorem lkF_X8_7 : Cond.fieldLink RX8 7 "CarriedSetsModel" "now" "[I" ∈ xtb := tw_r 620 (by decide +kernel) (by decide +kernel)
theorem lkF_X8_13 : Cond.fieldLink RX8 13 "CarriedSetsModel" "held" "[I" ∈ xtb := tw_r 621 (by decide +kernel) (by decide +kernel)
theorem lkF_X8_16 : Cond.fieldLink RX8 16 "CarriedSetsModel" "past" "[I" ∈ xtb := tw_r 622 (by decide +kernel) (by decide +kernel)
theorem lkF_X8_66 : Cond.fieldLink RX8 66 "CarriedSetsModel" "pasts" "I" ∈ xtb := tw_r 623 (by decide +kernel) (by decide +kernel)
theorem lkF_X8_19 : Cond.fieldLink RX8 19 "CarriedSetsModel" "refused" "[I" ∈ xtb := tw_r 624 (by decide +kernel) (by decide +kernel)
theorem lkF_X8_22 : Cond.fieldLink RX8 22 "CarriedSetsModel" "figures" "[I" ∈ xtb := tw_r 625 (by decide +kernel) (by decide +kernel)
theorem lkF_X8_77 : Cond.fieldLink RX8 77 "CarriedSetsModel" "isLaid" "Z" ∈ xtb := tw_r 626 (by decide +kernel) (by decide +kernel)
theorem lkF_X8_111 : Cond.fieldLink RX8 111 "CarriedSetsModel" "many" "I" ∈ xtb := tw_r 627 (by decide +kernel) (by decide +kernel)
theorem lkF_X8_26 : Cond.fieldLink RX8 26 "CarriedSetsModel" "isMade" "[Z" ∈ xtb := tw_r 628 (by decide +kernel) (by decide +kernel)
theorem lkF_X8_30 : Cond.fieldLink RX8 30 "CarriedSetsModel" "made" "[I" ∈ xtb := tw_r 629 (by decide +kernel) (by decide +kernel)
theorem lkF_X8_33 : Cond.fieldLink RX8 33 "CarriedSetsModel" "images" "[I" ∈ xtb := tw_r 630 (by decide +kernel) (by decide +kernel)
theorem lkF_X8_36 : Cond.fieldLink RX8 36 "CarriedSetsModel" "orbits" "[I" ∈ xtb := tw_r 631 (by decide +kernel) (by decide +kernel)
theorem lkF_X8_39 : Cond.fieldLink RX8 39 "CarriedSetsModel" "chains" "[I" ∈ xtb := tw_r 632 (by decide +kernel) (by decide +kernel)
theorem lkF_X8_42 : Cond.fieldLink RX8 42 "CarriedSetsModel" "isCarried" "[Z" ∈ xtb := tw_r 633 (by decide +kernel) (by decide +kernel)
theorem lkF_X8_45 : Cond.fieldLink RX8 45 "CarriedSetsModel" "carried" "[I" ∈ xtb := tw_r 634 (by decide +kernel) (by decide +kernel)
theorem lkF_X8_150 : Cond.fieldLink RX8 150 "CarriedSetsModel" "carriedMany" "I" ∈ xtb := tw_r 635 (by decide +kernel) (by decide +kernel)
theorem lkF_X8_81 : Cond.fieldLink RX8 81 "CarriedSetsModel" "isSorted" "Z" ∈ xtb := tw_r 636 (by decide +kernel) (by decide +kernel)
theorem lkF_X8_48 : Cond.fieldLink RX8 48 "CarriedSetsModel" "leasts" "[I" ∈ xtb := tw_r 637 (by decide +kernel) (by decide +kernel)
theorem lkF_X8_51 : Cond.fieldLink RX8 51 "CarriedSetsModel" "heads" "[I" ∈ xtb := tw_r 638 (by decide +kernel) (by decide +kernel)
theorem lkF_X8_54 : Cond.fieldLink RX8 54 "CarriedSetsModel" "headFrom" "[I" ∈ xtb := tw_r 639 (by decide +kernel) (by decide +kernel)
theorem lkF_X8_57 : Cond.fieldLink RX8 57 "CarriedSetsModel" "text" "[I" ∈ xtb := tw_r 640 (by decide +kernel) (by decide +kernel)
theorem lkF_X8_174 : Cond.fieldLink RX8 174 "CarriedSetsModel" "typed" "I" ∈ xtb := tw_r 641 (by decide +kernel) (by decide +kernel)
theorem lkF_X8_177 : Cond.fieldLink RX8 177 "CarriedSetsModel" "at" "I" ∈ xtb := tw_r 642 (by decide +kernel) (by decide +kernel)
theorem lkF_X8_180 : Cond.fieldLink RX8 180 "CarriedSetsModel" "fault" "I" ∈ xtb := tw_r 643 (by decide +kernel) (by decide +kernel)
theorem lkF_X8_193 : Cond.fieldLink RX8 193 "CarriedSetsModel" "orders" "I" ∈ xtb := tw_r 644 (by decide +kernel) (by decide +kernel)
theorem lkF_X8_190 : Cond.fieldLink RX8 190 "CarriedSetsModel" "pointsThen" "I" ∈ xtb := tw_r 645 (by decide +kernel) (by decide +kernel)
theorem lkF_X8_60 : Cond.fieldLink RX8 60 "CarriedSetsModel" "letters" "[I" ∈ xtb := tw_r 646 (by decide +kernel) (by decide +kernel)
theorem lkF_X8_63 : Cond.fieldLink RX8 63 "CarriedSetsModel" "numbers" "[I" ∈ xtb := tw_r 647 (by decide +kernel) (by decide +kernel)
theorem lkF_X8_213 : Cond.fieldLink RX8 213 "CarriedSetsModel" "h" "J" ∈ xtb := tw_r 648 (by decide +kernel) (by decide +kernel)
theorem lkM_L_9 : Cond.methodLink RL 9 yX7_init ∈ xtb := tw_r 71 (by decide +kernel) (by decide +kernel)
theorem lkM_X7_1 : Cond.methodLink RX7 1 objectInit ∈ xtb := tw_r 74 (by decide +kernel) (by decide +kernel)
theorem lkN_X7_9 : Cond.methodLinkNest RX7 9 yX4_init "CarriedSets" ∈ lw_tbl := List.mem_of_getElem? (i := 79) (by decide +kernel)
theorem lkM_X4_3 : Cond.methodLink RX4 3 objectInit ∈ xtb := tw_r 82 (by decide +kernel) (by decide +kernel)
theorem lkM_X7_18 : Cond.methodLink RX7 18 yX5_init ∈ xtb := tw_r 101 (by decide +kernel) (by decide +kernel)
theorem lkM_X5_3 : Cond.methodLink RX5 3 objectInit ∈ xtb := tw_r 104 (by decide +kernel) (by decide +kernel)
theorem lkN_X5_21 : Cond.methodLinkNest RX5 21 yX4_init "CarriedSets" ∈ lw_tbl := List.mem_of_getElem? (i := 107) (by decide +kernel)
theorem lkN_X7_25 : Cond.methodLinkNest RX7 25 yX6_init "CarriedSets" ∈ lw_tbl := List.mem_of_getElem? (i := 118) (by decide +kernel)
theorem lkM_X6_3 : Cond.methodLink RX6 3 objectInit ∈ xtb := tw_r 121 (by decide +kernel) (by decide +kernel)
theorem lkN_X7_32 : Cond.methodLinkNest RX7 32 yX3_init "CarriedSets" ∈ lw_tbl := List.mem_of_getElem? (i := 134) (by decide +kernel)
theorem lkM_X3_3 : Cond.methodLink RX3 3 objectInit ∈ xtb := tw_r 137 (by decide +kernel) (by decide +kernel)
theorem lkN_X3_11 : Cond.methodLinkNest RX3 11 yX4_init "CarriedSets" ∈ lw_tbl := List.mem_of_getElem? (i := 139) (by decide +kernel)
theorem lkN_X7_39 : Cond.methodLinkNest RX7 39 yX1_init "CarriedSets" ∈ lw_tbl := List.mem_of_getElem? (i := 170) (by decide +kernel)
theorem lkM_X1_3 : Cond.methodLink RX1 3 objectInit ∈ xtb := tw_r 173 (by decide +kernel) (by decide +kernel)
theorem lkM_X7_46 : Cond.methodLink RX7 46 yX0_init ∈ xtb := tw_r 201 (by decide +kernel) (by decide +kernel)
theorem lkM_X0_3 : Cond.methodLink RX0 3 objectInit ∈ xtb := tw_r 204 (by decide +kernel) (by decide +kernel)
theorem lkM_X0_34 : Cond.methodLink RX0 34 yJ7_fill_53178 ∈ xtb := tw_r 205 (by decide +kernel) (by decide +kernel)
theorem lkM_L_13 : Cond.methodLink RL 13 yX7_points ∈ xtb := tw_r 261 (by decide +kernel) (by decide +kernel)
theorem lkM_X7_65 : Cond.methodLink RX7 65 yX7_refuse ∈ xtb := tw_r 265 (by decide +kernel) (by decide +kernel)
theorem lkM_X7_72 : Cond.methodLink RX7 72 yX7_keepState ∈ xtb := tw_r 269 (by decide +kernel) (by decide +kernel)
theorem lkM_X7_187 : Cond.methodLink RX7 187 yX5_push ∈ xtb := tw_r 273 (by decide +kernel) (by decide +kernel)
theorem lkM_X5_22 : Cond.methodLink RX5 22 yX5_loseOldest ∈ xtb := tw_r 277 (by decide +kernel) (by decide +kernel)
theorem lkM_X5_25 : Cond.methodLink RX5 25 yX4_copy ∈ xtb := tw_r 281 (by decide +kernel) (by decide +kernel)
theorem lkM_X4_25 : Cond.methodLink RX4 25 ⟨"java/lang/System", "arraycopy", "(Ljava/lang/Object;ILjava/lang/Object;II)V"⟩ ∈ xtb := tw_r 285 (by decide +kernel) (by decide +kernel)
theorem lkM_X7_75 : Cond.methodLink RX7 75 yX4_start ∈ xtb := tw_r 288 (by decide +kernel) (by decide +kernel)
theorem lkM_L_18 : Cond.methodLink RL 18 yX7_moves ∈ xtb := tw_r 292 (by decide +kernel) (by decide +kernel)
theorem lkM_X7_79 : Cond.methodLink RX7 79 yX2_read ∈ xtb := tw_r 296 (by decide +kernel) (by decide +kernel)
theorem lkM_X7_88 : Cond.methodLink RX7 88 yX4_adds ∈ xtb := tw_r 300 (by decide +kernel) (by decide +kernel)
theorem lkM_L_22 : Cond.methodLink RL 22 yX7_drops ∈ xtb := tw_r 304 (by decide +kernel) (by decide +kernel)
theorem lkM_X7_92 : Cond.methodLink RX7 92 yX4_loses ∈ xtb := tw_r 308 (by decide +kernel) (by decide +kernel)
theorem lkM_L_26 : Cond.methodLink RL 26 yX7_order ∈ xtb := tw_r 312 (by decide +kernel) (by decide +kernel)
theorem lkM_X7_95 : Cond.methodLink RX7 95 yX7_fit ∈ xtb := tw_r 316 (by decide +kernel) (by decide +kernel)
theorem lkM_X7_190 : Cond.methodLink RX7 190 yX1_make ∈ xtb := tw_r 320 (by decide +kernel) (by decide +kernel)
theorem lkM_X1_46 : Cond.methodLink RX1 46 yX4_generator ∈ xtb := tw_r 325 (by decide +kernel) (by decide +kernel)
theorem lkM_X1_50 : Cond.methodLink RX1 50 yX1_take ∈ xtb := tw_r 330 (by decide +kernel) (by decide +kernel)
theorem lkM_X1_62 : Cond.methodLink RX1 62 yX2_at ∈ xtb := tw_r 334 (by decide +kernel) (by decide +kernel)
theorem lkM_X1_66 : Cond.methodLink RX1 66 yX1_addStep ∈ xtb := tw_r 337 (by decide +kernel) (by decide +kernel)
theorem lkM_X1_73 : Cond.methodLink RX1 73 yX2_inverse ∈ xtb := tw_r 341 (by decide +kernel) (by decide +kernel)
theorem lkM_X1_70 : Cond.methodLink RX1 70 yX2_then ∈ xtb := tw_r 344 (by decide +kernel) (by decide +kernel)
theorem lkM_X1_54 : Cond.methodLink RX1 54 yX1_closeSteps ∈ xtb := tw_r 347 (by decide +kernel) (by decide +kernel)
theorem lkM_X1_57 : Cond.methodLink RX1 57 yJ6_bitCount_0f7a4 ∈ xtb := tw_r 351 (by decide +kernel) (by decide +kernel)
theorem lkM_X7_193 : Cond.methodLink RX7 193 yX0_make ∈ xtb := tw_r 357 (by decide +kernel) (by decide +kernel)
theorem lkM_X0_40 : Cond.methodLink RX0 40 yX0_arrange ∈ xtb := tw_r 361 (by decide +kernel) (by decide +kernel)
theorem lkM_X0_47 : Cond.methodLink RX0 47 yJ6_bitCount_0f7a4 ∈ xtb := tw_r 365 (by decide +kernel) (by decide +kernel)
theorem lkM_X0_53 : Cond.methodLink RX0 53 yX0_turnRound ∈ xtb := tw_r 366 (by decide +kernel) (by decide +kernel)
theorem lkM_X0_43 : Cond.methodLink RX0 43 yX0_spread ∈ xtb := tw_r 370 (by decide +kernel) (by decide +kernel)
theorem lkM_X0_56 : Cond.methodLink RX0 56 yX0_reach ∈ xtb := tw_r 374 (by decide +kernel) (by decide +kernel)
theorem lkM_X0_60 : Cond.methodLink RX0 60 yX1_chain ∈ xtb := tw_r 378 (by decide +kernel) (by decide +kernel)
theorem lkM_X0_65 : Cond.methodLink RX0 65 yX1_step ∈ xtb := tw_r 382 (by decide +kernel) (by decide +kernel)
theorem lkM_X0_69 : Cond.methodLink RX0 69 yX0_spreadBy ∈ xtb := tw_r 386 (by decide +kernel) (by decide +kernel)
theorem lkM_X0_73 : Cond.methodLink RX0 73 yX2_carry ∈ xtb := tw_r 390 (by decide +kernel) (by decide +kernel)
theorem lkM_X7_98 : Cond.methodLink RX7 98 yX1_howMany ∈ xtb := tw_r 393 (by decide +kernel) (by decide +kernel)
theorem lkM_L_31 : Cond.methodLink RL 31 yX7_of ∈ xtb := tw_r 397 (by decide +kernel) (by decide +kernel)
theorem lkM_X7_102 : Cond.methodLink RX7 102 yX7_tellPoint ∈ xtb := tw_r 401 (by decide +kernel) (by decide +kernel)
theorem lkM_X7_196 : Cond.methodLink RX7 196 yX0_orbit ∈ xtb := tw_r 405 (by decide +kernel) (by decide +kernel)
theorem lkM_X0_101 : Cond.methodLink RX0 101 yX0_first ∈ xtb := tw_r 409 (by decide +kernel) (by decide +kernel)
theorem lkM_X7_199 : Cond.methodLink RX7 199 yX1_chain ∈ xtb := tw_r 413 (by decide +kernel) (by decide +kernel)
theorem lkM_X7_202 : Cond.methodLink RX7 202 yX0_leastPoint ∈ xtb := tw_r 414 (by decide +kernel) (by decide +kernel)
theorem lkM_L_36 : Cond.methodLink RL 36 yX7_number ∈ xtb := tw_r 418 (by decide +kernel) (by decide +kernel)
theorem lkM_X7_105 : Cond.methodLink RX7 105 yX1_rank ∈ xtb := tw_r 422 (by decide +kernel) (by decide +kernel)
theorem lkM_X1_85 : Cond.methodLink RX1 85 yX1_choices ∈ xtb := tw_r 426 (by decide +kernel) (by decide +kernel)
theorem lkM_X1_76 : Cond.methodLink RX1 76 yX1_chain ∈ xtb := tw_r 430 (by decide +kernel) (by decide +kernel)
theorem lkM_X1_79 : Cond.methodLink RX1 79 yX2_carry ∈ xtb := tw_r 431 (by decide +kernel) (by decide +kernel)
theorem lkM_X1_88 : Cond.methodLink RX1 88 yX1_goOn ∈ xtb := tw_r 432 (by decide +kernel) (by decide +kernel)
theorem lkM_X1_82 : Cond.methodLink RX1 82 yX1_step ∈ xtb := tw_r 436 (by decide +kernel) (by decide +kernel)
theorem lkM_L_40 : Cond.methodLink RL 40 yX7_element ∈ xtb := tw_r 437 (by decide +kernel) (by decide +kernel)
theorem lkM_X7_108 : Cond.methodLink RX7 108 yX1_withRank ∈ xtb := tw_r 441 (by decide +kernel) (by decide +kernel)
theorem lkM_X7_111 : Cond.methodLink RX7 111 yX2_write ∈ xtb := tw_r 445 (by decide +kernel) (by decide +kernel)
theorem lkM_X2_12 : Cond.methodLink RX2 12 yX2_at ∈ xtb := tw_r 448 (by decide +kernel) (by decide +kernel)
theorem lkM_L_44 : Cond.methodLink RL 44 yX7_image ∈ xtb := tw_r 449 (by decide +kernel) (by decide +kernel)
theorem lkM_X7_114 : Cond.methodLink RX7 114 yX7_isSet ∈ xtb := tw_r 453 (by decide +kernel) (by decide +kernel)
theorem lkM_X7_117 : Cond.methodLink RX7 117 yX2_carry ∈ xtb := tw_r 457 (by decide +kernel) (by decide +kernel)
theorem lkM_L_48 : Cond.methodLink RL 48 yX7_least ∈ xtb := tw_r 458 (by decide +kernel) (by decide +kernel)
theorem lkM_X7_120 : Cond.methodLink RX7 120 yX0_first ∈ xtb := tw_r 462 (by decide +kernel) (by decide +kernel)
theorem lkM_L_52 : Cond.methodLink RL 52 yX7_images ∈ xtb := tw_r 463 (by decide +kernel) (by decide +kernel)
theorem lkM_X7_123 : Cond.methodLink RX7 123 yX0_countWith ∈ xtb := tw_r 467 (by decide +kernel) (by decide +kernel)
theorem lkM_X0_104 : Cond.methodLink RX0 104 yX0_start ∈ xtb := tw_r 471 (by decide +kernel) (by decide +kernel)
theorem lkM_X0_93 : Cond.methodLink RX0 93 yJ9_min_7cf53 ∈ xtb := tw_r 475 (by decide +kernel) (by decide +kernel)
theorem lkM_X0_98 : Cond.methodLink RX0 98 yJ9_max_7cf53 ∈ xtb := tw_r 478 (by decide +kernel) (by decide +kernel)
theorem lkM_X7_126 : Cond.methodLink RX7 126 yX0_nthWith ∈ xtb := tw_r 481 (by decide +kernel) (by decide +kernel)
theorem lkM_L_56 : Cond.methodLink RL 56 yX7_carrier ∈ xtb := tw_r 485 (by decide +kernel) (by decide +kernel)
theorem lkM_X7_129 : Cond.methodLink RX7 129 yJ6_bitCount_0f7a4 ∈ xtb := tw_r 489 (by decide +kernel) (by decide +kernel)
theorem lkM_X7_134 : Cond.methodLink RX7 134 yX0_firstMove ∈ xtb := tw_r 490 (by decide +kernel) (by decide +kernel)
theorem lkM_X0_79 : Cond.methodLink RX0 79 yX0_goOnTowards ∈ xtb := tw_r 495 (by decide +kernel) (by decide +kernel)
theorem lkM_X0_83 : Cond.methodLink RX0 83 yX1_choices ∈ xtb := tw_r 499 (by decide +kernel) (by decide +kernel)
theorem lkM_X0_86 : Cond.methodLink RX0 86 yX1_goOn ∈ xtb := tw_r 500 (by decide +kernel) (by decide +kernel)
theorem lkM_X0_90 : Cond.methodLink RX0 90 yX2_inverse ∈ xtb := tw_r 501 (by decide +kernel) (by decide +kernel)
theorem lkM_L_60 : Cond.methodLink RL 60 yX7_holds ∈ xtb := tw_r 502 (by decide +kernel) (by decide +kernel)
theorem lkM_L_64 : Cond.methodLink RL 64 yX7_heads ∈ xtb := tw_r 506 (by decide +kernel) (by decide +kernel)
theorem lkM_X7_138 : Cond.methodLink RX7 138 yX0_countFirsts ∈ xtb := tw_r 510 (by decide +kernel) (by decide +kernel)
theorem lkM_X0_107 : Cond.methodLink RX0 107 yX0_isFirst ∈ xtb := tw_r 514 (by decide +kernel) (by decide +kernel)
theorem lkM_X7_141 : Cond.methodLink RX7 141 yX0_nthFirst ∈ xtb := tw_r 518 (by decide +kernel) (by decide +kernel)
theorem lkM_L_68 : Cond.methodLink RL 68 yX7_head ∈ xtb := tw_r 522 (by decide +kernel) (by decide +kernel)
theorem lkM_X7_144 : Cond.methodLink RX7 144 yX0_placeOfFirst ∈ xtb := tw_r 526 (by decide +kernel) (by decide +kernel)
theorem lkM_L_72 : Cond.methodLink RL 72 yX7_type ∈ xtb := tw_r 530 (by decide +kernel) (by decide +kernel)
theorem lkM_X7_150 : Cond.methodLink RX7 150 yX6_add ∈ xtb := tw_r 534 (by decide +kernel) (by decide +kernel)
theorem lkM_L_76 : Cond.methodLink RL 76 yX7_clear ∈ xtb := tw_r 538 (by decide +kernel) (by decide +kernel)
theorem lkM_L_80 : Cond.methodLink RL 80 yX7_reads ∈ xtb := tw_r 542 (by decide +kernel) (by decide +kernel)
theorem lkM_X7_153 : Cond.methodLink RX7 153 yX3_read ∈ xtb := tw_r 546 (by decide +kernel) (by decide +kernel)
theorem lkM_X3_40 : Cond.methodLink RX3 40 yX4_copy ∈ xtb := tw_r 550 (by decide +kernel) (by decide +kernel)
theorem lkM_X3_49 : Cond.methodLink RX3 49 yX6_at ∈ xtb := tw_r 551 (by decide +kernel) (by decide +kernel)
theorem lkM_X3_53 : Cond.methodLink RX3 53 yX3_takes ∈ xtb := tw_r 555 (by decide +kernel) (by decide +kernel)
theorem lkM_X3_57 : Cond.methodLink RX3 57 yX3_takesLetter ∈ xtb := tw_r 559 (by decide +kernel) (by decide +kernel)
theorem lkM_X3_60 : Cond.methodLink RX3 60 yX3_takesFigure ∈ xtb := tw_r 563 (by decide +kernel) (by decide +kernel)
theorem lkM_X3_66 : Cond.methodLink RX3 66 yX3_isDue ∈ xtb := tw_r 567 (by decide +kernel) (by decide +kernel)
theorem lkM_X3_63 : Cond.methodLink RX3 63 yX3_takesEnd ∈ xtb := tw_r 571 (by decide +kernel) (by decide +kernel)
theorem lkM_X3_72 : Cond.methodLink RX3 72 yX3_obeys ∈ xtb := tw_r 575 (by decide +kernel) (by decide +kernel)
theorem lkM_X3_76 : Cond.methodLink RX3 76 yX4_start ∈ xtb := tw_r 579 (by decide +kernel) (by decide +kernel)
theorem lkM_X3_80 : Cond.methodLink RX3 80 yX2_read ∈ xtb := tw_r 580 (by decide +kernel) (by decide +kernel)
theorem lkM_X3_86 : Cond.methodLink RX3 86 yX4_adds ∈ xtb := tw_r 581 (by decide +kernel) (by decide +kernel)
theorem lkM_X3_89 : Cond.methodLink RX3 89 yX4_loses ∈ xtb := tw_r 582 (by decide +kernel) (by decide +kernel)
theorem lkM_X7_162 : Cond.methodLink RX7 162 yX4_copy ∈ xtb := tw_r 583 (by decide +kernel) (by decide +kernel)
theorem lkM_L_84 : Cond.methodLink RL 84 yX7_back ∈ xtb := tw_r 584 (by decide +kernel) (by decide +kernel)
theorem lkM_X7_170 : Cond.methodLink RX7 170 yX5_pop ∈ xtb := tw_r 588 (by decide +kernel) (by decide +kernel)
theorem lkM_L_88 : Cond.methodLink RL 88 yX7_told ∈ xtb := tw_r 592 (by decide +kernel) (by decide +kernel)
theorem lkM_X7_173 : Cond.methodLink RX7 173 yX7_tell ∈ xtb := tw_r 596 (by decide +kernel) (by decide +kernel)
theorem lkM_L_92 : Cond.methodLink RL 92 yX7_digest ∈ xtb := tw_r 600 (by decide +kernel) (by decide +kernel)
theorem lkM_X7_180 : Cond.methodLink RX7 180 yX4_generator ∈ xtb := tw_r 606 (by decide +kernel) (by decide +kernel)
theorem lkM_X7_183 : Cond.methodLink RX7 183 yX0_digestFirsts ∈ xtb := tw_r 607 (by decide +kernel) (by decide +kernel)
theorem lkM_X0_113 : Cond.methodLink RX0 113 yX0_countFirsts ∈ xtb := tw_r 612 (by decide +kernel) (by decide +kernel)
theorem lkM_L_12 : Cond.methodLink RL 12 yX8_init ∈ xtb := tw_r 615 (by decide +kernel) (by decide +kernel)
theorem lkM_X8_1 : Cond.methodLink RX8 1 objectInit ∈ xtb := tw_r 618 (by decide +kernel) (by decide +kernel)
theorem lkM_L_87 : Cond.methodLink RL 87 yX8_back ∈ xtb := tw_r 709 (by decide +kernel) (by decide +kernel)
theorem lkM_X8_70 : Cond.methodLink RX8 70 yX8_refuses ∈ xtb := tw_r 713 (by decide +kernel) (by decide +kernel)
theorem lkM_L_17 : Cond.methodLink RL 17 yX8_points ∈ xtb := tw_r 717 (by decide +kernel) (by decide +kernel)
theorem lkM_X8_96 : Cond.methodLink RX8 96 yX8_hold ∈ xtb := tw_r 721 (by decide +kernel) (by decide +kernel)
theorem lkM_X8_99 : Cond.methodLink RX8 99 yX8_doPoints ∈ xtb := tw_r 725 (by decide +kernel) (by decide +kernel)
theorem lkM_X8_84 : Cond.methodLink RX8 84 yX8_in ∈ xtb := tw_r 729 (by decide +kernel) (by decide +kernel)
theorem lkM_X8_102 : Cond.methodLink RX8 102 yX8_ends ∈ xtb := tw_r 732 (by decide +kernel) (by decide +kernel)
theorem lkM_X8_74 : Cond.methodLink RX8 74 yX8_push ∈ xtb := tw_r 736 (by decide +kernel) (by decide +kernel)
theorem lkM_L_21 : Cond.methodLink RL 21 yX8_moves ∈ xtb := tw_r 740 (by decide +kernel) (by decide +kernel)
theorem lkM_X8_105 : Cond.methodLink RX8 105 yX8_doMoves ∈ xtb := tw_r 744 (by decide +kernel) (by decide +kernel)
theorem lkM_X8_92 : Cond.methodLink RX8 92 yX8_isMove ∈ xtb := tw_r 748 (by decide +kernel) (by decide +kernel)
theorem lkM_X8_88 : Cond.methodLink RX8 88 yX8_open ∈ xtb := tw_r 752 (by decide +kernel) (by decide +kernel)
theorem lkM_L_25 : Cond.methodLink RL 25 yX8_drops ∈ xtb := tw_r 756 (by decide +kernel) (by decide +kernel)
theorem lkM_X8_108 : Cond.methodLink RX8 108 yX8_doDrops ∈ xtb := tw_r 760 (by decide +kernel) (by decide +kernel)
theorem lkM_L_30 : Cond.methodLink RL 30 yX8_order ∈ xtb := tw_r 764 (by decide +kernel) (by decide +kernel)
theorem lkM_X8_130 : Cond.methodLink RX8 130 yX8_lay ∈ xtb := tw_r 768 (by decide +kernel) (by decide +kernel)
theorem lkM_X8_114 : Cond.methodLink RX8 114 yX8_mark ∈ xtb := tw_r 772 (by decide +kernel) (by decide +kernel)
theorem lkM_X8_117 : Cond.methodLink RX8 117 yX8_codeAt ∈ xtb := tw_r 776 (by decide +kernel) (by decide +kernel)
theorem lkM_X8_120 : Cond.methodLink RX8 120 yX8_placeOf ∈ xtb := tw_r 780 (by decide +kernel) (by decide +kernel)
theorem lkM_X8_124 : Cond.methodLink RX8 124 yX8_sortMade ∈ xtb := tw_r 784 (by decide +kernel) (by decide +kernel)
theorem lkM_X8_127 : Cond.methodLink RX8 127 yX8_findChains ∈ xtb := tw_r 788 (by decide +kernel) (by decide +kernel)
theorem lkM_L_35 : Cond.methodLink RL 35 yX8_of ∈ xtb := tw_r 792 (by decide +kernel) (by decide +kernel)
theorem lkM_X8_140 : Cond.methodLink RX8 140 yX8_ofPoint ∈ xtb := tw_r 796 (by decide +kernel) (by decide +kernel)
theorem lkM_X8_137 : Cond.methodLink RX8 137 yX8_lowest ∈ xtb := tw_r 800 (by decide +kernel) (by decide +kernel)
theorem lkM_X8_133 : Cond.methodLink RX8 133 yX8_has ∈ xtb := tw_r 803 (by decide +kernel) (by decide +kernel)
theorem lkM_L_39 : Cond.methodLink RL 39 yX8_number ∈ xtb := tw_r 806 (by decide +kernel) (by decide +kernel)
theorem lkM_L_43 : Cond.methodLink RL 43 yX8_element ∈ xtb := tw_r 810 (by decide +kernel) (by decide +kernel)
theorem lkM_L_47 : Cond.methodLink RL 47 yX8_image ∈ xtb := tw_r 814 (by decide +kernel) (by decide +kernel)
theorem lkM_X8_144 : Cond.methodLink RX8 144 yX8_isSet ∈ xtb := tw_r 818 (by decide +kernel) (by decide +kernel)
theorem lkM_X8_147 : Cond.methodLink RX8 147 yX8_imageOf ∈ xtb := tw_r 822 (by decide +kernel) (by decide +kernel)
theorem lkM_L_51 : Cond.methodLink RL 51 yX8_least ∈ xtb := tw_r 826 (by decide +kernel) (by decide +kernel)
theorem lkM_X8_168 : Cond.methodLink RX8 168 yX8_leastOf ∈ xtb := tw_r 830 (by decide +kernel) (by decide +kernel)
theorem lkM_X8_165 : Cond.methodLink RX8 165 yX8_sortSets ∈ xtb := tw_r 834 (by decide +kernel) (by decide +kernel)
theorem lkM_X8_156 : Cond.methodLink RX8 156 yX8_turned ∈ xtb := tw_r 838 (by decide +kernel) (by decide +kernel)
theorem lkM_X8_159 : Cond.methodLink RX8 159 yX8_size ∈ xtb := tw_r 841 (by decide +kernel) (by decide +kernel)
theorem lkM_X8_162 : Cond.methodLink RX8 162 yX8_findImages ∈ xtb := tw_r 844 (by decide +kernel) (by decide +kernel)
theorem lkM_X8_153 : Cond.methodLink RX8 153 yX8_carry ∈ xtb := tw_r 848 (by decide +kernel) (by decide +kernel)
theorem lkM_L_55 : Cond.methodLink RL 55 yX8_images ∈ xtb := tw_r 852 (by decide +kernel) (by decide +kernel)
theorem lkM_L_59 : Cond.methodLink RL 59 yX8_carrier ∈ xtb := tw_r 856 (by decide +kernel) (by decide +kernel)
theorem lkM_L_63 : Cond.methodLink RL 63 yX8_holds ∈ xtb := tw_r 860 (by decide +kernel) (by decide +kernel)
theorem lkM_L_67 : Cond.methodLink RL 67 yX8_heads ∈ xtb := tw_r 864 (by decide +kernel) (by decide +kernel)
theorem lkM_X8_171 : Cond.methodLink RX8 171 yX8_headsOf ∈ xtb := tw_r 868 (by decide +kernel) (by decide +kernel)
theorem lkM_L_71 : Cond.methodLink RL 71 yX8_head ∈ xtb := tw_r 872 (by decide +kernel) (by decide +kernel)
theorem lkM_L_75 : Cond.methodLink RL 75 yX8_type ∈ xtb := tw_r 876 (by decide +kernel) (by decide +kernel)
theorem lkM_L_79 : Cond.methodLink RL 79 yX8_clear ∈ xtb := tw_r 880 (by decide +kernel) (by decide +kernel)
theorem lkM_L_83 : Cond.methodLink RL 83 yX8_reads ∈ xtb := tw_r 884 (by decide +kernel) (by decide +kernel)
theorem lkM_X8_183 : Cond.methodLink RX8 183 yX8_here ∈ xtb := tw_r 888 (by decide +kernel) (by decide +kernel)
theorem lkM_X8_202 : Cond.methodLink RX8 202 yX8_readOrder ∈ xtb := tw_r 892 (by decide +kernel) (by decide +kernel)
theorem lkM_X8_186 : Cond.methodLink RX8 186 yX8_must ∈ xtb := tw_r 896 (by decide +kernel) (by decide +kernel)
theorem lkM_X8_196 : Cond.methodLink RX8 196 yX8_readMove ∈ xtb := tw_r 900 (by decide +kernel) (by decide +kernel)
theorem lkM_X8_199 : Cond.methodLink RX8 199 yX8_figure ∈ xtb := tw_r 904 (by decide +kernel) (by decide +kernel)
theorem lkM_X8_205 : Cond.methodLink RX8 205 yX8_doOrder ∈ xtb := tw_r 908 (by decide +kernel) (by decide +kernel)
theorem lkM_L_91 : Cond.methodLink RL 91 yX8_told ∈ xtb := tw_r 912 (by decide +kernel) (by decide +kernel)
theorem lkM_X8_208 : Cond.methodLink RX8 208 yX8_toldOf ∈ xtb := tw_r 916 (by decide +kernel) (by decide +kernel)
theorem lkM_L_96 : Cond.methodLink RL 96 yX8_digest ∈ xtb := tw_r 920 (by decide +kernel) (by decide +kernel)
theorem lkM_X8_219 : Cond.methodLink RX8 219 yX8_mix ∈ xtb := tw_r 925 (by decide +kernel) (by decide +kernel)
theorem lkM_X8_222 : Cond.methodLink RX8 222 yX8_order ∈ xtb := tw_r 930 (by decide +kernel) (by decide +kernel)
theorem wC_X7_init : Cond.code yX7_init cX7_init 1 none ∈ xtb := tw_r 73 (by decide +kernel) (by decide +kernel)
theorem wC_objectInit : Cond.code objectInit ⟨#[0xb1]⟩ 1 none ∈ xtb := tw_r 76 (by decide +kernel) (by decide +kernel)
theorem wC_X4_init : Cond.code yX4_init cX4_init 1 none ∈ xtb := tw_r 81 (by decide +kernel) (by decide +kernel)
theorem wC_X5_init : Cond.code yX5_init cX5_init 2 none ∈ xtb := tw_r 103 (by decide +kernel) (by decide +kernel)
theorem wC_X6_init : Cond.code yX6_init cX6_init 1 none ∈ xtb := tw_r 120 (by decide +kernel) (by decide +kernel)
theorem wC_X3_init : Cond.code yX3_init cX3_init 1 none ∈ xtb := tw_r 136 (by decide +kernel) (by decide +kernel)
theorem wC_X1_init : Cond.code yX1_init cX1_init 1 none ∈ xtb := tw_r 172 (by decide +kernel) (by decide +kernel)
theorem wC_X0_init : Cond.code yX0_init cX0_init 1 none ∈ xtb := tw_r 203 (by decide +kernel) (by decide +kernel)
theorem wC_J7_fill_53178 : Cond.code yJ7_fill_53178 cJ7_fill_53178 4 none ∈ xtb := tw_r 207 (by decide +kernel) (by decide +kernel)
theorem wC_X7_points : Cond.code yX7_points cX7_points 3 (some .int) ∈ xtb := tw_r 264 (by decide +kernel) (by decide +kernel)
theorem wC_X7_refuse : Cond.code yX7_refuse cX7_refuse 2 (some .int) ∈ xtb := tw_r 268 (by decide +kernel) (by decide +kernel)
theorem wC_X7_keepState : Cond.code yX7_keepState cX7_keepState 1 none ∈ xtb := tw_r 272 (by decide +kernel) (by decide +kernel)
theorem wC_X5_push : Cond.code yX5_push cX5_push 2 none ∈ xtb := tw_r 276 (by decide +kernel) (by decide +kernel)
theorem wC_X5_loseOldest : Cond.code yX5_loseOldest cX5_loseOldest 3 none ∈ xtb := tw_r 280 (by decide +kernel) (by decide +kernel)
theorem wC_X4_copy : Cond.code yX4_copy cX4_copy 2 none ∈ xtb := tw_r 284 (by decide +kernel) (by decide +kernel)
theorem wC_X4_start : Cond.code yX4_start cX4_start 2 none ∈ xtb := tw_r 291 (by decide +kernel) (by decide +kernel)
theorem wC_X7_moves : Cond.code yX7_moves cX7_moves 3 (some .int) ∈ xtb := tw_r 295 (by decide +kernel) (by decide +kernel)
theorem wC_X2_read : Cond.code yX2_read cX2_read 7 (some .int) ∈ xtb := tw_r 298 (by decide +kernel) (by decide +kernel)
theorem wC_X4_adds : Cond.code yX4_adds cX4_adds 2 (some .boolean) ∈ xtb := tw_r 303 (by decide +kernel) (by decide +kernel)
theorem wC_X7_drops : Cond.code yX7_drops cX7_drops 2 (some .int) ∈ xtb := tw_r 307 (by decide +kernel) (by decide +kernel)
theorem wC_X4_loses : Cond.code yX4_loses cX4_loses 3 (some .boolean) ∈ xtb := tw_r 311 (by decide +kernel) (by decide +kernel)
theorem wC_X7_order : Cond.code yX7_order cX7_order 1 (some .int) ∈ xtb := tw_r 315 (by decide +kernel) (by decide +kernel)
theorem wC_X7_fit : Cond.code yX7_fit cX7_fit 1 none ∈ xtb := tw_r 319 (by decide +kernel) (by decide +kernel)
theorem wC_X1_make : Cond.code yX1_make cX1_make 3 none ∈ xtb := tw_r 323 (by decide +kernel) (by decide +kernel)
theorem wC_X4_generator : Cond.code yX4_generator cX4_generator 2 (some .int) ∈ xtb := tw_r 328 (by decide +kernel) (by decide +kernel)
theorem wC_X1_take : Cond.code yX1_take cX1_take 5 none ∈ xtb := tw_r 333 (by decide +kernel) (by decide +kernel)
theorem wC_X2_at : Cond.code yX2_at cX2_at 2 (some .int) ∈ xtb := tw_r 336 (by decide +kernel) (by decide +kernel)
theorem wC_X1_addStep : Cond.code yX1_addStep cX1_addStep 4 none ∈ xtb := tw_r 340 (by decide +kernel) (by decide +kernel)
theorem wC_X2_inverse : Cond.code yX2_inverse cX2_inverse 3 (some .int) ∈ xtb := tw_r 343 (by decide +kernel) (by decide +kernel)
theorem wC_X2_then : Cond.code yX2_then cX2_then 4 (some .int) ∈ xtb := tw_r 346 (by decide +kernel) (by decide +kernel)
theorem wC_X1_closeSteps : Cond.code yX1_closeSteps cX1_closeSteps 3 none ∈ xtb := tw_r 350 (by decide +kernel) (by decide +kernel)
theorem wC_J6_bitCount_0f7a4 : Cond.code yJ6_bitCount_0f7a4 cJ6_bitCount_0f7a4 1 (some .int) ∈ xtb := tw_r 353 (by decide +kernel) (by decide +kernel)
theorem wC_X0_make : Cond.code yX0_make cX0_make 6 none ∈ xtb := tw_r 360 (by decide +kernel) (by decide +kernel)
theorem wC_X0_arrange : Cond.code yX0_arrange cX0_arrange 4 none ∈ xtb := tw_r 364 (by decide +kernel) (by decide +kernel)
theorem wC_X0_turnRound : Cond.code yX0_turnRound cX0_turnRound 4 (some .int) ∈ xtb := tw_r 369 (by decide +kernel) (by decide +kernel)
theorem wC_X0_spread : Cond.code yX0_spread cX0_spread 7 none ∈ xtb := tw_r 373 (by decide +kernel) (by decide +kernel)
theorem wC_X0_reach : Cond.code yX0_reach cX0_reach 3 none ∈ xtb := tw_r 377 (by decide +kernel) (by decide +kernel)
theorem wC_X1_chain : Cond.code yX1_chain cX1_chain 2 (some .int) ∈ xtb := tw_r 381 (by decide +kernel) (by decide +kernel)
theorem wC_X1_step : Cond.code yX1_step cX1_step 3 (some .int) ∈ xtb := tw_r 385 (by decide +kernel) (by decide +kernel)
theorem wC_X0_spreadBy : Cond.code yX0_spreadBy cX0_spreadBy 5 none ∈ xtb := tw_r 389 (by decide +kernel) (by decide +kernel)
theorem wC_X2_carry : Cond.code yX2_carry cX2_carry 5 (some .int) ∈ xtb := tw_r 392 (by decide +kernel) (by decide +kernel)
theorem wC_X1_howMany : Cond.code yX1_howMany cX1_howMany 1 (some .int) ∈ xtb := tw_r 396 (by decide +kernel) (by decide +kernel)
theorem wC_X7_of : Cond.code yX7_of cX7_of 3 (some .int) ∈ xtb := tw_r 400 (by decide +kernel) (by decide +kernel)
theorem wC_X7_tellPoint : Cond.code yX7_tellPoint cX7_tellPoint 3 (some .int) ∈ xtb := tw_r 404 (by decide +kernel) (by decide +kernel)
theorem wC_X0_orbit : Cond.code yX0_orbit cX0_orbit 4 (some .int) ∈ xtb := tw_r 408 (by decide +kernel) (by decide +kernel)
theorem wC_X0_first : Cond.code yX0_first cX0_first 2 (some .int) ∈ xtb := tw_r 412 (by decide +kernel) (by decide +kernel)
theorem wC_X0_leastPoint : Cond.code yX0_leastPoint cX0_leastPoint 3 (some .int) ∈ xtb := tw_r 417 (by decide +kernel) (by decide +kernel)
theorem wC_X7_number : Cond.code yX7_number cX7_number 3 (some .int) ∈ xtb := tw_r 421 (by decide +kernel) (by decide +kernel)
theorem wC_X1_rank : Cond.code yX1_rank cX1_rank 7 (some .int) ∈ xtb := tw_r 425 (by decide +kernel) (by decide +kernel)
theorem wC_X1_choices : Cond.code yX1_choices cX1_choices 3 (some .int) ∈ xtb := tw_r 429 (by decide +kernel) (by decide +kernel)
theorem wC_X1_goOn : Cond.code yX1_goOn cX1_goOn 4 (some .int) ∈ xtb := tw_r 435 (by decide +kernel) (by decide +kernel)
theorem wC_X7_element : Cond.code yX7_element cX7_element 2 (some .int) ∈ xtb := tw_r 440 (by decide +kernel) (by decide +kernel)
theorem wC_X1_withRank : Cond.code yX1_withRank cX1_withRank 7 (some .int) ∈ xtb := tw_r 444 (by decide +kernel) (by decide +kernel)
theorem wC_X2_write : Cond.code yX2_write cX2_write 4 (some .int) ∈ xtb := tw_r 447 (by decide +kernel) (by decide +kernel)
theorem wC_X7_image : Cond.code yX7_image cX7_image 4 (some .int) ∈ xtb := tw_r 452 (by decide +kernel) (by decide +kernel)
theorem wC_X7_isSet : Cond.code yX7_isSet cX7_isSet 2 (some .boolean) ∈ xtb := tw_r 456 (by decide +kernel) (by decide +kernel)
theorem wC_X7_least : Cond.code yX7_least cX7_least 2 (some .int) ∈ xtb := tw_r 461 (by decide +kernel) (by decide +kernel)
theorem wC_X7_images : Cond.code yX7_images cX7_images 3 (some .int) ∈ xtb := tw_r 466 (by decide +kernel) (by decide +kernel)
theorem wC_X0_countWith : Cond.code yX0_countWith cX0_countWith 6 (some .int) ∈ xtb := tw_r 470 (by decide +kernel) (by decide +kernel)
theorem wC_X0_start : Cond.code yX0_start cX0_start 2 (some .int) ∈ xtb := tw_r 474 (by decide +kernel) (by decide +kernel)
theorem wC_J9_min_7cf53 : Cond.code yJ9_min_7cf53 cJ9_min_7cf53 2 (some .int) ∈ xtb := tw_r 477 (by decide +kernel) (by decide +kernel)
theorem wC_J9_max_7cf53 : Cond.code yJ9_max_7cf53 cJ9_max_7cf53 2 (some .int) ∈ xtb := tw_r 480 (by decide +kernel) (by decide +kernel)
theorem wC_X0_nthWith : Cond.code yX0_nthWith cX0_nthWith 7 (some .int) ∈ xtb := tw_r 484 (by decide +kernel) (by decide +kernel)
theorem wC_X7_carrier : Cond.code yX7_carrier cX7_carrier 4 (some .int) ∈ xtb := tw_r 488 (by decide +kernel) (by decide +kernel)
theorem wC_X0_firstMove : Cond.code yX0_firstMove cX0_firstMove 6 (some .int) ∈ xtb := tw_r 493 (by decide +kernel) (by decide +kernel)
theorem wC_X0_goOnTowards : Cond.code yX0_goOnTowards cX0_goOnTowards 8 (some .int) ∈ xtb := tw_r 498 (by decide +kernel) (by decide +kernel)
theorem wC_X7_holds : Cond.code yX7_holds cX7_holds 3 (some .int) ∈ xtb := tw_r 505 (by decide +kernel) (by decide +kernel)
theorem wC_X7_heads : Cond.code yX7_heads cX7_heads 3 (some .int) ∈ xtb := tw_r 509 (by decide +kernel) (by decide +kernel)
theorem wC_X0_countFirsts : Cond.code yX0_countFirsts cX0_countFirsts 4 (some .int) ∈ xtb := tw_r 513 (by decide +kernel) (by decide +kernel)
theorem wC_X0_isFirst : Cond.code yX0_isFirst cX0_isFirst 2 (some .boolean) ∈ xtb := tw_r 517 (by decide +kernel) (by decide +kernel)
theorem wC_X0_nthFirst : Cond.code yX0_nthFirst cX0_nthFirst 5 (some .int) ∈ xtb := tw_r 521 (by decide +kernel) (by decide +kernel)
theorem wC_X7_head : Cond.code yX7_head cX7_head 2 (some .int) ∈ xtb := tw_r 525 (by decide +kernel) (by decide +kernel)
theorem wC_X0_placeOfFirst : Cond.code yX0_placeOfFirst cX0_placeOfFirst 5 (some .int) ∈ xtb := tw_r 529 (by decide +kernel) (by decide +kernel)
theorem wC_X7_type : Cond.code yX7_type cX7_type 2 (some .int) ∈ xtb := tw_r 533 (by decide +kernel) (by decide +kernel)
theorem wC_X6_add : Cond.code yX6_add cX6_add 2 none ∈ xtb := tw_r 537 (by decide +kernel) (by decide +kernel)
theorem wC_X7_clear : Cond.code yX7_clear cX7_clear 2 (some .int) ∈ xtb := tw_r 541 (by decide +kernel) (by decide +kernel)
theorem wC_X7_reads : Cond.code yX7_reads cX7_reads 2 (some .int) ∈ xtb := tw_r 545 (by decide +kernel) (by decide +kernel)
theorem wC_X3_read : Cond.code yX3_read cX3_read 5 (some .int) ∈ xtb := tw_r 549 (by decide +kernel) (by decide +kernel)
theorem wC_X6_at : Cond.code yX6_at cX6_at 2 (some .int) ∈ xtb := tw_r 554 (by decide +kernel) (by decide +kernel)
theorem wC_X3_takes : Cond.code yX3_takes cX3_takes 2 (some .boolean) ∈ xtb := tw_r 558 (by decide +kernel) (by decide +kernel)
theorem wC_X3_takesLetter : Cond.code yX3_takesLetter cX3_takesLetter 2 (some .boolean) ∈ xtb := tw_r 562 (by decide +kernel) (by decide +kernel)
theorem wC_X3_takesFigure : Cond.code yX3_takesFigure cX3_takesFigure 2 (some .boolean) ∈ xtb := tw_r 566 (by decide +kernel) (by decide +kernel)
theorem wC_X3_isDue : Cond.code yX3_isDue cX3_isDue 2 (some .boolean) ∈ xtb := tw_r 570 (by decide +kernel) (by decide +kernel)
theorem wC_X3_takesEnd : Cond.code yX3_takesEnd cX3_takesEnd 2 (some .boolean) ∈ xtb := tw_r 574 (by decide +kernel) (by decide +kernel)
theorem wC_X3_obeys : Cond.code yX3_obeys cX3_obeys 1 (some .boolean) ∈ xtb := tw_r 578 (by decide +kernel) (by decide +kernel)
theorem wC_X7_back : Cond.code yX7_back cX7_back 1 (some .int) ∈ xtb := tw_r 587 (by decide +kernel) (by decide +kernel)
theorem wC_X5_pop : Cond.code yX5_pop cX5_pop 2 none ∈ xtb := tw_r 591 (by decide +kernel) (by decide +kernel)
theorem wC_X7_told : Cond.code yX7_told cX7_told 2 (some .int) ∈ xtb := tw_r 595 (by decide +kernel) (by decide +kernel)
theorem wC_X7_tell : Cond.code yX7_tell cX7_tell 2 (some .int) ∈ xtb := tw_r 599 (by decide +kernel) (by decide +kernel)
theorem wC_X7_digest : Cond.code yX7_digest cX7_digest 5 (some .long) ∈ xtb := tw_r 603 (by decide +kernel) (by decide +kernel)
theorem wC_X0_digestFirsts : Cond.code yX0_digestFirsts cX0_digestFirsts 7 (some .long) ∈ xtb := tw_r 610 (by decide +kernel) (by decide +kernel)
theorem wC_X8_init : Cond.code yX8_init cX8_init 1 none ∈ xtb := tw_r 617 (by decide +kernel) (by decide +kernel)
theorem wC_X8_back : Cond.code yX8_back cX8_back 2 (some .int) ∈ xtb := tw_r 712 (by decide +kernel) (by decide +kernel)
theorem wC_X8_refuses : Cond.code yX8_refuses cX8_refuses 2 (some .int) ∈ xtb := tw_r 716 (by decide +kernel) (by decide +kernel)
theorem wC_X8_points : Cond.code yX8_points cX8_points 2 (some .int) ∈ xtb := tw_r 720 (by decide +kernel) (by decide +kernel)
theorem wC_X8_hold : Cond.code yX8_hold cX8_hold 2 none ∈ xtb := tw_r 724 (by decide +kernel) (by decide +kernel)
theorem wC_X8_doPoints : Cond.code yX8_doPoints cX8_doPoints 3 (some .int) ∈ xtb := tw_r 728 (by decide +kernel) (by decide +kernel)
theorem wC_X8_in : Cond.code yX8_in cX8_in 3 (some .boolean) ∈ xtb := tw_r 731 (by decide +kernel) (by decide +kernel)
theorem wC_X8_ends : Cond.code yX8_ends cX8_ends 2 (some .int) ∈ xtb := tw_r 735 (by decide +kernel) (by decide +kernel)
theorem wC_X8_push : Cond.code yX8_push cX8_push 2 none ∈ xtb := tw_r 739 (by decide +kernel) (by decide +kernel)
theorem wC_X8_moves : Cond.code yX8_moves cX8_moves 2 (some .int) ∈ xtb := tw_r 743 (by decide +kernel) (by decide +kernel)
theorem wC_X8_doMoves : Cond.code yX8_doMoves cX8_doMoves 2 (some .int) ∈ xtb := tw_r 747 (by decide +kernel) (by decide +kernel)
theorem wC_X8_isMove : Cond.code yX8_isMove cX8_isMove 5 (some .boolean) ∈ xtb := tw_r 751 (by decide +kernel) (by decide +kernel)
theorem wC_X8_open : Cond.code yX8_open cX8_open 4 none ∈ xtb := tw_r 755 (by decide +kernel) (by decide +kernel)
theorem wC_X8_drops : Cond.code yX8_drops cX8_drops 2 (some .int) ∈ xtb := tw_r 759 (by decide +kernel) (by decide +kernel)
theorem wC_X8_doDrops : Cond.code yX8_doDrops cX8_doDrops 3 (some .int) ∈ xtb := tw_r 763 (by decide +kernel) (by decide +kernel)
theorem wC_X8_order : Cond.code yX8_order cX8_order 1 (some .int) ∈ xtb := tw_r 767 (by decide +kernel) (by decide +kernel)
theorem wC_X8_lay : Cond.code yX8_lay cX8_lay 4 none ∈ xtb := tw_r 771 (by decide +kernel) (by decide +kernel)
theorem wC_X8_mark : Cond.code yX8_mark cX8_mark 2 none ∈ xtb := tw_r 775 (by decide +kernel) (by decide +kernel)
theorem wC_X8_codeAt : Cond.code yX8_codeAt cX8_codeAt 5 (some .int) ∈ xtb := tw_r 779 (by decide +kernel) (by decide +kernel)
theorem wC_X8_placeOf : Cond.code yX8_placeOf cX8_placeOf 5 (some .int) ∈ xtb := tw_r 783 (by decide +kernel) (by decide +kernel)
theorem wC_X8_sortMade : Cond.code yX8_sortMade cX8_sortMade 3 none ∈ xtb := tw_r 787 (by decide +kernel) (by decide +kernel)
theorem wC_X8_findChains : Cond.code yX8_findChains cX8_findChains 4 none ∈ xtb := tw_r 791 (by decide +kernel) (by decide +kernel)
theorem wC_X8_of : Cond.code yX8_of cX8_of 3 (some .int) ∈ xtb := tw_r 795 (by decide +kernel) (by decide +kernel)
theorem wC_X8_ofPoint : Cond.code yX8_ofPoint cX8_ofPoint 3 (some .int) ∈ xtb := tw_r 799 (by decide +kernel) (by decide +kernel)
theorem wC_X8_lowest : Cond.code yX8_lowest cX8_lowest 2 (some .int) ∈ xtb := tw_r 802 (by decide +kernel) (by decide +kernel)
theorem wC_X8_has : Cond.code yX8_has cX8_has 2 (some .boolean) ∈ xtb := tw_r 805 (by decide +kernel) (by decide +kernel)
theorem wC_X8_number : Cond.code yX8_number cX8_number 6 (some .int) ∈ xtb := tw_r 809 (by decide +kernel) (by decide +kernel)
theorem wC_X8_element : Cond.code yX8_element cX8_element 2 (some .int) ∈ xtb := tw_r 813 (by decide +kernel) (by decide +kernel)
theorem wC_X8_image : Cond.code yX8_image cX8_image 3 (some .int) ∈ xtb := tw_r 817 (by decide +kernel) (by decide +kernel)
theorem wC_X8_isSet : Cond.code yX8_isSet cX8_isSet 2 (some .boolean) ∈ xtb := tw_r 821 (by decide +kernel) (by decide +kernel)
theorem wC_X8_imageOf : Cond.code yX8_imageOf cX8_imageOf 4 (some .int) ∈ xtb := tw_r 825 (by decide +kernel) (by decide +kernel)
theorem wC_X8_least : Cond.code yX8_least cX8_least 2 (some .int) ∈ xtb := tw_r 829 (by decide +kernel) (by decide +kernel)
theorem wC_X8_leastOf : Cond.code yX8_leastOf cX8_leastOf 2 (some .int) ∈ xtb := tw_r 833 (by decide +kernel) (by decide +kernel)
theorem wC_X8_sortSets : Cond.code yX8_sortSets cX8_sortSets 6 none ∈ xtb := tw_r 837 (by decide +kernel) (by decide +kernel)
theorem wC_X8_turned : Cond.code yX8_turned cX8_turned 3 (some .int) ∈ xtb := tw_r 840 (by decide +kernel) (by decide +kernel)
theorem wC_X8_size : Cond.code yX8_size cX8_size 3 (some .int) ∈ xtb := tw_r 843 (by decide +kernel) (by decide +kernel)
theorem wC_X8_findImages : Cond.code yX8_findImages cX8_findImages 4 none ∈ xtb := tw_r 847 (by decide +kernel) (by decide +kernel)
theorem wC_X8_carry : Cond.code yX8_carry cX8_carry 2 none ∈ xtb := tw_r 851 (by decide +kernel) (by decide +kernel)
theorem wC_X8_images : Cond.code yX8_images cX8_images 3 (some .int) ∈ xtb := tw_r 855 (by decide +kernel) (by decide +kernel)
theorem wC_X8_carrier : Cond.code yX8_carrier cX8_carrier 5 (some .int) ∈ xtb := tw_r 859 (by decide +kernel) (by decide +kernel)
theorem wC_X8_holds : Cond.code yX8_holds cX8_holds 4 (some .int) ∈ xtb := tw_r 863 (by decide +kernel) (by decide +kernel)
theorem wC_X8_heads : Cond.code yX8_heads cX8_heads 3 (some .int) ∈ xtb := tw_r 867 (by decide +kernel) (by decide +kernel)
theorem wC_X8_headsOf : Cond.code yX8_headsOf cX8_headsOf 4 (some .int) ∈ xtb := tw_r 871 (by decide +kernel) (by decide +kernel)
theorem wC_X8_head : Cond.code yX8_head cX8_head 4 (some .int) ∈ xtb := tw_r 875 (by decide +kernel) (by decide +kernel)
theorem wC_X8_type : Cond.code yX8_type cX8_type 2 (some .int) ∈ xtb := tw_r 879 (by decide +kernel) (by decide +kernel)
theorem wC_X8_clear : Cond.code yX8_clear cX8_clear 2 (some .int) ∈ xtb := tw_r 883 (by decide +kernel) (by decide +kernel)
theorem wC_X8_reads : Cond.code yX8_reads cX8_reads 3 (some .int) ∈ xtb := tw_r 887 (by decide +kernel) (by decide +kernel)
theorem wC_X8_here : Cond.code yX8_here cX8_here 1 (some .int) ∈ xtb := tw_r 891 (by decide +kernel) (by decide +kernel)
theorem wC_X8_readOrder : Cond.code yX8_readOrder cX8_readOrder 2 none ∈ xtb := tw_r 895 (by decide +kernel) (by decide +kernel)
theorem wC_X8_must : Cond.code yX8_must cX8_must 2 none ∈ xtb := tw_r 899 (by decide +kernel) (by decide +kernel)
theorem wC_X8_readMove : Cond.code yX8_readMove cX8_readMove 5 (some .int) ∈ xtb := tw_r 903 (by decide +kernel) (by decide +kernel)
theorem wC_X8_figure : Cond.code yX8_figure cX8_figure 4 (some .int) ∈ xtb := tw_r 907 (by decide +kernel) (by decide +kernel)
theorem wC_X8_doOrder : Cond.code yX8_doOrder cX8_doOrder 2 (some .int) ∈ xtb := tw_r 911 (by decide +kernel) (by decide +kernel)
theorem wC_X8_told : Cond.code yX8_told cX8_told 2 (some .int) ∈ xtb := tw_r 915 (by decide +kernel) (by decide +kernel)
theorem wC_X8_toldOf : Cond.code yX8_toldOf cX8_toldOf 2 (some .int) ∈ xtb := tw_r 919 (by decide +kernel) (by decide +kernel)
theorem wC_X8_digest : Cond.code yX8_digest cX8_digest 4 (some .long) ∈ xtb := tw_r 923 (by decide +kernel) (by decide +kernel)
theorem wC_X8_mix : Cond.code yX8_mix cX8_mix 2 none ∈ xtb := tw_r 928 (by decide +kernel) (by decide +kernel)
theorem wI_X7_init : Cond.instanceMethod yX7_init ∈ xtb := tw_r 72 (by decide +kernel) (by decide +kernel)
theorem wI_objectInit : Cond.instanceMethod objectInit ∈ xtb := tw_r 75 (by decide +kernel) (by decide +kernel)
theorem wI_X4_init : Cond.instanceMethod yX4_init ∈ xtb := tw_r 80 (by decide +kernel) (by decide +kernel)
theorem wI_X5_init : Cond.instanceMethod yX5_init ∈ xtb := tw_r 102 (by decide +kernel) (by decide +kernel)
theorem wI_X6_init : Cond.instanceMethod yX6_init ∈ xtb := tw_r 119 (by decide +kernel) (by decide +kernel)
theorem wI_X3_init : Cond.instanceMethod yX3_init ∈ xtb := tw_r 135 (by decide +kernel) (by decide +kernel)
theorem wI_X1_init : Cond.instanceMethod yX1_init ∈ xtb := tw_r 171 (by decide +kernel) (by decide +kernel)
theorem wI_X0_init : Cond.instanceMethod yX0_init ∈ xtb := tw_r 202 (by decide +kernel) (by decide +kernel)
theorem wI_X7_points : Cond.instanceMethod yX7_points ∈ xtb := tw_r 262 (by decide +kernel) (by decide +kernel)
theorem wI_X7_refuse : Cond.instanceMethod yX7_refuse ∈ xtb := tw_r 267 (by decide +kernel) (by decide +kernel)
theorem wI_X7_keepState : Cond.instanceMethod yX7_keepState ∈ xtb := tw_r 271 (by decide +kernel) (by decide +kernel)
theorem wI_X5_push : Cond.instanceMethod yX5_push ∈ xtb := tw_r 274 (by decide +kernel) (by decide +kernel)
theorem wI_X5_loseOldest : Cond.instanceMethod yX5_loseOldest ∈ xtb := tw_r 279 (by decide +kernel) (by decide +kernel)
theorem wI_X4_copy : Cond.instanceMethod yX4_copy ∈ xtb := tw_r 282 (by decide +kernel) (by decide +kernel)
theorem wI_X4_start : Cond.instanceMethod yX4_start ∈ xtb := tw_r 289 (by decide +kernel) (by decide +kernel)
theorem wI_X7_moves : Cond.instanceMethod yX7_moves ∈ xtb := tw_r 293 (by decide +kernel) (by decide +kernel)
theorem wI_X4_adds : Cond.instanceMethod yX4_adds ∈ xtb := tw_r 301 (by decide +kernel) (by decide +kernel)
theorem wI_X7_drops : Cond.instanceMethod yX7_drops ∈ xtb := tw_r 305 (by decide +kernel) (by decide +kernel)
theorem wI_X4_loses : Cond.instanceMethod yX4_loses ∈ xtb := tw_r 309 (by decide +kernel) (by decide +kernel)
theorem wI_X7_order : Cond.instanceMethod yX7_order ∈ xtb := tw_r 313 (by decide +kernel) (by decide +kernel)
theorem wI_X7_fit : Cond.instanceMethod yX7_fit ∈ xtb := tw_r 318 (by decide +kernel) (by decide +kernel)
theorem wI_X1_make : Cond.instanceMethod yX1_make ∈ xtb := tw_r 321 (by decide +kernel) (by decide +kernel)
theorem wI_X4_generator : Cond.instanceMethod yX4_generator ∈ xtb := tw_r 326 (by decide +kernel) (by decide +kernel)
theorem wI_X1_take : Cond.instanceMethod yX1_take ∈ xtb := tw_r 332 (by decide +kernel) (by decide +kernel)
theorem wI_X1_addStep : Cond.instanceMethod yX1_addStep ∈ xtb := tw_r 339 (by decide +kernel) (by decide +kernel)
theorem wI_X1_closeSteps : Cond.instanceMethod yX1_closeSteps ∈ xtb := tw_r 349 (by decide +kernel) (by decide +kernel)
theorem wI_X0_make : Cond.instanceMethod yX0_make ∈ xtb := tw_r 358 (by decide +kernel) (by decide +kernel)
theorem wI_X0_arrange : Cond.instanceMethod yX0_arrange ∈ xtb := tw_r 363 (by decide +kernel) (by decide +kernel)
theorem wI_X0_turnRound : Cond.instanceMethod yX0_turnRound ∈ xtb := tw_r 368 (by decide +kernel) (by decide +kernel)
theorem wI_X0_spread : Cond.instanceMethod yX0_spread ∈ xtb := tw_r 372 (by decide +kernel) (by decide +kernel)
theorem wI_X0_reach : Cond.instanceMethod yX0_reach ∈ xtb := tw_r 376 (by decide +kernel) (by decide +kernel)
theorem wI_X1_chain : Cond.instanceMethod yX1_chain ∈ xtb := tw_r 379 (by decide +kernel) (by decide +kernel)
theorem wI_X1_step : Cond.instanceMethod yX1_step ∈ xtb := tw_r 383 (by decide +kernel) (by decide +kernel)
theorem wI_X0_spreadBy : Cond.instanceMethod yX0_spreadBy ∈ xtb := tw_r 388 (by decide +kernel) (by decide +kernel)
theorem wI_X1_howMany : Cond.instanceMethod yX1_howMany ∈ xtb := tw_r 394 (by decide +kernel) (by decide +kernel)
theorem wI_X7_of : Cond.instanceMethod yX7_of ∈ xtb := tw_r 398 (by decide +kernel) (by decide +kernel)
theorem wI_X7_tellPoint : Cond.instanceMethod yX7_tellPoint ∈ xtb := tw_r 403 (by decide +kernel) (by decide +kernel)
theorem wI_X0_orbit : Cond.instanceMethod yX0_orbit ∈ xtb := tw_r 406 (by decide +kernel) (by decide +kernel)
theorem wI_X0_first : Cond.instanceMethod yX0_first ∈ xtb := tw_r 410 (by decide +kernel) (by decide +kernel)
theorem wI_X0_leastPoint : Cond.instanceMethod yX0_leastPoint ∈ xtb := tw_r 415 (by decide +kernel) (by decide +kernel)
theorem wI_X7_number : Cond.instanceMethod yX7_number ∈ xtb := tw_r 419 (by decide +kernel) (by decide +kernel)
theorem wI_X1_rank : Cond.instanceMethod yX1_rank ∈ xtb := tw_r 423 (by decide +kernel) (by decide +kernel)
theorem wI_X1_choices : Cond.instanceMethod yX1_choices ∈ xtb := tw_r 427 (by decide +kernel) (by decide +kernel)
theorem wI_X1_goOn : Cond.instanceMethod yX1_goOn ∈ xtb := tw_r 433 (by decide +kernel) (by decide +kernel)
theorem wI_X7_element : Cond.instanceMethod yX7_element ∈ xtb := tw_r 438 (by decide +kernel) (by decide +kernel)
theorem wI_X1_withRank : Cond.instanceMethod yX1_withRank ∈ xtb := tw_r 442 (by decide +kernel) (by decide +kernel)
theorem wI_X7_image : Cond.instanceMethod yX7_image ∈ xtb := tw_r 450 (by decide +kernel) (by decide +kernel)
theorem wI_X7_isSet : Cond.instanceMethod yX7_isSet ∈ xtb := tw_r 455 (by decide +kernel) (by decide +kernel)
theorem wI_X7_least : Cond.instanceMethod yX7_least ∈ xtb := tw_r 459 (by decide +kernel) (by decide +kernel)
theorem wI_X7_images : Cond.instanceMethod yX7_images ∈ xtb := tw_r 464 (by decide +kernel) (by decide +kernel)
theorem wI_X0_countWith : Cond.instanceMethod yX0_countWith ∈ xtb := tw_r 468 (by decide +kernel) (by decide +kernel)
theorem wI_X0_start : Cond.instanceMethod yX0_start ∈ xtb := tw_r 473 (by decide +kernel) (by decide +kernel)
theorem wI_X0_nthWith : Cond.instanceMethod yX0_nthWith ∈ xtb := tw_r 482 (by decide +kernel) (by decide +kernel)
theorem wI_X7_carrier : Cond.instanceMethod yX7_carrier ∈ xtb := tw_r 486 (by decide +kernel) (by decide +kernel)
theorem wI_X0_firstMove : Cond.instanceMethod yX0_firstMove ∈ xtb := tw_r 491 (by decide +kernel) (by decide +kernel)
theorem wI_X0_goOnTowards : Cond.instanceMethod yX0_goOnTowards ∈ xtb := tw_r 497 (by decide +kernel) (by decide +kernel)
theorem wI_X7_holds : Cond.instanceMethod yX7_holds ∈ xtb := tw_r 503 (by decide +kernel) (by decide +kernel)
theorem wI_X7_heads : Cond.instanceMethod yX7_heads ∈ xtb := tw_r 507 (by decide +kernel) (by decide +kernel)
theorem wI_X0_countFirsts : Cond.instanceMethod yX0_countFirsts ∈ xtb := tw_r 511 (by decide +kernel) (by decide +kernel)
theorem wI_X0_isFirst : Cond.instanceMethod yX0_isFirst ∈ xtb := tw_r 516 (by decide +kernel) (by decide +kernel)
theorem wI_X0_nthFirst : Cond.instanceMethod yX0_nthFirst ∈ xtb := tw_r 519 (by decide +kernel) (by decide +kernel)
theorem wI_X7_head : Cond.instanceMethod yX7_head ∈ xtb := tw_r 523 (by decide +kernel) (by decide +kernel)
theorem wI_X0_placeOfFirst : Cond.instanceMethod yX0_placeOfFirst ∈ xtb := tw_r 527 (by decide +kernel) (by decide +kernel)
theorem wI_X7_type : Cond.instanceMethod yX7_type ∈ xtb := tw_r 531 (by decide +kernel) (by decide +kernel)
theorem wI_X6_add : Cond.instanceMethod yX6_add ∈ xtb := tw_r 535 (by decide +kernel) (by decide +kernel)
theorem wI_X7_clear : Cond.instanceMethod yX7_clear ∈ xtb := tw_r 539 (by decide +kernel) (by decide +kernel)
theorem wI_X7_reads : Cond.instanceMethod yX7_reads ∈ xtb := tw_r 543 (by decide +kernel) (by decide +kernel)
theorem wI_X3_read : Cond.instanceMethod yX3_read ∈ xtb := tw_r 547 (by decide +kernel) (by decide +kernel)
theorem wI_X6_at : Cond.instanceMethod yX6_at ∈ xtb := tw_r 552 (by decide +kernel) (by decide +kernel)
theorem wI_X3_takes : Cond.instanceMethod yX3_takes ∈ xtb := tw_r 557 (by decide +kernel) (by decide +kernel)
theorem wI_X3_takesLetter : Cond.instanceMethod yX3_takesLetter ∈ xtb := tw_r 561 (by decide +kernel) (by decide +kernel)
theorem wI_X3_takesFigure : Cond.instanceMethod yX3_takesFigure ∈ xtb := tw_r 565 (by decide +kernel) (by decide +kernel)
theorem wI_X3_isDue : Cond.instanceMethod yX3_isDue ∈ xtb := tw_r 569 (by decide +kernel) (by decide +kernel)
theorem wI_X3_takesEnd : Cond.instanceMethod yX3_takesEnd ∈ xtb := tw_r 573 (by decide +kernel) (by decide +kernel)
theorem wI_X3_obeys : Cond.instanceMethod yX3_obeys ∈ xtb := tw_r 577 (by decide +kernel) (by decide +kernel)
theorem wI_X7_back : Cond.instanceMethod yX7_back ∈ xtb := tw_r 585 (by decide +kernel) (by decide +kernel)
theorem wI_X5_pop : Cond.instanceMethod yX5_pop ∈ xtb := tw_r 589 (by decide +kernel) (by decide +kernel)
theorem wI_X7_told : Cond.instanceMethod yX7_told ∈ xtb := tw_r 593 (by decide +kernel) (by decide +kernel)
theorem wI_X7_tell : Cond.instanceMethod yX7_tell ∈ xtb := tw_r 598 (by decide +kernel) (by decide +kernel)
theorem wI_X7_digest : Cond.instanceMethod yX7_digest ∈ xtb := tw_r 601 (by decide +kernel) (by decide +kernel)
theorem wI_X0_digestFirsts : Cond.instanceMethod yX0_digestFirsts ∈ xtb := tw_r 608 (by decide +kernel) (by decide +kernel)
theorem wI_X8_init : Cond.instanceMethod yX8_init ∈ xtb := tw_r 616 (by decide +kernel) (by decide +kernel)
theorem wI_X8_back : Cond.instanceMethod yX8_back ∈ xtb := tw_r 710 (by decide +kernel) (by decide +kernel)
theorem wI_X8_refuses : Cond.instanceMethod yX8_refuses ∈ xtb := tw_r 715 (by decide +kernel) (by decide +kernel)
theorem wI_X8_points : Cond.instanceMethod yX8_points ∈ xtb := tw_r 718 (by decide +kernel) (by decide +kernel)
theorem wI_X8_hold : Cond.instanceMethod yX8_hold ∈ xtb := tw_r 723 (by decide +kernel) (by decide +kernel)
theorem wI_X8_doPoints : Cond.instanceMethod yX8_doPoints ∈ xtb := tw_r 727 (by decide +kernel) (by decide +kernel)
theorem wI_X8_ends : Cond.instanceMethod yX8_ends ∈ xtb := tw_r 734 (by decide +kernel) (by decide +kernel)
theorem wI_X8_push : Cond.instanceMethod yX8_push ∈ xtb := tw_r 738 (by decide +kernel) (by decide +kernel)
theorem wI_X8_moves : Cond.instanceMethod yX8_moves ∈ xtb := tw_r 741 (by decide +kernel) (by decide +kernel)
theorem wI_X8_doMoves : Cond.instanceMethod yX8_doMoves ∈ xtb := tw_r 746 (by decide +kernel) (by decide +kernel)
theorem wI_X8_isMove : Cond.instanceMethod yX8_isMove ∈ xtb := tw_r 750 (by decide +kernel) (by decide +kernel)
theorem wI_X8_open : Cond.instanceMethod yX8_open ∈ xtb := tw_r 754 (by decide +kernel) (by decide +kernel)
theorem wI_X8_drops : Cond.instanceMethod yX8_drops ∈ xtb := tw_r 757 (by decide +kernel) (by decide +kernel)
theorem wI_X8_doDrops : Cond.instanceMethod yX8_doDrops ∈ xtb := tw_r 762 (by decide +kernel) (by decide +kernel)
theorem wI_X8_order : Cond.instanceMethod yX8_order ∈ xtb := tw_r 765 (by decide +kernel) (by decide +kernel)
theorem wI_X8_lay : Cond.instanceMethod yX8_lay ∈ xtb := tw_r 770 (by decide +kernel) (by decide +kernel)
theorem wI_X8_mark : Cond.instanceMethod yX8_mark ∈ xtb := tw_r 774 (by decide +kernel) (by decide +kernel)
theorem wI_X8_codeAt : Cond.instanceMethod yX8_codeAt ∈ xtb := tw_r 778 (by decide +kernel) (by decide +kernel)
theorem wI_X8_placeOf : Cond.instanceMethod yX8_placeOf ∈ xtb := tw_r 782 (by decide +kernel) (by decide +kernel)
theorem wI_X8_sortMade : Cond.instanceMethod yX8_sortMade ∈ xtb := tw_r 786 (by decide +kernel) (by decide +kernel)
theorem wI_X8_findChains : Cond.instanceMethod yX8_findChains ∈ xtb := tw_r 790 (by decide +kernel) (by decide +kernel)
theorem wI_X8_of : Cond.instanceMethod yX8_of ∈ xtb := tw_r 793 (by decide +kernel) (by decide +kernel)
theorem wI_X8_ofPoint : Cond.instanceMethod yX8_ofPoint ∈ xtb := tw_r 798 (by decide +kernel) (by decide +kernel)
theorem wI_X8_number : Cond.instanceMethod yX8_number ∈ xtb := tw_r 807 (by decide +kernel) (by decide +kernel)
theorem wI_X8_element : Cond.instanceMethod yX8_element ∈ xtb := tw_r 811 (by decide +kernel) (by decide +kernel)
theorem wI_X8_image : Cond.instanceMethod yX8_image ∈ xtb := tw_r 815 (by decide +kernel) (by decide +kernel)
theorem wI_X8_isSet : Cond.instanceMethod yX8_isSet ∈ xtb := tw_r 820 (by decide +kernel) (by decide +kernel)
theorem wI_X8_imageOf : Cond.instanceMethod yX8_imageOf ∈ xtb := tw_r 824 (by decide +kernel) (by decide +kernel)
theorem wI_X8_least : Cond.instanceMethod yX8_least ∈ xtb := tw_r 827 (by decide +kernel) (by decide +kernel)
theorem wI_X8_leastOf : Cond.instanceMethod yX8_leastOf ∈ xtb := tw_r 832 (by decide +kernel) (by decide +kernel)
theorem wI_X8_sortSets : Cond.instanceMethod yX8_sortSets ∈ xtb := tw_r 836 (by decide +kernel) (by decide +kernel)
theorem wI_X8_findImages : Cond.instanceMethod yX8_findImages ∈ xtb := tw_r 846 (by decide +kernel) (by decide +kernel)
theorem wI_X8_carry : Cond.instanceMethod yX8_carry ∈ xtb := tw_r 850 (by decide +kernel) (by decide +kernel)
theorem wI_X8_images : Cond.instanceMethod yX8_images ∈ xtb := tw_r 853 (by decide +kernel) (by decide +kernel)
theorem wI_X8_carrier : Cond.instanceMethod yX8_carrier ∈ xtb := tw_r 857 (by decide +kernel) (by decide +kernel)
theorem wI_X8_holds : Cond.instanceMethod yX8_holds ∈ xtb := tw_r 861 (by decide +kernel) (by decide +kernel)
theorem wI_X8_heads : Cond.instanceMethod yX8_heads ∈ xtb := tw_r 865 (by decide +kernel) (by decide +kernel)
theorem wI_X8_headsOf : Cond.instanceMethod yX8_headsOf ∈ xtb := tw_r 870 (by decide +kernel) (by decide +kernel)
theorem wI_X8_head : Cond.instanceMethod yX8_head ∈ xtb := tw_r 873 (by decide +kernel) (by decide +kernel)
theorem wI_X8_type : Cond.instanceMethod yX8_type ∈ xtb := tw_r 877 (by decide +kernel) (by decide +kernel)
theorem wI_X8_clear : Cond.instanceMethod yX8_clear ∈ xtb := tw_r 881 (by decide +kernel) (by decide +kernel)
theorem wI_X8_reads : Cond.instanceMethod yX8_reads ∈ xtb := tw_r 885 (by decide +kernel) (by decide +kernel)
theorem wI_X8_here : Cond.instanceMethod yX8_here ∈ xtb := tw_r 890 (by decide +kernel) (by decide +kernel)
theorem wI_X8_readOrder : Cond.instanceMethod yX8_readOrder ∈ xtb := tw_r 894 (by decide +kernel) (by decide +kernel)
theorem wI_X8_must : Cond.instanceMethod yX8_must ∈ xtb := tw_r 898 (by decide +kernel) (by decide +kernel)
theorem wI_X8_readMove : Cond.instanceMethod yX8_readMove ∈ xtb := tw_r 902 (by decide +kernel) (by decide +kernel)
theorem wI_X8_figure : Cond.instanceMethod yX8_figure ∈ xtb := tw_r 906 (by decide +kernel) (by decide +kernel)
theorem wI_X8_doOrder : Cond.instanceMethod yX8_doOrder ∈ xtb := tw_r 910 (by decide +kernel) (by decide +kernel)
theorem wI_X8_told : Cond.instanceMethod yX8_told ∈ xtb := tw_r 913 (by decide +kernel) (by decide +kernel)
theorem wI_X8_toldOf : Cond.instanceMethod yX8_toldOf ∈ xtb := tw_r 918 (by decide +kernel) (by decide +kernel)
theorem wI_X8_digest : Cond.instanceMethod yX8_digest ∈ xtb := tw_r 921 (by decide +kernel) (by decide +kernel)
theorem wI_X8_mix : Cond.instanceMethod yX8_mix ∈ xtb := tw_r 927 (by decide +kernel) (by decide +kernel)
theorem wS_X7_points : Cond.selects RX7 yX7_points yX7_points ∈ xtb := tw_r 263 (by decide +kernel) (by decide +kernel)
theorem wS_X5_push : Cond.selects RX5 yX5_push yX5_push ∈ xtb := tw_r 275 (by decide +kernel) (by decide +kernel)
theorem wS_X4_copy : Cond.selects RX4 yX4_copy yX4_copy ∈ xtb := tw_r 283 (by decide +kernel) (by decide +kernel)
theorem wS_X4_start : Cond.selects RX4 yX4_start yX4_start ∈ xtb := tw_r 290 (by decide +kernel) (by decide +kernel)
theorem wS_X7_moves : Cond.selects RX7 yX7_moves yX7_moves ∈ xtb := tw_r 294 (by decide +kernel) (by decide +kernel)
theorem wS_X4_adds : Cond.selects RX4 yX4_adds yX4_adds ∈ xtb := tw_r 302 (by decide +kernel) (by decide +kernel)
theorem wS_X7_drops : Cond.selects RX7 yX7_drops yX7_drops ∈ xtb := tw_r 306 (by decide +kernel) (by decide +kernel)
theorem wS_X4_loses : Cond.selects RX4 yX4_loses yX4_loses ∈ xtb := tw_r 310 (by decide +kernel) (by decide +kernel)
theorem wS_X7_order : Cond.selects RX7 yX7_order yX7_order ∈ xtb := tw_r 314 (by decide +kernel) (by decide +kernel)
theorem wS_X1_make : Cond.selects RX1 yX1_make yX1_make ∈ xtb := tw_r 322 (by decide +kernel) (by decide +kernel)
theorem wS_X4_generator : Cond.selects RX4 yX4_generator yX4_generator ∈ xtb := tw_r 327 (by decide +kernel) (by decide +kernel)
theorem wS_X0_make : Cond.selects RX0 yX0_make yX0_make ∈ xtb := tw_r 359 (by decide +kernel) (by decide +kernel)
theorem wS_X1_chain : Cond.selects RX1 yX1_chain yX1_chain ∈ xtb := tw_r 380 (by decide +kernel) (by decide +kernel)
theorem wS_X1_step : Cond.selects RX1 yX1_step yX1_step ∈ xtb := tw_r 384 (by decide +kernel) (by decide +kernel)
theorem wS_X1_howMany : Cond.selects RX1 yX1_howMany yX1_howMany ∈ xtb := tw_r 395 (by decide +kernel) (by decide +kernel)
theorem wS_X7_of : Cond.selects RX7 yX7_of yX7_of ∈ xtb := tw_r 399 (by decide +kernel) (by decide +kernel)
theorem wS_X0_orbit : Cond.selects RX0 yX0_orbit yX0_orbit ∈ xtb := tw_r 407 (by decide +kernel) (by decide +kernel)
theorem wS_X0_first : Cond.selects RX0 yX0_first yX0_first ∈ xtb := tw_r 411 (by decide +kernel) (by decide +kernel)
theorem wS_X0_leastPoint : Cond.selects RX0 yX0_leastPoint yX0_leastPoint ∈ xtb := tw_r 416 (by decide +kernel) (by decide +kernel)
theorem wS_X7_number : Cond.selects RX7 yX7_number yX7_number ∈ xtb := tw_r 420 (by decide +kernel) (by decide +kernel)
theorem wS_X1_rank : Cond.selects RX1 yX1_rank yX1_rank ∈ xtb := tw_r 424 (by decide +kernel) (by decide +kernel)
theorem wS_X1_choices : Cond.selects RX1 yX1_choices yX1_choices ∈ xtb := tw_r 428 (by decide +kernel) (by decide +kernel)
theorem wS_X1_goOn : Cond.selects RX1 yX1_goOn yX1_goOn ∈ xtb := tw_r 434 (by decide +kernel) (by decide +kernel)
theorem wS_X7_element : Cond.selects RX7 yX7_element yX7_element ∈ xtb := tw_r 439 (by decide +kernel) (by decide +kernel)
theorem wS_X1_withRank : Cond.selects RX1 yX1_withRank yX1_withRank ∈ xtb := tw_r 443 (by decide +kernel) (by decide +kernel)
theorem wS_X7_image : Cond.selects RX7 yX7_image yX7_image ∈ xtb := tw_r 451 (by decide +kernel) (by decide +kernel)
theorem wS_X7_least : Cond.selects RX7 yX7_least yX7_least ∈ xtb := tw_r 460 (by decide +kernel) (by decide +kernel)
theorem wS_X7_images : Cond.selects RX7 yX7_images yX7_images ∈ xtb := tw_r 465 (by decide +kernel) (by decide +kernel)
theorem wS_X0_countWith : Cond.selects RX0 yX0_countWith yX0_countWith ∈ xtb := tw_r 469 (by decide +kernel) (by decide +kernel)
theorem wS_X0_nthWith : Cond.selects RX0 yX0_nthWith yX0_nthWith ∈ xtb := tw_r 483 (by decide +kernel) (by decide +kernel)
theorem wS_X7_carrier : Cond.selects RX7 yX7_carrier yX7_carrier ∈ xtb := tw_r 487 (by decide +kernel) (by decide +kernel)
theorem wS_X0_firstMove : Cond.selects RX0 yX0_firstMove yX0_firstMove ∈ xtb := tw_r 492 (by decide +kernel) (by decide +kernel)
theorem wS_X7_holds : Cond.selects RX7 yX7_holds yX7_holds ∈ xtb := tw_r 504 (by decide +kernel) (by decide +kernel)
theorem wS_X7_heads : Cond.selects RX7 yX7_heads yX7_heads ∈ xtb := tw_r 508 (by decide +kernel) (by decide +kernel)
theorem wS_X0_countFirsts : Cond.selects RX0 yX0_countFirsts yX0_countFirsts ∈ xtb := tw_r 512 (by decide +kernel) (by decide +kernel)
theorem wS_X0_nthFirst : Cond.selects RX0 yX0_nthFirst yX0_nthFirst ∈ xtb := tw_r 520 (by decide +kernel) (by decide +kernel)
theorem wS_X7_head : Cond.selects RX7 yX7_head yX7_head ∈ xtb := tw_r 524 (by decide +kernel) (by decide +kernel)
theorem wS_X0_placeOfFirst : Cond.selects RX0 yX0_placeOfFirst yX0_placeOfFirst ∈ xtb := tw_r 528 (by decide +kernel) (by decide +kernel)
theorem wS_X7_type : Cond.selects RX7 yX7_type yX7_type ∈ xtb := tw_r 532 (by decide +kernel) (by decide +kernel)
theorem wS_X6_add : Cond.selects RX6 yX6_add yX6_add ∈ xtb := tw_r 536 (by decide +kernel) (by decide +kernel)
theorem wS_X7_clear : Cond.selects RX7 yX7_clear yX7_clear ∈ xtb := tw_r 540 (by decide +kernel) (by decide +kernel)
theorem wS_X7_reads : Cond.selects RX7 yX7_reads yX7_reads ∈ xtb := tw_r 544 (by decide +kernel) (by decide +kernel)
theorem wS_X3_read : Cond.selects RX3 yX3_read yX3_read ∈ xtb := tw_r 548 (by decide +kernel) (by decide +kernel)
theorem wS_X6_at : Cond.selects RX6 yX6_at yX6_at ∈ xtb := tw_r 553 (by decide +kernel) (by decide +kernel)
theorem wS_X7_back : Cond.selects RX7 yX7_back yX7_back ∈ xtb := tw_r 586 (by decide +kernel) (by decide +kernel)
theorem wS_X5_pop : Cond.selects RX5 yX5_pop yX5_pop ∈ xtb := tw_r 590 (by decide +kernel) (by decide +kernel)
theorem wS_X7_told : Cond.selects RX7 yX7_told yX7_told ∈ xtb := tw_r 594 (by decide +kernel) (by decide +kernel)
theorem wS_X7_digest : Cond.selects RX7 yX7_digest yX7_digest ∈ xtb := tw_r 602 (by decide +kernel) (by decide +kernel)
theorem wS_X0_digestFirsts : Cond.selects RX0 yX0_digestFirsts yX0_digestFirsts ∈ xtb := tw_r 609 (by decide +kernel) (by decide +kernel)
theorem wS_X8_back : Cond.selects RX8 yX8_back yX8_back ∈ xtb := tw_r 711 (by decide +kernel) (by decide +kernel)
theorem wS_X8_points : Cond.selects RX8 yX8_points yX8_points ∈ xtb := tw_r 719 (by decide +kernel) (by decide +kernel)
theorem wS_X8_moves : Cond.selects RX8 yX8_moves yX8_moves ∈ xtb := tw_r 742 (by decide +kernel) (by decide +kernel)
theorem wS_X8_drops : Cond.selects RX8 yX8_drops yX8_drops ∈ xtb := tw_r 758 (by decide +kernel) (by decide +kernel)
theorem wS_X8_order : Cond.selects RX8 yX8_order yX8_order ∈ xtb := tw_r 766 (by decide +kernel) (by decide +kernel)
theorem wS_X8_of : Cond.selects RX8 yX8_of yX8_of ∈ xtb := tw_r 794 (by decide +kernel) (by decide +kernel)
theorem wS_X8_number : Cond.selects RX8 yX8_number yX8_number ∈ xtb := tw_r 808 (by decide +kernel) (by decide +kernel)
theorem wS_X8_element : Cond.selects RX8 yX8_element yX8_element ∈ xtb := tw_r 812 (by decide +kernel) (by decide +kernel)
theorem wS_X8_image : Cond.selects RX8 yX8_image yX8_image ∈ xtb := tw_r 816 (by decide +kernel) (by decide +kernel)
theorem wS_X8_least : Cond.selects RX8 yX8_least yX8_least ∈ xtb := tw_r 828 (by decide +kernel) (by decide +kernel)
theorem wS_X8_images : Cond.selects RX8 yX8_images yX8_images ∈ xtb := tw_r 854 (by decide +kernel) (by decide +kernel)
theorem wS_X8_carrier : Cond.selects RX8 yX8_carrier yX8_carrier ∈ xtb := tw_r 858 (by decide +kernel) (by decide +kernel)
theorem wS_X8_holds : Cond.selects RX8 yX8_holds yX8_holds ∈ xtb := tw_r 862 (by decide +kernel) (by decide +kernel)
theorem wS_X8_heads : Cond.selects RX8 yX8_heads yX8_heads ∈ xtb := tw_r 866 (by decide +kernel) (by decide +kernel)
theorem wS_X8_head : Cond.selects RX8 yX8_head yX8_head ∈ xtb := tw_r 874 (by decide +kernel) (by decide +kernel)
theorem wS_X8_type : Cond.selects RX8 yX8_type yX8_type ∈ xtb := tw_r 878 (by decide +kernel) (by decide +kernel)
theorem wS_X8_clear : Cond.selects RX8 yX8_clear yX8_clear ∈ xtb := tw_r 882 (by decide +kernel) (by decide +kernel)
theorem wS_X8_reads : Cond.selects RX8 yX8_reads yX8_reads ∈ xtb := tw_r 886 (by decide +kernel) (by decide +kernel)
theorem wS_X8_told : Cond.selects RX8 yX8_told yX8_told ∈ xtb := tw_r 914 (by decide +kernel) (by decide +kernel)
theorem wS_X8_digest : Cond.selects RX8 yX8_digest yX8_digest ∈ xtb := tw_r 922 (by decide +kernel) (by decide +kernel)
theorem wS_X7_refuse : Cond.selects RX7 yX7_refuse yX7_refuse ∈ xtb := tw_r 0 (by decide +kernel) (by decide +kernel)
theorem wS_X7_keepState : Cond.selects RX7 yX7_keepState yX7_keepState ∈ xtb := tw_r 1 (by decide +kernel) (by decide +kernel)
theorem wS_X5_loseOldest : Cond.selects RX5 yX5_loseOldest yX5_loseOldest ∈ xtb := tw_r 2 (by decide +kernel) (by decide +kernel)
theorem wS_X7_fit : Cond.selects RX7 yX7_fit yX7_fit ∈ xtb := tw_r 3 (by decide +kernel) (by decide +kernel)
theorem wS_X1_take : Cond.selects RX1 yX1_take yX1_take ∈ xtb := tw_r 4 (by decide +kernel) (by decide +kernel)
theorem wS_X1_addStep : Cond.selects RX1 yX1_addStep yX1_addStep ∈ xtb := tw_r 5 (by decide +kernel) (by decide +kernel)
theorem wS_X1_closeSteps : Cond.selects RX1 yX1_closeSteps yX1_closeSteps ∈ xtb := tw_r 6 (by decide +kernel) (by decide +kernel)
theorem wS_X0_arrange : Cond.selects RX0 yX0_arrange yX0_arrange ∈ xtb := tw_r 7 (by decide +kernel) (by decide +kernel)
theorem wS_X0_turnRound : Cond.selects RX0 yX0_turnRound yX0_turnRound ∈ xtb := tw_r 8 (by decide +kernel) (by decide +kernel)
theorem wS_X0_spread : Cond.selects RX0 yX0_spread yX0_spread ∈ xtb := tw_r 9 (by decide +kernel) (by decide +kernel)
theorem wS_X0_reach : Cond.selects RX0 yX0_reach yX0_reach ∈ xtb := tw_r 10 (by decide +kernel) (by decide +kernel)
theorem wS_X0_spreadBy : Cond.selects RX0 yX0_spreadBy yX0_spreadBy ∈ xtb := tw_r 11 (by decide +kernel) (by decide +kernel)
theorem wS_X7_tellPoint : Cond.selects RX7 yX7_tellPoint yX7_tellPoint ∈ xtb := tw_r 12 (by decide +kernel) (by decide +kernel)
theorem wS_X7_isSet : Cond.selects RX7 yX7_isSet yX7_isSet ∈ xtb := tw_r 13 (by decide +kernel) (by decide +kernel)
theorem wS_X0_start : Cond.selects RX0 yX0_start yX0_start ∈ xtb := tw_r 14 (by decide +kernel) (by decide +kernel)
theorem wS_X0_goOnTowards : Cond.selects RX0 yX0_goOnTowards yX0_goOnTowards ∈ xtb := tw_r 15 (by decide +kernel) (by decide +kernel)
theorem wS_X0_isFirst : Cond.selects RX0 yX0_isFirst yX0_isFirst ∈ xtb := tw_r 16 (by decide +kernel) (by decide +kernel)
theorem wS_X3_takes : Cond.selects RX3 yX3_takes yX3_takes ∈ xtb := tw_r 17 (by decide +kernel) (by decide +kernel)
theorem wS_X3_takesLetter : Cond.selects RX3 yX3_takesLetter yX3_takesLetter ∈ xtb := tw_r 18 (by decide +kernel) (by decide +kernel)
theorem wS_X3_takesFigure : Cond.selects RX3 yX3_takesFigure yX3_takesFigure ∈ xtb := tw_r 19 (by decide +kernel) (by decide +kernel)
theorem wS_X3_isDue : Cond.selects RX3 yX3_isDue yX3_isDue ∈ xtb := tw_r 20 (by decide +kernel) (by decide +kernel)
theorem wS_X3_takesEnd : Cond.selects RX3 yX3_takesEnd yX3_takesEnd ∈ xtb := tw_r 21 (by decide +kernel) (by decide +kernel)
theorem wS_X3_obeys : Cond.selects RX3 yX3_obeys yX3_obeys ∈ xtb := tw_r 22 (by decide +kernel) (by decide +kernel)
theorem wS_X7_tell : Cond.selects RX7 yX7_tell yX7_tell ∈ xtb := tw_r 23 (by decide +kernel) (by decide +kernel)
theorem wS_X8_refuses : Cond.selects RX8 yX8_refuses yX8_refuses ∈ xtb := tw_r 24 (by decide +kernel) (by decide +kernel)
theorem wS_X8_hold : Cond.selects RX8 yX8_hold yX8_hold ∈ xtb := tw_r 25 (by decide +kernel) (by decide +kernel)
theorem wS_X8_doPoints : Cond.selects RX8 yX8_doPoints yX8_doPoints ∈ xtb := tw_r 26 (by decide +kernel) (by decide +kernel)
theorem wS_X8_ends : Cond.selects RX8 yX8_ends yX8_ends ∈ xtb := tw_r 27 (by decide +kernel) (by decide +kernel)
theorem wS_X8_push : Cond.selects RX8 yX8_push yX8_push ∈ xtb := tw_r 28 (by decide +kernel) (by decide +kernel)
theorem wS_X8_doMoves : Cond.selects RX8 yX8_doMoves yX8_doMoves ∈ xtb := tw_r 29 (by decide +kernel) (by decide +kernel)
theorem wS_X8_isMove : Cond.selects RX8 yX8_isMove yX8_isMove ∈ xtb := tw_r 30 (by decide +kernel) (by decide +kernel)
theorem wS_X8_open : Cond.selects RX8 yX8_open yX8_open ∈ xtb := tw_r 31 (by decide +kernel) (by decide +kernel)
theorem wS_X8_doDrops : Cond.selects RX8 yX8_doDrops yX8_doDrops ∈ xtb := tw_r 32 (by decide +kernel) (by decide +kernel)
theorem wS_X8_lay : Cond.selects RX8 yX8_lay yX8_lay ∈ xtb := tw_r 33 (by decide +kernel) (by decide +kernel)
theorem wS_X8_mark : Cond.selects RX8 yX8_mark yX8_mark ∈ xtb := tw_r 34 (by decide +kernel) (by decide +kernel)
theorem wS_X8_codeAt : Cond.selects RX8 yX8_codeAt yX8_codeAt ∈ xtb := tw_r 35 (by decide +kernel) (by decide +kernel)
theorem wS_X8_placeOf : Cond.selects RX8 yX8_placeOf yX8_placeOf ∈ xtb := tw_r 36 (by decide +kernel) (by decide +kernel)
theorem wS_X8_sortMade : Cond.selects RX8 yX8_sortMade yX8_sortMade ∈ xtb := tw_r 37 (by decide +kernel) (by decide +kernel)
theorem wS_X8_findChains : Cond.selects RX8 yX8_findChains yX8_findChains ∈ xtb := tw_r 38 (by decide +kernel) (by decide +kernel)
theorem wS_X8_ofPoint : Cond.selects RX8 yX8_ofPoint yX8_ofPoint ∈ xtb := tw_r 39 (by decide +kernel) (by decide +kernel)
theorem wS_X8_isSet : Cond.selects RX8 yX8_isSet yX8_isSet ∈ xtb := tw_r 40 (by decide +kernel) (by decide +kernel)
theorem wS_X8_imageOf : Cond.selects RX8 yX8_imageOf yX8_imageOf ∈ xtb := tw_r 41 (by decide +kernel) (by decide +kernel)
theorem wS_X8_leastOf : Cond.selects RX8 yX8_leastOf yX8_leastOf ∈ xtb := tw_r 42 (by decide +kernel) (by decide +kernel)
theorem wS_X8_sortSets : Cond.selects RX8 yX8_sortSets yX8_sortSets ∈ xtb := tw_r 43 (by decide +kernel) (by decide +kernel)
theorem wS_X8_findImages : Cond.selects RX8 yX8_findImages yX8_findImages ∈ xtb := tw_r 44 (by decide +kernel) (by decide +kernel)
theorem wS_X8_carry : Cond.selects RX8 yX8_carry yX8_carry ∈ xtb := tw_r 45 (by decide +kernel) (by decide +kernel)
theorem wS_X8_headsOf : Cond.selects RX8 yX8_headsOf yX8_headsOf ∈ xtb := tw_r 46 (by decide +kernel) (by decide +kernel)
theorem wS_X8_here : Cond.selects RX8 yX8_here yX8_here ∈ xtb := tw_r 47 (by decide +kernel) (by decide +kernel)
theorem wS_X8_readOrder : Cond.selects RX8 yX8_readOrder yX8_readOrder ∈ xtb := tw_r 48 (by decide +kernel) (by decide +kernel)
theorem wS_X8_must : Cond.selects RX8 yX8_must yX8_must ∈ xtb := tw_r 49 (by decide +kernel) (by decide +kernel)
theorem wS_X8_readMove : Cond.selects RX8 yX8_readMove yX8_readMove ∈ xtb := tw_r 50 (by decide +kernel) (by decide +kernel)
theorem wS_X8_figure : Cond.selects RX8 yX8_figure yX8_figure ∈ xtb := tw_r 51 (by decide +kernel) (by decide +kernel)
theorem wS_X8_doOrder : Cond.selects RX8 yX8_doOrder yX8_doOrder ∈ xtb := tw_r 52 (by decide +kernel) (by decide +kernel)
theorem wS_X8_toldOf : Cond.selects RX8 yX8_toldOf yX8_toldOf ∈ xtb := tw_r 53 (by decide +kernel) (by decide +kernel)
theorem wS_X8_mix : Cond.selects RX8 yX8_mix yX8_mix ∈ xtb := tw_r 54 (by decide +kernel) (by decide +kernel)
theorem wT_J7_fill_53178 : Cond.static yJ7_fill_53178 ∈ xtb := tw_r 206 (by decide +kernel) (by decide +kernel)
theorem wT_sys_copy : Cond.static ⟨"java/lang/System", "arraycopy", "(Ljava/lang/Object;ILjava/lang/Object;II)V"⟩ ∈ xtb := tw_r 286 (by decide +kernel) (by decide +kernel)
theorem wT_X2_read : Cond.static yX2_read ∈ xtb := tw_r 297 (by decide +kernel) (by decide +kernel)
theorem wT_X2_at : Cond.static yX2_at ∈ xtb := tw_r 335 (by decide +kernel) (by decide +kernel)
theorem wT_X2_inverse : Cond.static yX2_inverse ∈ xtb := tw_r 342 (by decide +kernel) (by decide +kernel)
theorem wT_X2_then : Cond.static yX2_then ∈ xtb := tw_r 345 (by decide +kernel) (by decide +kernel)
theorem wT_J6_bitCount_0f7a4 : Cond.static yJ6_bitCount_0f7a4 ∈ xtb := tw_r 352 (by decide +kernel) (by decide +kernel)
theorem wT_X2_carry : Cond.static yX2_carry ∈ xtb := tw_r 391 (by decide +kernel) (by decide +kernel)
theorem wT_X2_write : Cond.static yX2_write ∈ xtb := tw_r 446 (by decide +kernel) (by decide +kernel)
theorem wT_J9_min_7cf53 : Cond.static yJ9_min_7cf53 ∈ xtb := tw_r 476 (by decide +kernel) (by decide +kernel)
theorem wT_J9_max_7cf53 : Cond.static yJ9_max_7cf53 ∈ xtb := tw_r 479 (by decide +kernel) (by decide +kernel)
theorem wT_X8_in : Cond.static yX8_in ∈ xtb := tw_r 730 (by decide +kernel) (by decide +kernel)
theorem wT_X8_lowest : Cond.static yX8_lowest ∈ xtb := tw_r 801 (by decide +kernel) (by decide +kernel)
theorem wT_X8_has : Cond.static yX8_has ∈ xtb := tw_r 804 (by decide +kernel) (by decide +kernel)
theorem wT_X8_turned : Cond.static yX8_turned ∈ xtb := tw_r 839 (by decide +kernel) (by decide +kernel)
theorem wT_X8_size : Cond.static yX8_size ∈ xtb := tw_r 842 (by decide +kernel) (by decide +kernel)
theorem wN_L : Cond.initialized RL ∈ xtb := tw_r 55 (by decide +kernel) (by decide +kernel)
theorem wN_X7 : Cond.initialized RX7 ∈ xtb := tw_r 56 (by decide +kernel) (by decide +kernel)
theorem wN_X4 : Cond.initialized RX4 ∈ xtb := tw_r 57 (by decide +kernel) (by decide +kernel)
theorem wN_X5 : Cond.initialized RX5 ∈ xtb := tw_r 58 (by decide +kernel) (by decide +kernel)
theorem wN_X6 : Cond.initialized RX6 ∈ xtb := tw_r 59 (by decide +kernel) (by decide +kernel)
theorem wN_X3 : Cond.initialized RX3 ∈ xtb := tw_r 60 (by decide +kernel) (by decide +kernel)
theorem wN_X1 : Cond.initialized RX1 ∈ xtb := tw_r 61 (by decide +kernel) (by decide +kernel)
theorem wN_X0 : Cond.initialized RX0 ∈ xtb := tw_r 62 (by decide +kernel) (by decide +kernel)
theorem wN_J7 : Cond.initialized RJ7 ∈ xtb := tw_r 63 (by decide +kernel) (by decide +kernel)
theorem wN_X8 : Cond.initialized RX8 ∈ xtb := tw_r 64 (by decide +kernel) (by decide +kernel)
theorem wN_J10 : Cond.initialized RJ10 ∈ xtb := tw_r 65 (by decide +kernel) (by decide +kernel)
theorem wN_X2 : Cond.initialized RX2 ∈ xtb := tw_r 66 (by decide +kernel) (by decide +kernel)
theorem wN_J6 : Cond.initialized RJ6 ∈ xtb := tw_r 67 (by decide +kernel) (by decide +kernel)
theorem wN_J9 : Cond.initialized RJ9 ∈ xtb := tw_r 68 (by decide +kernel) (by decide +kernel)
theorem kI_X2_11 : Cond.constant RX2 11 (16434824 : Int32) ∈ xtb := tw_r 299 (by decide +kernel) (by decide +kernel)
theorem kI_X1_42 : Cond.constant RX1 42 (16434824 : Int32) ∈ xtb := tw_r 324 (by decide +kernel) (by decide +kernel)
theorem kI_X4_24 : Cond.constant RX4 24 (16434824 : Int32) ∈ xtb := tw_r 329 (by decide +kernel) (by decide +kernel)
theorem kI_J6_265 : Cond.constant RJ6 265 (1431655765 : Int32) ∈ xtb := tw_r 354 (by decide +kernel) (by decide +kernel)
theorem kI_J6_266 : Cond.constant RJ6 266 (858993459 : Int32) ∈ xtb := tw_r 355 (by decide +kernel) (by decide +kernel)
theorem kI_J6_267 : Cond.constant RJ6 267 (252645135 : Int32) ∈ xtb := tw_r 356 (by decide +kernel) (by decide +kernel)
theorem kI_X0_78 : Cond.constant RX0 78 (16434824 : Int32) ∈ xtb := tw_r 494 (by decide +kernel) (by decide +kernel)
theorem kI_X8_25 : Cond.constant RX8 25 (40320 : Int32) ∈ xtb := tw_r 619 (by decide +kernel) (by decide +kernel)
theorem kJ_X7_176 : Cond.constantLong RX7 176 (2477 : Int64) ∈ xtb := tw_r 604 (by decide +kernel) (by decide +kernel)
theorem kJ_X7_178 : Cond.constantLong RX7 178 (31 : Int64) ∈ xtb := tw_r 605 (by decide +kernel) (by decide +kernel)
theorem kJ_X0_111 : Cond.constantLong RX0 111 (31 : Int64) ∈ xtb := tw_r 611 (by decide +kernel) (by decide +kernel)
theorem kJ_X8_217 : Cond.constantLong RX8 217 (2477 : Int64) ∈ xtb := tw_r 924 (by decide +kernel) (by decide +kernel)
theorem kJ_X8_211 : Cond.constantLong RX8 211 (31 : Int64) ∈ xtb := tw_r 929 (by decide +kernel) (by decide +kernel)
theorem lkC_L_7 : Cond.classLink RL 7 RX7 ∈ xtb := tw_r 69 (by decide +kernel) (by decide +kernel)
theorem lkC_X7_7 : Cond.classLink RX7 7 RX4 ∈ xtb := tw_r 77 (by decide +kernel) (by decide +kernel)
theorem lkC_X7_16 : Cond.classLink RX7 16 RX5 ∈ xtb := tw_r 99 (by decide +kernel) (by decide +kernel)
theorem lkC_X5_15 : Cond.classLink RX5 15 RX4 ∈ xtb := tw_r 105 (by decide +kernel) (by decide +kernel)
theorem lkC_X7_23 : Cond.classLink RX7 23 RX6 ∈ xtb := tw_r 116 (by decide +kernel) (by decide +kernel)
theorem lkC_X7_30 : Cond.classLink RX7 30 RX3 ∈ xtb := tw_r 132 (by decide +kernel) (by decide +kernel)
theorem lkC_X3_9 : Cond.classLink RX3 9 RX4 ∈ xtb := tw_r 138 (by decide +kernel) (by decide +kernel)
theorem lkC_X7_37 : Cond.classLink RX7 37 RX1 ∈ xtb := tw_r 168 (by decide +kernel) (by decide +kernel)
theorem lkC_X7_44 : Cond.classLink RX7 44 RX0 ∈ xtb := tw_r 199 (by decide +kernel) (by decide +kernel)
theorem lkC_L_10 : Cond.classLink RL 10 RX8 ∈ xtb := tw_r 613 (by decide +kernel) (by decide +kernel)
theorem wB_X7 : Cond.instantiable RX7 10 ∈ xtb := tw_r 70 (by decide +kernel) (by decide +kernel)
theorem wB_X4 : Cond.instantiable RX4 3 ∈ xtb := tw_r 78 (by decide +kernel) (by decide +kernel)
theorem wB_X5 : Cond.instantiable RX5 2 ∈ xtb := tw_r 100 (by decide +kernel) (by decide +kernel)
theorem wB_X6 : Cond.instantiable RX6 2 ∈ xtb := tw_r 117 (by decide +kernel) (by decide +kernel)
theorem wB_X3 : Cond.instantiable RX3 8 ∈ xtb := tw_r 133 (by decide +kernel) (by decide +kernel)
theorem wB_X1 : Cond.instantiable RX1 8 ∈ xtb := tw_r 169 (by decide +kernel) (by decide +kernel)
theorem wB_X0 : Cond.instantiable RX0 7 ∈ xtb := tw_r 200 (by decide +kernel) (by decide +kernel)
theorem wB_X8 : Cond.instantiable RX8 29 ∈ xtb := tw_r 614 (by decide +kernel) (by decide +kernel)
theorem wAC_int : Cond.arrayClass .int ∈ xtb := tw_r 98 (by decide +kernel) (by decide +kernel)
theorem wAO_Setup : Cond.arrayOver (.object "CarriedSets$Setup") ∈ lw_tbl := List.mem_of_getElem? (i := 106) (by decide +kernel)
theorem wAC_byte : Cond.arrayClass .byte ∈ xtb := tw_r 131 (by decide +kernel) (by decide +kernel)
theorem wNat_copy : Cond.native arraycopyName ∈ xtb := tw_r 287 (by decide +kernel) (by decide +kernel)
theorem wAC_boolean : Cond.arrayClass .boolean ∈ xtb := tw_r 708 (by decide +kernel) (by decide +kernel)
end
section
-- branches, checks, sequences and loops of pure functions
noncomputable def xb {α : Type} (c : Prop) (a b : α) : α := @ite α c (Classical.propDecidable c) a b
theorem xb_t {α : Type} {c : Prop} {a b : α} (h : c) : xb c a b = a := by unfold xb; exact if_pos h
theorem xb_f {α : Type} {c : Prop} {a b : α} (h : ¬ c) : xb c a b = b := by unfold xb; exact if_neg h
theorem xb_tt {α : Type} {c : Prop} {a b r : α} (hc : c) (h : xb c a b = r) : a = r := (xb_t hc).symm.trans h
theorem xb_ff {α : Type} {c : Prop} {a b r : α} (hc : ¬ c) (h : xb c a b = r) : b = r := (xb_f hc).symm.trans h
noncomputable def xk {α : Type} (c : Prop) (x : Option α) : Option α := xb c x none
theorem xk_t {α : Type} {c : Prop} {x : Option α} (h : c) : xk c x = x := xb_t h
theorem xk_i {α : Type} {c : Prop} {x : Option α} {r : α} (h : xk c x = some r) : c ∧ x = some r := by
  rcases Classical.em c with q | q
  · exact ⟨q, (xk_t q).symm.trans h⟩
  · have h2 : (none : Option α) = some r := (xb_f q).symm.trans h
    cases h2
def xn {α β : Type} (x : Option α) (f : α → Option β) : Option β := match x with
  | none => none
  | some a => f a
theorem xn_i {α β : Type} {x : Option α} {f : α → Option β} {r : β} (h : xn x f = some r) : ∃ a, x = some a ∧ f a = some r := by
  cases x with
  | none => cases h
  | some a => exact ⟨a, rfl, h⟩
theorem xn_s {α β : Type} {x : Option α} {f : α → Option β} {a : α} (h : x = some a) : xn x f = f a := by rw [h]; rfl
def xl {S R : Type} (body : S → Option (S ⊕ R)) : Nat → S → Option R
  | 0, _ => none
  | n + 1, s => xn (body s) (fun o => match o with
    | .inl s' => xl body n s'
    | .inr r => some r)
theorem xl_l {S R : Type} {body : S → Option (S ⊕ R)} {n : Nat} {s s' : S} (h : body s = some (.inl s')) : xl body (n + 1) s = xl body n s' := by rw [xl, xn_s h]
theorem xl_r {S R : Type} {body : S → Option (S ⊕ R)} {n : Nat} {s : S} {r : R} (h : body s = some (.inr r)) : xl body (n + 1) s = some r := by rw [xl, xn_s h]
theorem xl_i {S R : Type} {body : S → Option (S ⊕ R)} {n : Nat} {s : S} {r : R} (h : xl body (n + 1) s = some r) : (∃ s', body s = some (.inl s') ∧ xl body n s' = some r) ∨ body s = some (.inr r) := by
  rw [xl] at h
  obtain ⟨o, h1, h2⟩ := xn_i h
  cases o with
  | inl s' => exact Or.inl ⟨s', h1, h2⟩
  | inr q => exact Or.inr (by rw [h1]; rw [Option.some.inj h2])
theorem xl_mono {S R : Type} {body : S → Option (S ⊕ R)} : ∀ {n : Nat} {s : S} {r : R} (k : Nat), xl body n s = some r → xl body (n + k) s = some r
  | 0, _, _, _, h => by cases h
  | n + 1, s, r, k, h => by
    rw [show n + 1 + k = (n + k) + 1 by omega]
    rcases xl_i h with ⟨s', h1, h2⟩ | h1
    · rw [xl_l h1]; exact xl_mono k h2
    · exact xl_r h1
theorem xl_one {S R : Type} {body : S → Option (S ⊕ R)} {n k : Nat} {s : S} {r q : R} (h1 : xl body n s = some r) (h2 : xl body k s = some q) : r = q := by
  have a := xl_mono k h1
  have b := xl_mono n h2
  rw [Nat.add_comm k n, a] at b
  exact Option.some.inj b
noncomputable def xL {S R : Type} (body : S → Option (S ⊕ R)) (s : S) : Option R := @dite _ (∃ r, ∃ n, xl body n s = some r) (Classical.propDecidable _) (fun h => some h.choose) (fun _ => none)
theorem xL_i {S R : Type} {body : S → Option (S ⊕ R)} {s : S} {r : R} (h : xL body s = some r) : ∃ n, xl body n s = some r := by
  unfold xL at h
  rcases Classical.em (∃ r, ∃ n, xl body n s = some r) with q | q
  · rw [dif_pos q] at h
    have e := Option.some.inj h
    rw [← e]; exact q.choose_spec
  · rw [dif_neg q] at h; cases h
theorem xL_s {S R : Type} {body : S → Option (S ⊕ R)} {s : S} {r : R} {n : Nat} (h : xl body n s = some r) : xL body s = some r := by
  have q : ∃ r, ∃ n, xl body n s = some r := ⟨r, n, h⟩
  unfold xL
  rw [dif_pos q]
  obtain ⟨k, hk⟩ := q.choose_spec
  rw [xl_one hk h]
theorem xL_l {S R : Type} {body : S → Option (S ⊕ R)} {s s' : S} {r : R} (h : body s = some (.inl s')) (h2 : xL body s' = some r) : xL body s = some r := by
  obtain ⟨n, hn⟩ := xL_i h2
  exact xL_s (n := n + 1) (by rw [xl_l h]; exact hn)
theorem xL_r {S R : Type} {body : S → Option (S ⊕ R)} {s : S} {r : R} (h : body s = some (.inr r)) : xL body s = some r := xL_s (n := 1) (xl_r h)
/-- the walk of a loop: what holds at its head follows from what holds behind it -/
theorem xL_w {S R : Type} {body : S → Option (S ⊕ R)} (Wd : S → Prop) (We : R → Prop) (hb : ∀ (s : S) (o : S ⊕ R), body s = some o → Sum.elim Wd We o → Wd s) {s : S} {r : R} (h : xL body s = some r) (hr : We r) : Wd s := by
  obtain ⟨n, hn⟩ := xL_i h
  clear h
  induction n generalizing s with
  | zero => cases hn
  | succ n ih =>
    rcases xl_i hn with ⟨s', h1, h2⟩ | h1
    · exact hb s _ h1 (ih h2)
    · exact hb s _ h1 hr
/-- the reckoning of a loop: an invariant and a measure -/
theorem xL_inv {S R : Type} {body : S → Option (S ⊕ R)} {P : R → Prop} (I : S → Prop) (μ : S → Nat) (h : ∀ s, I s → (∃ s', body s = some (.inl s') ∧ I s' ∧ μ s' < μ s) ∨ (∃ r, body s = some (.inr r) ∧ P r)) {s : S} (hs : I s) : ∃ r, xL body s = some r ∧ P r := by
  have key : ∀ (k : Nat) (s : S), I s → μ s < k → ∃ r, xL body s = some r ∧ P r := by
    intro k
    induction k with
    | zero => intro s _ hk; exact absurd hk (Nat.not_lt_zero _)
    | succ k ih =>
      intro s hs hk
      rcases h s hs with ⟨s', h1, h2, h3⟩ | ⟨r, h1, h2⟩
      · obtain ⟨r, h4, h5⟩ := ih s' h2 (by omega)
        exact ⟨r, xL_l h1 h4, h5⟩
      · exact ⟨r, xL_r h1, h2⟩
  exact key _ s hs (Nat.lt_succ_self _)
-- the walk's context, world, contracts
abbrev xT (cI cZ cB cO : ClassId) : List (ClassId × FieldType) := [(cI, .int), (cZ, .boolean), (cB, .byte), (cO, .object "CarriedSets$Setup")]
def xW (y : MethodName) (cc : ByteArray) (n : Nat) (ret : Option FieldType) : List Cond := Cond.code y cc n ret :: xtb
def xCtx (D : va_G) (tys : List (ClassId × FieldType)) (p : Program) (s : State) (m : MethodId) (args : Array Value) (meth : Method) (c : Code) (cc : ByteArray) (nL : Nat) (own : String) (ret : Option FieldType) : Prop :=
  p.tables.exec = Jvm.exec ∧ c.code = cc ∧ c.maxLocals = nL ∧ s.vm.findClass own = some m.cls ∧ (∀ w ∈ xtb, w.before args s = true) ∧ meth.sig.returnType = ret ∧ meth.locks = false ∧ va_K D vwCl tys s
def xWd (D : va_G) (A : Nat → Prop) (H0 H : Heap) (locs : List Loc) (ws : va_W) : Prop := va_P D vwCl ws H ∧ va_D A ws ∧ va_S A H0 H locs ∧ ∀ q, H0.size ≤ q → A q
abbrev xPre (dC : Nat → ClassId) (dI : Nat → Nat → Nat) (tys : List (ClassId × FieldType)) (av : List Value) (wc : va_W) (sz : Nat) : Array Value → State → Prop := va_Pc av (fun U => U.heap.size = sz ∧ va_P (dC, dI) vwCl wc U.heap ∧ va_K (dC, dI) vwCl tys U ∧ va_D (fun _ => True) wc)
abbrev xBk (dC : Nat → ClassId) (dI : Nat → Nat → Nat) (tys : List (ClassId × FieldType)) (wc w1 : va_W) (sz : Nat) : Unit → State → Prop := fun _ t => va_P (dC, dI) vwCl w1 t.heap ∧ va_K (dC, dI) vwCl tys t ∧ va_D (va_A wc sz) w1
abbrev xQi (dC : Nat → ClassId) (dI : Nat → Nat → Nat) (tys : List (ClassId × FieldType)) (r : Int32) (wc w1 : va_W) (sz : Nat) : Array Value → State → Outcome → State → Prop := va_Qi (fun (r' : Int32) (_ : Unit) => r' = r) (xBk dC dI tys wc w1 sz) (va_A wc sz)
abbrev xQl (dC : Nat → ClassId) (dI : Nat → Nat → Nat) (tys : List (ClassId × FieldType)) (r : Int64) (wc w1 : va_W) (sz : Nat) : Array Value → State → Outcome → State → Prop := va_Ql (fun (r' : Int64) (_ : Unit) => r' = r) (xBk dC dI tys wc w1 sz) (va_A wc sz)
abbrev xQv (dC : Nat → ClassId) (dI : Nat → Nat → Nat) (tys : List (ClassId × FieldType)) (wc w1 : va_W) (sz : Nat) : Array Value → State → Outcome → State → Prop := va_Qv (fun (_ : Unit) => True) (xBk dC dI tys wc w1 sz) (va_A wc sz)
/-- a method's entry -/
theorem x_met {l : Launch} {y : MethodName} {dC : Nat → ClassId} {dI : Nat → Nat → Nat} {tys : List (ClassId × FieldType)} {cc : ByteArray} {maxL : Nat} {ret : Option FieldType} {rm : Room} {av : List Value} {wc : va_W} {sz mc ms : Nat} {Qc : Array Value → State → Outcome → State → Prop}
    (hy : plainName y.cls = true) (hlen : (lg_sl av).length ≤ maxL)
    (body : ∀ (p : Program) (e : Env) (s : State) (m : MethodId) (args : Array Value) (below : List Frame) (meth : Method) (c : Code) (R : Room) (Q : State → Prop) (A : Nat → Prop), R = rm → s.heap.size = sz → A = va_A wc sz → Q = MQ below Qc args s mc ms (va_A wc sz) → (y.name = "<init>" → meth.name = "<init>") →
      xCtx (dC, dI) tys p s m args meth c cc maxL y.cls ret → xWd (dC, dI) A s.heap s.heap [] wc → ∀ (ls : Array Slot), lv_has ls maxL (lv_args 0 av) →
      W p l e R s m args below meth c s.heap [] 0 0 Q (F0 m 0 ls [])) :
    Met l y (xW y cc maxL ret) rm (xPre dC dI tys av wc sz) Qc mc ms (va_A wc sz) := by
  refine Met.ofW (cc := cc) (maxL := maxL) (ret := ret) hy rfl ?_
  intro p e s m args below meth c s₁ B hml hv
  obtain ⟨rfl, hsz, hP, hK, hD0⟩ := hv
  have hts := atoms_spec (ws := xW y cc maxL ret) B.pre
  have hown : s.vm.findClass y.cls = some m.cls := findClass_of_methodNamed B.named
  have hin : meth.name = y.name := (name_of_methodNamed B.named B.method).1
  have hD := hD0.self (sz := sz)
  have hl := lv_entry av (n := maxL) hlen
  rw [lg_entry_eq]
  exact body p e s m _ below meth c _ _ (va_A wc sz) rfl hsz rfl rfl (fun h => hin.trans h) ⟨B.exec, B.bytes, hml, hown, fun w h => hts w (List.mem_cons_of_mem _ h), B.returns, B.notSynchronized, hK⟩ ⟨hP, hD, va_S.rf, fun q h => Or.inr (by rw [← hsz]; exact h)⟩ _ hl
section XROWS
variable {D : va_G} {dC : Nat → ClassId} {dI : Nat → Nat → Nat} {tys : List (ClassId × FieldType)} {p : Program} {l : Launch} {e : Env} {R : Room} {s : State} {m : MethodId} {args : Array Value} {below : List Frame} {meth : Method} {c : Code} {H H0 : Heap} {locs : List Loc} {cells slots : Nat} {Q : State → Prop} {A : Nat → Prop}
variable {cc : ByteArray} {pc nL : Nat} {ls : Array Slot} {rest : List Value} {own : String} {ret : Option FieldType} {ws : va_W} {a : Nat}
theorem xWd.sub (h : xWd D A H0 H locs ws) {ws' : va_W} (is : List Nat) (hn : va_nd is = true) (hs : is.map (fun i => ws[i]?) = ws'.map some) : xWd D A H0 H locs ws' := by
  refine ⟨?_, h.2.1.sub is hn hs, h.2.2⟩
  intro k q hk
  have h1 : (ws'.map some)[k]? = some (some q) := by rw [List.getElem?_map, hk]; rfl
  rw [← hs, List.getElem?_map] at h1
  cases hi : is[k]? with
  | none => rw [hi] at h1; cases h1
  | some i =>
    rw [hi] at h1
    exact h.1 i q (Option.some.inj h1)
theorem x_get (C : xCtx D tys p s m args meth c cc nL own ret) (hw : xWd D A H0 H locs ws) {Cn ref : String} {T : u_T} {N ci index : Nat} (hin : ∀ w ∈ u_ws Cn T N, w ∈ xtb) (hc : vwCl[ci]? = some (Cn, T, N)) (k : Nat) (hk : k < N) (hlink : Cond.fieldLink own index ref (T k).2.1 (T k).2.2.1 ∈ xtb) (href : (T k).1 = ref) (q0 : Nat) {fs : List Value} (he : ws[q0]? = some (a, .inr (ci, fs))) {v : Value} (hv : fs[k]? = some v) (hdg : decode cc pc = .ok (.getfield index, 3))
    (kk : W p l e R s m args below meth c H locs cells slots Q (F0 m (pc + 3) ls (v :: rest))) : W p l e R s m args below meth c H locs cells slots Q (F0 m pc ls (.ref a :: rest)) :=
  va_get C.1 C.2.1 C.2.2.2.2.1 hin C.2.2.2.1 C.2.2.2.2.2.2.2 hw.1 q0 he hc k hk (C.2.2.2.2.1 _ hlink) (fun _ h9 => by rw [← href]; exact h9) hv hdg kk
theorem x_put (C : xCtx D tys p s m args meth c cc nL own ret) (hw : xWd D A H0 H locs ws) {Cn ref : String} {T : u_T} {N ci index : Nat} (hin : ∀ w ∈ u_ws Cn T N, w ∈ xtb) (ty0 : Nat → FieldType) (hty : ∀ k, k < N → parseFieldDescriptor (T k).2.2.1 = some (ty0 k)) (hnm : ∀ a, a < N → ∀ b, b < N → a ≠ b → (T a).2.1 ≠ (T b).2.1) (hc : vwCl[ci]? = some (Cn, T, N)) (k : Nat) (hk : k < N) (hlink : Cond.fieldLink own index ref (T k).2.1 (T k).2.2.1 ∈ xtb) (href : (T k).1 = ref) (hfin : (T k).2.2.2 = false) (q0 : Nat) {fs : List Value} (he : ws[q0]? = some (a, .inr (ci, fs))) {v : Value} (hn : narrow (ty0 k) v = v) (hfit : fits (ty0 k) v = true) (hl : k < fs.length) (hdg : decode cc pc = .ok (.putfield index, 3))
    (kk : ∀ (H1 : Heap) (locs1 : List Loc), xWd D A H0 H1 locs1 (ws.set q0 (a, .inr (ci, fs.set k v))) → W p l e R s m args below meth c H1 locs1 cells slots Q (F0 m (pc + 3) ls rest)) : W p l e R s m args below meth c H locs cells slots Q (F0 m pc ls (v :: .ref a :: rest)) :=
  va_put C.1 C.2.1 C.2.2.2.2.1 hin ty0 hty hnm C.2.2.2.1 C.2.2.2.2.2.2.2 hw.1 hw.2.1 hw.2.2.1 q0 he hc k hk (C.2.2.2.2.1 _ hlink) (fun _ h9 => by rw [← href]; exact h9) hfin (hty k hk) hn hfit hl hdg (fun H1 locs1 h1 h2 h3 => kk H1 locs1 ⟨h1, h2, h3, hw.2.2.2⟩)
theorem x_iald (C : xCtx D tys p s m args meth c cc nL own ret) (hw : xWd D A H0 H locs ws) (q0 t0 : Nat) {cA : ClassId} {n : Nat} {f : Nat → Int32} (ha : ws[q0]? = some (a, .inl (cA, n, .inl f))) (ht : tys[t0]? = some (cA, .int)) {i : Int32} (hin : vp_in i n) (hdg : decode cc pc = .ok (.iaload, 1))
    (kk : W p l e R s m args below meth c H locs cells slots Q (F0 m (pc + 1) ls (.int (f i.toNatClampNeg) :: rest))) : W p l e R s m args below meth c H locs cells slots Q (F0 m pc ls (.int i :: .ref a :: rest)) := va_iald C.1 C.2.1 C.2.2.2.2.2.2.2 hw.1 q0 t0 ha ht hin hdg kk
theorem x_zald (C : xCtx D tys p s m args meth c cc nL own ret) (hw : xWd D A H0 H locs ws) (q0 t0 : Nat) {cA : ClassId} {n : Nat} {f : Nat → Int32} (ha : ws[q0]? = some (a, .inl (cA, n, .inl f))) (ht : tys[t0]? = some (cA, .boolean)) {i : Int32} (hin : vp_in i n) (hdg : decode cc pc = .ok (.baload, 1))
    (kk : W p l e R s m args below meth c H locs cells slots Q (F0 m (pc + 1) ls (.int (f i.toNatClampNeg) :: rest))) : W p l e R s m args below meth c H locs cells slots Q (F0 m pc ls (.int i :: .ref a :: rest)) := va_zald C.1 C.2.1 C.2.2.2.2.2.2.2 hw.1 q0 t0 ha ht hin hdg kk
theorem x_bald (C : xCtx D tys p s m args meth c cc nL own ret) (hw : xWd D A H0 H locs ws) (q0 t0 : Nat) {cA : ClassId} {n : Nat} {f : Nat → Int32} (ha : ws[q0]? = some (a, .inl (cA, n, .inl f))) (ht : tys[t0]? = some (cA, .byte)) {i : Int32} (hin : vp_in i n) (hdg : decode cc pc = .ok (.baload, 1))
    (kk : W p l e R s m args below meth c H locs cells slots Q (F0 m (pc + 1) ls (.int (f i.toNatClampNeg) :: rest))) : W p l e R s m args below meth c H locs cells slots Q (F0 m pc ls (.int i :: .ref a :: rest)) := va_bald C.1 C.2.1 C.2.2.2.2.2.2.2 hw.1 q0 t0 ha ht hin hdg kk
theorem x_iast (C : xCtx D tys p s m args meth c cc nL own ret) (hw : xWd D A H0 H locs ws) (q0 t0 : Nat) {cA : ClassId} {n : Nat} {f : Nat → Int32} (ha : ws[q0]? = some (a, .inl (cA, n, .inl f))) (ht : tys[t0]? = some (cA, .int)) {i x : Int32} (hin : vp_in i n) (hdg : decode cc pc = .ok (.iastore, 1))
    (kk : ∀ (H1 : Heap) (locs1 : List Loc), xWd D A H0 H1 locs1 (ws.set q0 (a, .inl (cA, n, .inl (upd f i.toNatClampNeg x)))) → W p l e R s m args below meth c H1 locs1 cells slots Q (F0 m (pc + 1) ls rest)) : W p l e R s m args below meth c H locs cells slots Q (F0 m pc ls (.int x :: .int i :: .ref a :: rest)) :=
  va_iast C.1 C.2.1 C.2.2.2.2.2.2.2 hw.1 hw.2.1 hw.2.2.1 q0 t0 ha ht hin hdg (fun H1 locs1 h1 h2 h3 => kk H1 locs1 ⟨h1, h2, h3, hw.2.2.2⟩)
theorem x_zast (C : xCtx D tys p s m args meth c cc nL own ret) (hw : xWd D A H0 H locs ws) (q0 t0 : Nat) {cA : ClassId} {n : Nat} {f : Nat → Int32} (ha : ws[q0]? = some (a, .inl (cA, n, .inl f))) (ht : tys[t0]? = some (cA, .boolean)) {i x : Int32} (hx : vp_nar .boolean x = x) (hin : vp_in i n) (hdg : decode cc pc = .ok (.bastore, 1))
    (kk : ∀ (H1 : Heap) (locs1 : List Loc), xWd D A H0 H1 locs1 (ws.set q0 (a, .inl (cA, n, .inl (upd f i.toNatClampNeg x)))) → W p l e R s m args below meth c H1 locs1 cells slots Q (F0 m (pc + 1) ls rest)) : W p l e R s m args below meth c H locs cells slots Q (F0 m pc ls (.int x :: .int i :: .ref a :: rest)) :=
  va_zast C.1 C.2.1 C.2.2.2.2.2.2.2 hw.1 hw.2.1 hw.2.2.1 q0 t0 ha ht hin hdg (fun H1 locs1 h1 h2 h3 => kk H1 locs1 (by rw [hx] at h1 h2; exact ⟨h1, h2, h3, hw.2.2.2⟩))
theorem x_bast (C : xCtx D tys p s m args meth c cc nL own ret) (hw : xWd D A H0 H locs ws) (q0 t0 : Nat) {cA : ClassId} {n : Nat} {f : Nat → Int32} (ha : ws[q0]? = some (a, .inl (cA, n, .inl f))) (ht : tys[t0]? = some (cA, .byte)) {i x : Int32} (hx : vp_nar .byte x = x) (hin : vp_in i n) (hdg : decode cc pc = .ok (.bastore, 1))
    (kk : ∀ (H1 : Heap) (locs1 : List Loc), xWd D A H0 H1 locs1 (ws.set q0 (a, .inl (cA, n, .inl (upd f i.toNatClampNeg x)))) → W p l e R s m args below meth c H1 locs1 cells slots Q (F0 m (pc + 1) ls rest)) : W p l e R s m args below meth c H locs cells slots Q (F0 m pc ls (.int x :: .int i :: .ref a :: rest)) :=
  va_bast C.1 C.2.1 C.2.2.2.2.2.2.2 hw.1 hw.2.1 hw.2.2.1 q0 t0 ha ht hin hdg (fun H1 locs1 h1 h2 h3 => kk H1 locs1 (by rw [hx] at h1 h2; exact ⟨h1, h2, h3, hw.2.2.2⟩))
theorem x_reti {r : Int32} {wc w1 : va_W} {sz : Nat} (C : xCtx (dC, dI) tys p s m args meth c cc nL own (some .int)) (hQ : Q = MQ below (xQi dC dI tys r wc w1 sz) args s cells slots (va_A wc sz)) (hA : A = va_A wc sz) (hw : xWd (dC, dI) A s.heap H locs w1) (hdg : decode cc pc = .ok (.ireturn, 1)) : W p l e R s m args below meth c H locs cells slots Q (F0 m pc ls [.int r]) := by
  subst hQ hA
  exact W.iret C.1 C.2.1 C.2.2.2.2.2.1 (fun t ht hW => ⟨⟨r, (), rfl, rfl, by rw [ht]; exact hw.1, va_K.moved hW.alike C.2.2.2.2.2.2.2, hw.2.1⟩, hw.2.2.1.F ht⟩) hw.2.2.1.2.2 hdg C.2.2.2.2.2.2.1
theorem x_retz {r : Int32} {wc w1 : va_W} {sz : Nat} (C : xCtx (dC, dI) tys p s m args meth c cc nL own (some .boolean)) (hQ : Q = MQ below (xQi dC dI tys r wc w1 sz) args s cells slots (va_A wc sz)) (hA : A = va_A wc sz) (hw : xWd (dC, dI) A s.heap H locs w1) (hr : r = 0 ∨ r = 1) (hdg : decode cc pc = .ok (.ireturn, 1)) : W p l e R s m args below meth c H locs cells slots Q (F0 m pc ls [.int r]) := by
  subst hQ hA
  exact W.zret C.1 C.2.1 C.2.2.2.2.2.1 (by rcases hr with rfl | rfl <;> rfl) (fun t ht hW => ⟨⟨r, (), rfl, rfl, by rw [ht]; exact hw.1, va_K.moved hW.alike C.2.2.2.2.2.2.2, hw.2.1⟩, hw.2.2.1.F ht⟩) hw.2.2.1.2.2 hdg C.2.2.2.2.2.2.1
theorem x_retl {r : Int64} {wc w1 : va_W} {sz : Nat} (C : xCtx (dC, dI) tys p s m args meth c cc nL own (some .long)) (hQ : Q = MQ below (xQl dC dI tys r wc w1 sz) args s cells slots (va_A wc sz)) (hA : A = va_A wc sz) (hw : xWd (dC, dI) A s.heap H locs w1) (hdg : decode cc pc = .ok (.lreturn, 1)) : W p l e R s m args below meth c H locs cells slots Q (F0 m pc ls [.long r]) := by
  subst hQ hA
  exact W.lret C.1 C.2.1 C.2.2.2.2.2.1 (fun t ht hW => ⟨⟨r, (), rfl, rfl, by rw [ht]; exact hw.1, va_K.moved hW.alike C.2.2.2.2.2.2.2, hw.2.1⟩, hw.2.2.1.F ht⟩) hw.2.2.1.2.2 hdg C.2.2.2.2.2.2.1
theorem x_retv {wc w1 : va_W} {sz : Nat} (C : xCtx (dC, dI) tys p s m args meth c cc nL own none) (hQ : Q = MQ below (xQv dC dI tys wc w1 sz) args s cells slots (va_A wc sz)) (hA : A = va_A wc sz) (hw : xWd (dC, dI) A s.heap H locs w1) (hdg : decode cc pc = .ok (.return_, 1)) : W p l e R s m args below meth c H locs cells slots Q (F0 m pc ls []) := by
  subst hQ hA
  exact W.vret C.1 C.2.1 C.2.2.2.2.2.1 (fun t ht hW => ⟨⟨(), rfl, trivial, by rw [ht]; exact hw.1, va_K.moved hW.alike C.2.2.2.2.2.2.2, hw.2.1⟩, hw.2.2.1.F ht⟩) hw.2.2.1.2.2 hdg C.2.2.2.2.2.2.1
-- calls
theorem x_good {own : String} {index : Nat} {Cn : String} {y : MethodName} {bytes : ByteArray} {maxL : Nat} {ret : Option FieldType} (h1 : Cond.methodLink own index y ∈ xtb) (h2 : Cond.instanceMethod y ∈ xtb) (h3 : Cond.selects Cn y y ∈ xtb) (h4 : Cond.initialized Cn ∈ xtb) (h5 : Cond.code y bytes maxL ret ∈ xtb) : GoodIn xtb (wsV own index Cn y (xW y bytes maxL ret)) := by
  intro w hw
  have hm : w ∈ xtb := by
    unfold wsV xW at hw
    simp only [List.cons_append, List.nil_append, List.mem_cons] at hw
    rcases hw with rfl | rfl | rfl | rfl | rfl | h
    · exact h1
    · exact h2
    · exact h3
    · exact h4
    · exact h5
    · exact h
  exact ⟨hm, good_of_word (tw_good w hm)⟩
theorem x_goodS {own : String} {index : Nat} {y : MethodName} {bytes : ByteArray} {maxL : Nat} {ret : Option FieldType} (h1 : Cond.methodLink own index y ∈ xtb) (h2 : Cond.static y ∈ xtb) (h4 : Cond.initialized y.cls ∈ xtb) (h5 : Cond.code y bytes maxL ret ∈ xtb) : GoodIn xtb (va_wsS own index y (xW y bytes maxL ret)) := by
  intro w hw
  have hm : w ∈ xtb := by
    unfold va_wsS xW at hw
    simp only [List.cons_append, List.nil_append, List.mem_cons] at hw
    rcases hw with rfl | rfl | rfl | rfl | h
    · exact h1
    · exact h2
    · exact h4
    · exact h5
    · exact h
  exact ⟨hm, good_of_word (tw_good w hm)⟩
abbrev xDs (y : MethodName) (n : Nat) : Prop := y.cls ≠ "java/lang/invoke/MethodHandle" ∧ y.cls ≠ "java/lang/invoke/VarHandle" ∧ (parseMethodDescriptor y.desc).map (fun d => d.parameters.length) = some n
theorem x_pre {av : List Value} {wc : va_W} (C : xCtx (dC, dI) tys p s m args meth c cc nL own ret) (hP : va_P (dC, dI) vwCl wc H) (hD : va_D A wc) (U : State) (hU : U.heap = H) (hW : s.WarmedH U.vm) : xPre dC dI tys av wc H.size av.toArray U := ⟨rfl, by rw [hU], by rw [hU]; exact hP, va_K.moved hW.alike C.2.2.2.2.2.2.2, hD.weaken (fun _ _ _ _ => trivial)⟩
theorem x_blind {av : List Value} {wc : va_W} {sz : Nat} : FrameBlind (xPre dC dI tys av wc sz) := fun a U g mk q => by
  obtain ⟨q0, q1, qP, qK, qD⟩ := q
  exact ⟨q0, q1, qP, va_K.moved (u := U) (U := U.calling g mk a) (Vm.Alike.refl U.vm) qK, qD⟩
/-- the world behind a call: the rest as it was, then the callee's cells -/
theorem x_back {wc wr w1 : va_W} {t : State} {H1 : Heap} {locs1 : List Loc} (hw : xWd (dC, dI) A H0 H locs ws) (isC isR : List Nat) (hC : isC.map (fun i => ws[i]?) = wc.map some) (hR : isR.map (fun i => ws[i]?) = wr.map some) (hn : va_nd isR = true) (hdis : ∀ i ∈ isR, i ∉ isC) (ht : t.heap = H1) (hB : xBk dC dI tys wc w1 H.size () t) (hk : ∀ q : Nat, q < H.size → ¬ va_A wc H.size q → H1[q]? = H[q]?) (hS : va_S A H0 H1 locs1) : xWd (dC, dI) A H0 H1 locs1 (wr ++ w1) := by
  have hF := va_free (wc := wc) hw.2.1 hw.2.2.1 hw.2.2.2 isC hC
  obtain ⟨hP1, -, hD1⟩ := hB
  rw [ht] at hP1
  obtain ⟨h1, h2⟩ := va_join (wr := wr) (w1 := w1) hw.1 hw.2.1 isC isR hC hR hn hdis hk hF hP1 hD1
  exact ⟨h1, h2, hS, hw.2.2.2⟩
theorem x_cut {wc : va_W} (hw : xWd D A H0 H locs ws) (isC : List Nat) (hc : va_nd isC = true) (hC : isC.map (fun i => ws[i]?) = wc.map some) : va_P D vwCl wc H ∧ va_D A wc := ⟨(hw.sub isC hc hC).1, (hw.sub isC hc hC).2.1⟩
section XCALL
variable {y : MethodName} {bytes : ByteArray} {maxL index n mc ms ci b : Nat} {rt : Option FieldType} {rm : Room} {av : List Value} {As : List Value} {wc wr w1 : va_W} {fs : List Value} {Cn : String} {T : u_T} {N : Nat} {st0 : List Value}
/-- what every call needs: the words, the room, the callee's cells -/
abbrev xCall (R : Room) (own : String) (index : Nat) (y : MethodName) (bytes : ByteArray) (maxL : Nat) (rt : Option FieldType) (rm : Room) (n : Nat) (cells slots mc ms : Nat) (g : GoodIn xtb (wsV own index y.cls y (xW y bytes maxL rt))) : Prop :=
  rm.cells = mc ∧ rm.slots = ms ∧ xDs y n ∧ rm.frames + 1 ≤ R.frames ∧ 8 + (maxL + 11) + rm.locals ≤ R.locals ∧ cells + mc ≤ R.cells ∧ slots + ms ≤ R.slots
theorem x_runV {Qc : Array Value → State → Outcome → State → Prop} (C : xCtx (dC, dI) tys p s m args meth c cc nL own ret) (hw : xWd (dC, dI) A H0 H locs ws)
    (g : GoodIn xtb (wsV own index y.cls y (xW y bytes maxL rt))) (hk : xCall R own index y bytes maxL rt rm n cells slots mc ms g)
    (hM : Met l y (xW y bytes maxL rt) rm (xPre dC dI tys (.ref b :: As) wc H.size) Qc mc ms (va_A wc H.size))
    (isC : List Nat) (hc : va_nd isC = true) (hC : isC.map (fun i => ws[i]?) = wc.map some)
    (hcl : vwCl[ci]? = some (y.cls, T, N)) (he : wc[0]? = some (b, .inr (ci, fs))) (hn : As.length = n) (hls : ls.size = nL)
    (hst : st0 = As.reverse ++ .ref b :: rest) (hrm : (rest.map fun v => v.category).sum ≤ 8) (hdg : decode cc pc = .ok (.invokevirtual index, 3)) :
    va_Run p l e R s m args below meth c H locs cells slots mc ms (F0 m pc ls st0) rest (Qc (Value.ref b :: As).toArray) (va_A wc H.size) := by
  obtain ⟨hPc, hDc⟩ := x_cut hw isC hc hC
  obtain ⟨k1, k2, k3, k4, k5, k6, k7⟩ := hk
  exact va_runV (As := As) (rest := rest) ⟨C.1, C.2.1, C.2.2.1, C.2.2.2.1, C.2.2.2.2.1⟩ hM (cwV n C.2.2.2.2.1 g rfl k1 k2 ⟨rfl, k3⟩ ⟨k4, k5⟩) ⟨x_blind, va_recv C.2.2.2.2.2.2.2 hPc hcl he, fun U hU hW => x_pre C hPc hDc U hU hW⟩ rfl hn hls hst (lv_room hrm) hdg ⟨k6, k7⟩
theorem x_callVi {r : Int32} (C : xCtx (dC, dI) tys p s m args meth c cc nL own ret) (hw : xWd (dC, dI) A H0 H locs ws)
    (g : GoodIn xtb (wsV own index y.cls y (xW y bytes maxL rt))) (hk : xCall R own index y bytes maxL rt rm n cells slots 0 0 g)
    (hM : Met l y (xW y bytes maxL rt) rm (xPre dC dI tys (.ref b :: As) wc H.size) (xQi dC dI tys r wc w1 H.size) 0 0 (va_A wc H.size))
    (isC isR : List Nat) (hc : va_nd isC = true) (hC : isC.map (fun i => ws[i]?) = wc.map some) (hR : isR.map (fun i => ws[i]?) = (isR.filterMap (fun i => ws[i]?)).map some) (hr : va_nd isR = true) (hdis : ∀ i ∈ isR, i ∉ isC)
    (hcl : vwCl[ci]? = some (y.cls, T, N)) (he : wc[0]? = some (b, .inr (ci, fs))) (hn : As.length = n) (hls : ls.size = nL)
    (hst : st0 = As.reverse ++ .ref b :: rest) (hrm : (rest.map fun v => v.category).sum ≤ 8) (hdg : decode cc pc = .ok (.invokevirtual index, 3))
    (kk : ∀ (H1 : Heap) (locs1 : List Loc), xWd (dC, dI) A H0 H1 locs1 (isR.filterMap (fun i => ws[i]?) ++ w1) → W p l e R s m args below meth c H1 locs1 cells slots Q (F0 m (pc + 3) ls (.int r :: rest))) : W p l e R s m args below meth c H locs cells slots Q (F0 m pc ls st0) := by
  have hF := va_free (wc := wc) hw.2.1 hw.2.2.1 hw.2.2.2 isC hC
  refine va_calli (x_runV C hw g hk hM isC hc hC hcl he hn hls hst hrm hdg) hw.2.2.1 (fun q _ h => hF q h) hF (fun r' u t H1 locs1 ht hvm hp hB hz1 hk1 hS => ?_)
  subst hp
  exact kk H1 locs1 (x_back hw isC isR hC hR hr hdis ht hB hk1 hS)
theorem x_callVl {r : Int64} (C : xCtx (dC, dI) tys p s m args meth c cc nL own ret) (hw : xWd (dC, dI) A H0 H locs ws)
    (g : GoodIn xtb (wsV own index y.cls y (xW y bytes maxL rt))) (hk : xCall R own index y bytes maxL rt rm n cells slots 0 0 g)
    (hM : Met l y (xW y bytes maxL rt) rm (xPre dC dI tys (.ref b :: As) wc H.size) (xQl dC dI tys r wc w1 H.size) 0 0 (va_A wc H.size))
    (isC isR : List Nat) (hc : va_nd isC = true) (hC : isC.map (fun i => ws[i]?) = wc.map some) (hR : isR.map (fun i => ws[i]?) = (isR.filterMap (fun i => ws[i]?)).map some) (hr : va_nd isR = true) (hdis : ∀ i ∈ isR, i ∉ isC)
    (hcl : vwCl[ci]? = some (y.cls, T, N)) (he : wc[0]? = some (b, .inr (ci, fs))) (hn : As.length = n) (hls : ls.size = nL)
    (hst : st0 = As.reverse ++ .ref b :: rest) (hrm : (rest.map fun v => v.category).sum ≤ 8) (hdg : decode cc pc = .ok (.invokevirtual index, 3))
    (kk : ∀ (H1 : Heap) (locs1 : List Loc), xWd (dC, dI) A H0 H1 locs1 (isR.filterMap (fun i => ws[i]?) ++ w1) → W p l e R s m args below meth c H1 locs1 cells slots Q (F0 m (pc + 3) ls (.long r :: rest))) : W p l e R s m args below meth c H locs cells slots Q (F0 m pc ls st0) := by
  have hF := va_free (wc := wc) hw.2.1 hw.2.2.1 hw.2.2.2 isC hC
  refine va_calll (x_runV C hw g hk hM isC hc hC hcl he hn hls hst hrm hdg) hw.2.2.1 (fun q _ h => hF q h) hF (fun r' u t H1 locs1 ht hvm hp hB hz1 hk1 hS => ?_)
  subst hp
  exact kk H1 locs1 (x_back hw isC isR hC hR hr hdis ht hB hk1 hS)
theorem x_callVv (C : xCtx (dC, dI) tys p s m args meth c cc nL own ret) (hw : xWd (dC, dI) A H0 H locs ws)
    (g : GoodIn xtb (wsV own index y.cls y (xW y bytes maxL rt))) (hk : xCall R own index y bytes maxL rt rm n cells slots 0 0 g)
    (hM : Met l y (xW y bytes maxL rt) rm (xPre dC dI tys (.ref b :: As) wc H.size) (xQv dC dI tys wc w1 H.size) 0 0 (va_A wc H.size))
    (isC isR : List Nat) (hc : va_nd isC = true) (hC : isC.map (fun i => ws[i]?) = wc.map some) (hR : isR.map (fun i => ws[i]?) = (isR.filterMap (fun i => ws[i]?)).map some) (hr : va_nd isR = true) (hdis : ∀ i ∈ isR, i ∉ isC)
    (hcl : vwCl[ci]? = some (y.cls, T, N)) (he : wc[0]? = some (b, .inr (ci, fs))) (hn : As.length = n) (hls : ls.size = nL)
    (hst : st0 = As.reverse ++ .ref b :: rest) (hrm : (rest.map fun v => v.category).sum ≤ 8) (hdg : decode cc pc = .ok (.invokevirtual index, 3))
    (kk : ∀ (H1 : Heap) (locs1 : List Loc), xWd (dC, dI) A H0 H1 locs1 (isR.filterMap (fun i => ws[i]?) ++ w1) → W p l e R s m args below meth c H1 locs1 cells slots Q (F0 m (pc + 3) ls rest)) : W p l e R s m args below meth c H locs cells slots Q (F0 m pc ls st0) := by
  have hF := va_free (wc := wc) hw.2.1 hw.2.2.1 hw.2.2.2 isC hC
  refine va_callv (x_runV C hw g hk hM isC hc hC hcl he hn hls hst hrm hdg) hw.2.2.1 (fun q _ h => hF q h) hF (fun u t H1 locs1 ht hvm hp hB hz1 hk1 hS => ?_)
  exact kk H1 locs1 (x_back hw isC isR hC hR hr hdis ht hB hk1 hS)
theorem x_callSi {r : Int32} (C : xCtx (dC, dI) tys p s m args meth c cc nL own ret) (hw : xWd (dC, dI) A H0 H locs ws)
    (g : GoodIn xtb (va_wsS own index y (xW y bytes maxL rt))) (k3 : xDs y n) (k4 : rm.frames + 1 ≤ R.frames) (k5 : 8 + (maxL + 11) + rm.locals ≤ R.locals) (k1 : rm.cells = 0) (k2 : rm.slots = 0) (k6 : cells ≤ R.cells) (k7 : slots ≤ R.slots)
    (hM : Met l y (xW y bytes maxL rt) rm (xPre dC dI tys As wc H.size) (xQi dC dI tys r wc w1 H.size) 0 0 (va_A wc H.size))
    (isC isR : List Nat) (hc : va_nd isC = true) (hC : isC.map (fun i => ws[i]?) = wc.map some) (hR : isR.map (fun i => ws[i]?) = (isR.filterMap (fun i => ws[i]?)).map some) (hr : va_nd isR = true) (hdis : ∀ i ∈ isR, i ∉ isC)
    (hn : As.length = n) (hls : ls.size = nL) (hst : st0 = As.reverse ++ rest) (hrm : (rest.map fun v => v.category).sum ≤ 8) (hdg : decode cc pc = .ok (.invokestatic index, 3))
    (kk : ∀ (H1 : Heap) (locs1 : List Loc), xWd (dC, dI) A H0 H1 locs1 (isR.filterMap (fun i => ws[i]?) ++ w1) → W p l e R s m args below meth c H1 locs1 cells slots Q (F0 m (pc + 3) ls (.int r :: rest))) : W p l e R s m args below meth c H locs cells slots Q (F0 m pc ls st0) := by
  have hF := va_free (wc := wc) hw.2.1 hw.2.2.1 hw.2.2.2 isC hC
  obtain ⟨hPc, hDc⟩ := x_cut hw isC hc hC
  refine va_calli (va_runS (As := As) (rest := rest) ⟨C.1, C.2.1, C.2.2.1, C.2.2.2.1, C.2.2.2.2.1⟩ hM (va_cwS n C.2.2.2.2.1 g rfl k1 k2 k3 ⟨k4, k5⟩) ⟨x_blind, fun U hU hW => x_pre C hPc hDc U hU hW⟩ rfl hn hls hst (lv_room hrm) hdg ⟨k6, k7⟩) hw.2.2.1 (fun q _ h => hF q h) hF (fun r' u t H1 locs1 ht hvm hp hB hz1 hk1 hS => ?_)
  subst hp
  exact kk H1 locs1 (x_back hw isC isR hC hR hr hdis ht hB hk1 hS)
theorem x_callSv (C : xCtx (dC, dI) tys p s m args meth c cc nL own ret) (hw : xWd (dC, dI) A H0 H locs ws)
    (g : GoodIn xtb (va_wsS own index y (xW y bytes maxL rt))) (k3 : xDs y n) (k4 : rm.frames + 1 ≤ R.frames) (k5 : 8 + (maxL + 11) + rm.locals ≤ R.locals) (k1 : rm.cells = 0) (k2 : rm.slots = 0) (k6 : cells ≤ R.cells) (k7 : slots ≤ R.slots)
    (hM : Met l y (xW y bytes maxL rt) rm (xPre dC dI tys As wc H.size) (xQv dC dI tys wc w1 H.size) 0 0 (va_A wc H.size))
    (isC isR : List Nat) (hc : va_nd isC = true) (hC : isC.map (fun i => ws[i]?) = wc.map some) (hR : isR.map (fun i => ws[i]?) = (isR.filterMap (fun i => ws[i]?)).map some) (hr : va_nd isR = true) (hdis : ∀ i ∈ isR, i ∉ isC)
    (hn : As.length = n) (hls : ls.size = nL) (hst : st0 = As.reverse ++ rest) (hrm : (rest.map fun v => v.category).sum ≤ 8) (hdg : decode cc pc = .ok (.invokestatic index, 3))
    (kk : ∀ (H1 : Heap) (locs1 : List Loc), xWd (dC, dI) A H0 H1 locs1 (isR.filterMap (fun i => ws[i]?) ++ w1) → W p l e R s m args below meth c H1 locs1 cells slots Q (F0 m (pc + 3) ls rest)) : W p l e R s m args below meth c H locs cells slots Q (F0 m pc ls st0) := by
  have hF := va_free (wc := wc) hw.2.1 hw.2.2.1 hw.2.2.2 isC hC
  obtain ⟨hPc, hDc⟩ := x_cut hw isC hc hC
  refine va_callv (va_runS (As := As) (rest := rest) ⟨C.1, C.2.1, C.2.2.1, C.2.2.2.1, C.2.2.2.2.1⟩ hM (va_cwS n C.2.2.2.2.1 g rfl k1 k2 k3 ⟨k4, k5⟩) ⟨x_blind, fun U hU hW => x_pre C hPc hDc U hU hW⟩ rfl hn hls hst (lv_room hrm) hdg ⟨k6, k7⟩) hw.2.2.1 (fun q _ h => hF q h) hF (fun u t H1 locs1 ht hvm hp hB hz1 hk1 hS => ?_)
  exact kk H1 locs1 (x_back hw isC isR hC hR hr hdis ht hB hk1 hS)
end XCALL
end XROWS

def xus (x y : Int32) : Int32 := (x.toUInt32 >>> (y.toUInt32 &&& Int32.toUInt32 31)).toInt32
section XROWS2
variable {D : va_G} {dC : Nat → ClassId} {dI : Nat → Nat → Nat} {tys : List (ClassId × FieldType)} {p : Program} {l : Launch} {e : Env} {R : Room} {s : State} {m : MethodId} {args : Array Value} {below : List Frame} {meth : Method} {c : Code} {H H0 : Heap} {locs : List Loc} {cells slots : Nat} {Q : State → Prop} {A : Nat → Prop}
variable {cc : ByteArray} {pc nL : Nat} {ls : Array Slot} {rest : List Value} {own : String} {ret : Option FieldType} {ws : va_W} {a : Nat}
theorem x_ialk (C : xCtx D tys p s m args meth c cc nL own ret) (hw : xWd D A H0 H locs ws) (q0 t0 : Nat) {cA : ClassId} {n : Nat} {f : Nat → Int32} (ha : ws[q0]? = some (a, .inl (cA, n, .inl f))) (ht : tys[t0]? = some (cA, .int)) {i : Int32} {k : Nat} (hi : i.toNatClampNeg = k) (hin : vp_in i n) (hdg : decode cc pc = .ok (.iaload, 1))
    (kk : W p l e R s m args below meth c H locs cells slots Q (F0 m (pc + 1) ls (.int (f k) :: rest))) : W p l e R s m args below meth c H locs cells slots Q (F0 m pc ls (.int i :: .ref a :: rest)) := x_iald C hw q0 t0 ha ht hin hdg (by rw [hi]; exact kk)
theorem x_zalk (C : xCtx D tys p s m args meth c cc nL own ret) (hw : xWd D A H0 H locs ws) (q0 t0 : Nat) {cA : ClassId} {n : Nat} {f : Nat → Int32} (ha : ws[q0]? = some (a, .inl (cA, n, .inl f))) (ht : tys[t0]? = some (cA, .boolean)) {i : Int32} {k : Nat} (hi : i.toNatClampNeg = k) (hin : vp_in i n) (hdg : decode cc pc = .ok (.baload, 1))
    (kk : W p l e R s m args below meth c H locs cells slots Q (F0 m (pc + 1) ls (.int (f k) :: rest))) : W p l e R s m args below meth c H locs cells slots Q (F0 m pc ls (.int i :: .ref a :: rest)) := x_zald C hw q0 t0 ha ht hin hdg (by rw [hi]; exact kk)
theorem x_balk (C : xCtx D tys p s m args meth c cc nL own ret) (hw : xWd D A H0 H locs ws) (q0 t0 : Nat) {cA : ClassId} {n : Nat} {f : Nat → Int32} (ha : ws[q0]? = some (a, .inl (cA, n, .inl f))) (ht : tys[t0]? = some (cA, .byte)) {i : Int32} {k : Nat} (hi : i.toNatClampNeg = k) (hin : vp_in i n) (hdg : decode cc pc = .ok (.baload, 1))
    (kk : W p l e R s m args below meth c H locs cells slots Q (F0 m (pc + 1) ls (.int (f k) :: rest))) : W p l e R s m args below meth c H locs cells slots Q (F0 m pc ls (.int i :: .ref a :: rest)) := x_bald C hw q0 t0 ha ht hin hdg (by rw [hi]; exact kk)
theorem x_iask (C : xCtx D tys p s m args meth c cc nL own ret) (hw : xWd D A H0 H locs ws) (q0 t0 : Nat) {cA : ClassId} {n : Nat} {f : Nat → Int32} (ha : ws[q0]? = some (a, .inl (cA, n, .inl f))) (ht : tys[t0]? = some (cA, .int)) {i x : Int32} {k : Nat} (hi : i.toNatClampNeg = k) (hin : vp_in i n) (hdg : decode cc pc = .ok (.iastore, 1))
    (kk : ∀ (H1 : Heap) (locs1 : List Loc), xWd D A H0 H1 locs1 (ws.set q0 (a, .inl (cA, n, .inl (upd f k x)))) → W p l e R s m args below meth c H1 locs1 cells slots Q (F0 m (pc + 1) ls rest)) : W p l e R s m args below meth c H locs cells slots Q (F0 m pc ls (.int x :: .int i :: .ref a :: rest)) := x_iast C hw q0 t0 ha ht hin hdg (fun H1 locs1 h1 => kk H1 locs1 (by rw [← hi]; exact h1))
theorem x_zask (C : xCtx D tys p s m args meth c cc nL own ret) (hw : xWd D A H0 H locs ws) (q0 t0 : Nat) {cA : ClassId} {n : Nat} {f : Nat → Int32} (ha : ws[q0]? = some (a, .inl (cA, n, .inl f))) (ht : tys[t0]? = some (cA, .boolean)) {i x : Int32} (hx : vp_nar .boolean x = x) {k : Nat} (hi : i.toNatClampNeg = k) (hin : vp_in i n) (hdg : decode cc pc = .ok (.bastore, 1))
    (kk : ∀ (H1 : Heap) (locs1 : List Loc), xWd D A H0 H1 locs1 (ws.set q0 (a, .inl (cA, n, .inl (upd f k x)))) → W p l e R s m args below meth c H1 locs1 cells slots Q (F0 m (pc + 1) ls rest)) : W p l e R s m args below meth c H locs cells slots Q (F0 m pc ls (.int x :: .int i :: .ref a :: rest)) := x_zast C hw q0 t0 ha ht hx hin hdg (fun H1 locs1 h1 => kk H1 locs1 (by rw [← hi]; exact h1))
theorem x_bask (C : xCtx D tys p s m args meth c cc nL own ret) (hw : xWd D A H0 H locs ws) (q0 t0 : Nat) {cA : ClassId} {n : Nat} {f : Nat → Int32} (ha : ws[q0]? = some (a, .inl (cA, n, .inl f))) (ht : tys[t0]? = some (cA, .byte)) {i x : Int32} (hx : vp_nar .byte x = x) {k : Nat} (hi : i.toNatClampNeg = k) (hin : vp_in i n) (hdg : decode cc pc = .ok (.bastore, 1))
    (kk : ∀ (H1 : Heap) (locs1 : List Loc), xWd D A H0 H1 locs1 (ws.set q0 (a, .inl (cA, n, .inl (upd f k x)))) → W p l e R s m args below meth c H1 locs1 cells slots Q (F0 m (pc + 1) ls rest)) : W p l e R s m args below meth c H locs cells slots Q (F0 m pc ls (.int x :: .int i :: .ref a :: rest)) := x_bast C hw q0 t0 ha ht hx hin hdg (fun H1 locs1 h1 => kk H1 locs1 (by rw [← hi]; exact h1))
theorem x_copy (C : xCtx D tys p s m args meth c cc nL own ret) (hw : xWd D A H0 H locs ws) (q0 q1 : Nat) {a0 : Nat} {c1 : ClassId} {n0 n1 : Nat} {f g : Nat → Int32} (ha0 : ws[q0]? = some (a0, .inl (c1, n0, .inl f))) (ha1 : ws[q1]? = some (a, .inl (c1, n1, .inl g))) (ht1 : tys[0]? = some (c1, .int))
    {sp dp n : Int32} {k index : Nat} (h1 : ¬ sp < 0) (h2 : ¬ dp < 0) (h3 : ¬ n < 0) (e1 : sp.toNatClampNeg = 0) (e2 : dp.toNatClampNeg = 0) (e3 : n.toNatClampNeg = k) (h4 : k ≤ n0) (h5 : k ≤ n1) (hlink : Cond.methodLink own index arraycopyName ∈ xtb)
    (hframes : 1 ≤ R.frames) (hlocals : (rest.map fun v => v.category).sum + (nativeFrameWords "java/lang/System" "arraycopy" 5 + 11) ≤ R.locals) (hls : ls.size = nL) (hdg : decode cc pc = .ok (.invokestatic index, 3))
    (kk : ∀ (H1 : Heap) (locs1 : List Loc), xWd D A H0 H1 locs1 (ws.set q1 (a, .inl (c1, n1, .inl (va_cpy f g 0 0 k)))) → W p l e R s m args below meth c H1 locs1 cells slots Q (F0 m (pc + 3) ls rest)) : W p l e R s m args below meth c H locs cells slots Q (F0 m pc ls (.int n :: .int dp :: .ref a :: .int sp :: .ref a0 :: rest)) := by
  refine va_copyi C.1 C.2.1 (C.2.2.1.trans hls.symm) C.2.2.2.1 (C.2.2.2.2.1 _ hlink) (C.2.2.2.2.1 _ wNat_copy) (C.2.2.2.2.1 _ wT_sys_copy) (C.2.2.2.2.1 _ wN_J10) C.2.2.2.2.2.2.2 hw.1 hw.2.1 hw.2.2.1 q0 q1 0 0 ha0 ha1 ht1 ht1 rfl h1 h2 h3 (by rw [e1, e3, Nat.zero_add]; exact h4) (by rw [e2, e3, Nat.zero_add]; exact h5) (fun i _ => rfl) hframes hlocals hdg (fun H1 locs1 g1 g2 g3 => kk H1 locs1 ?_)
  rw [e1, e2, e3] at g1 g2
  exact ⟨g1, g2, g3, hw.2.2.2⟩
theorem x_max (C : xCtx D tys p s m args meth c cc nL own ret) {index : Nat} (hlink : Cond.methodLink own index yJ9_max_7cf53 ∈ xtb) (hframes : 1 ≤ R.frames) (hlocals : (rest.map fun v => v.category).sum + 13 ≤ R.locals) (hc : cells ≤ R.cells) (hs : slots ≤ R.slots) (hls : ls.size = nL) {x y : Int32} (hdg : decode cc pc = .ok (.invokestatic index, 3))
    (kk : W p l e R s m args below meth c H locs cells slots Q (F0 m (pc + 3) ls (.int (if x < y then y else x) :: rest))) : W p l e R s m args below meth c H locs cells slots Q (F0 m pc ls (.int y :: .int x :: rest)) :=
  va_mmax C.1 C.2.1 (C.2.2.1.trans hls.symm) C.2.2.2.1 (C.2.2.2.2.1 _ hlink) (C.2.2.2.2.1 _ wT_J9_max_7cf53) (C.2.2.2.2.1 _ wN_J9) (C.2.2.2.2.1 _ wC_J9_max_7cf53) hframes hlocals hc hs hdg kk
theorem x_min (C : xCtx D tys p s m args meth c cc nL own ret) {index : Nat} (hlink : Cond.methodLink own index yJ9_min_7cf53 ∈ xtb) (hframes : 1 ≤ R.frames) (hlocals : (rest.map fun v => v.category).sum + 13 ≤ R.locals) (hc : cells ≤ R.cells) (hs : slots ≤ R.slots) (hls : ls.size = nL) {x y : Int32} (hdg : decode cc pc = .ok (.invokestatic index, 3))
    (kk : W p l e R s m args below meth c H locs cells slots Q (F0 m (pc + 3) ls (.int (if y < x then y else x) :: rest))) : W p l e R s m args below meth c H locs cells slots Q (F0 m pc ls (.int y :: .int x :: rest)) :=
  va_mmin C.1 C.2.1 (C.2.2.1.trans hls.symm) C.2.2.2.1 (C.2.2.2.2.1 _ hlink) (C.2.2.2.2.1 _ wT_J9_min_7cf53) (C.2.2.2.2.1 _ wN_J9) (C.2.2.2.2.1 _ wC_J9_min_7cf53) hframes hlocals hc hs hdg kk
end XROWS2
theorem x_tabOut {x : Int32} {lo hi : Int} (h : ∀ q : Int, lo ≤ x.toInt → x.toInt ≤ hi → False) : x.toInt < lo ∨ hi < x.toInt := by
  rcases Int.lt_or_le x.toInt lo with q | q
  · exact Or.inl q
  · rcases Int.lt_or_le hi x.toInt with w | w
    · exact Or.inr w
    · exact absurd w (fun w => h 0 q w)
theorem x_ne {x k : Int32} {a : Int} (h : ¬ x = k) (hk : k.toInt = a) : x.toInt ≠ a := fun q => h (Int32.toInt_inj.mp (by rw [hk]; exact q))
end
section
def wS (cI cZ cB cO : ClassId) (h : Nat) (p : Nat → Nat) (f0 : Int32) (f1 : Int32) (f2 : (Nat → Int32)) : va_W := [(h, .inr (3, [.int f0, .int f1, .ref (p 2)])), (p 2, .inl (cI, 3, .inl f2))]
def wT (cI cZ cB cO : ClassId) (h : Nat) (p : Nat → Nat) (f0 : Int32) (f1 : (Nat → Int32)) : va_W := [(h, .inr (5, [.int f0, .ref (p 1)])), (p 1, .inl (cB, 80, .inl f1))]
def wE (cI cZ cB cO : ClassId) (h : Nat) (p : Nat → Nat) (f0 : Int32) (f1 : (Nat → Int32)) (f2 : (Nat → Int32)) (f3 : (Nat → Int32)) (f4 : (Nat → Int32)) (f5 : (Nat → Int32)) (f6 : (Nat → Int32)) (f7 : Int32) : va_W := [(h, .inr (1, [.int f0, .ref (p 1), .ref (p 2), .ref (p 3), .ref (p 4), .ref (p 5), .ref (p 6), .int f7])), (p 1, .inl (cI, 64, .inl f1)), (p 2, .inl (cI, 64, .inl f2)), (p 3, .inl (cI, 8, .inl f3)), (p 4, .inl (cI, 9, .inl f4)), (p 5, .inl (cI, 28, .inl f5)), (p 6, .inl (cI, 28, .inl f6))]
def wK (cI cZ cB cO : ClassId) (h : Nat) (p : Nat → Nat) (f0 : Int32) (f1 : (Nat → Int32)) (f2 : (Nat → Int32)) (f3 : (Nat → Int32)) (f4 : (Nat → Int32)) (f5 : (Nat → Int32)) (f6 : Int32) : va_W := [(h, .inr (0, [.int f0, .ref (p 1), .ref (p 2), .ref (p 3), .ref (p 4), .ref (p 5), .int f6])), (p 1, .inl (cI, 256, .inl f1)), (p 2, .inl (cI, 10, .inl f2)), (p 3, .inl (cI, 256, .inl f3)), (p 4, .inl (cI, 256, .inl f4)), (p 5, .inl (cI, 256, .inl f5))]
def wR (cI cZ cB cO : ClassId) (h : Nat) (p : Nat → Nat) (f1 : Int32) (f2 : Int32) (f3 : Int32) (f4 : Int32) (f5 : Int32) (f6 : Int32) (f7 : Int32) : va_W := [(h, .inr (2, [.ref (p 0), .int f1, .int f2, .int f3, .int f4, .int f5, .int f6, .int f7]))]
def wC (cI cZ cB cO : ClassId) (h : Nat) (p : Nat → Nat) (f6 : Int32) (f7 : Int32) (f8 : Int32) (f9 : Int32) : va_W := [(h, .inr (6, [.ref (p 0), .ref (p 1), .ref (p 2), .ref (p 3), .ref (p 4), .ref (p 5), .int f6, .int f7, .int f8, .int f9]))]
def wM (cI cZ cB cO : ClassId) (h : Nat) (p : Nat → Nat) (f0 : (Nat → Int32)) (f1 : (Nat → Int32)) (f2 : (Nat → Int32)) (f3 : Int32) (f4 : (Nat → Int32)) (f5 : (Nat → Int32)) (f6 : Int32) (f7 : Int32) (f8 : (Nat → Int32)) (f9 : (Nat → Int32)) (f10 : (Nat → Int32)) (f11 : (Nat → Int32)) (f12 : (Nat → Int32)) (f13 : (Nat → Int32)) (f14 : (Nat → Int32)) (f15 : Int32) (f16 : Int32) (f17 : (Nat → Int32)) (f18 : (Nat → Int32)) (f19 : (Nat → Int32)) (f20 : (Nat → Int32)) (f21 : Int32) (f22 : Int32) (f23 : Int32) (f24 : Int32) (f25 : Int32) (f26 : (Nat → Int32)) (f27 : (Nat → Int32)) (f28 : Int64) : va_W := [(h, .inr (7, [.ref (p 0), .ref (p 1), .ref (p 2), .int f3, .ref (p 4), .ref (p 5), .int f6, .int f7, .ref (p 8), .ref (p 9), .ref (p 10), .ref (p 11), .ref (p 12), .ref (p 13), .ref (p 14), .int f15, .int f16, .ref (p 17), .ref (p 18), .ref (p 19), .ref (p 20), .int f21, .int f22, .int f23, .int f24, .int f25, .ref (p 26), .ref (p 27), .long f28])), (p 0, .inl (cI, 5, .inl f0)), (p 1, .inl (cI, 5, .inl f1)), (p 2, .inl (cI, 25, .inl f2)), (p 4, .inl (cI, 3, .inl f4)), (p 5, .inl (cI, 8, .inl f5)), (p 8, .inl (cZ, 40320, .inl f8)), (p 9, .inl (cI, 40320, .inl f9)), (p 10, .inl (cI, 24, .inl f10)), (p 11, .inl (cI, 8, .inl f11)), (p 12, .inl (cI, 8, .inl f12)), (p 13, .inl (cZ, 256, .inl f13)), (p 14, .inl (cI, 256, .inl f14)), (p 17, .inl (cI, 256, .inl f17)), (p 18, .inl (cI, 256, .inl f18)), (p 19, .inl (cI, 10, .inl f19)), (p 20, .inl (cI, 80, .inl f20)), (p 26, .inl (cI, 40, .inl f26)), (p 27, .inl (cI, 40, .inl f27))]
def wA (cI cZ cB cO : ClassId) (h n : Nat) (row : Nat → Int32) : va_W := [(h, .inl (cI, n, .inl row))]
theorem dX2_at_0 : decode cX2_at 0 = .ok (.iload_n 0, 1) := by decide +kernel
theorem dX2_at_1 : decode cX2_at 1 = .ok (.iconst 3, 1) := by decide +kernel
theorem dX2_at_2 : decode cX2_at 2 = .ok (.iload_n 1, 1) := by decide +kernel
theorem dX2_at_3 : decode cX2_at 3 = .ok (.imul, 1) := by decide +kernel
theorem dX2_at_4 : decode cX2_at 4 = .ok (.iushr, 1) := by decide +kernel
theorem dX2_at_5 : decode cX2_at 5 = .ok (.bipush 7, 2) := by decide +kernel
theorem dX2_at_7 : decode cX2_at 7 = .ok (.iand, 1) := by decide +kernel
theorem dX2_at_8 : decode cX2_at 8 = .ok (.ireturn, 1) := by decide +kernel
theorem dX2_then_0 : decode cX2_then 0 = .ok (.iconst 0, 1) := by decide +kernel
theorem dX2_then_1 : decode cX2_then 1 = .ok (.istore_n 2, 1) := by decide +kernel
theorem dX2_then_2 : decode cX2_then 2 = .ok (.iconst 0, 1) := by decide +kernel
theorem dX2_then_3 : decode cX2_then 3 = .ok (.istore_n 3, 1) := by decide +kernel
theorem dX2_then_4 : decode cX2_then 4 = .ok (.iload_n 3, 1) := by decide +kernel
theorem dX2_then_5 : decode cX2_then 5 = .ok (.bipush 24, 2) := by decide +kernel
theorem dX2_then_7 : decode cX2_then 7 = .ok (.if_icmp .ge 27, 3) := by decide +kernel
theorem dX2_then_10 : decode cX2_then 10 = .ok (.iload_n 2, 1) := by decide +kernel
theorem dX2_then_11 : decode cX2_then 11 = .ok (.iload_n 1, 1) := by decide +kernel
theorem dX2_then_12 : decode cX2_then 12 = .ok (.iconst 3, 1) := by decide +kernel
theorem dX2_then_13 : decode cX2_then 13 = .ok (.iload_n 0, 1) := by decide +kernel
theorem dX2_then_14 : decode cX2_then 14 = .ok (.iload_n 3, 1) := by decide +kernel
theorem dX2_then_15 : decode cX2_then 15 = .ok (.iushr, 1) := by decide +kernel
theorem dX2_then_16 : decode cX2_then 16 = .ok (.bipush 7, 2) := by decide +kernel
theorem dX2_then_18 : decode cX2_then 18 = .ok (.iand, 1) := by decide +kernel
theorem dX2_then_19 : decode cX2_then 19 = .ok (.imul, 1) := by decide +kernel
theorem dX2_then_20 : decode cX2_then 20 = .ok (.iushr, 1) := by decide +kernel
theorem dX2_then_21 : decode cX2_then 21 = .ok (.bipush 7, 2) := by decide +kernel
theorem dX2_then_23 : decode cX2_then 23 = .ok (.iand, 1) := by decide +kernel
theorem dX2_then_24 : decode cX2_then 24 = .ok (.iload_n 3, 1) := by decide +kernel
theorem dX2_then_25 : decode cX2_then 25 = .ok (.ishl, 1) := by decide +kernel
theorem dX2_then_26 : decode cX2_then 26 = .ok (.ior, 1) := by decide +kernel
theorem dX2_then_27 : decode cX2_then 27 = .ok (.istore_n 2, 1) := by decide +kernel
theorem dX2_then_28 : decode cX2_then 28 = .ok (.iinc 3 3, 3) := by decide +kernel
theorem dX2_then_31 : decode cX2_then 31 = .ok (.goto (-27), 3) := by decide +kernel
theorem dX2_then_34 : decode cX2_then 34 = .ok (.iload_n 2, 1) := by decide +kernel
theorem dX2_then_35 : decode cX2_then 35 = .ok (.ireturn, 1) := by decide +kernel
theorem dX2_inverse_0 : decode cX2_inverse 0 = .ok (.iconst 0, 1) := by decide +kernel
theorem dX2_inverse_1 : decode cX2_inverse 1 = .ok (.istore_n 1, 1) := by decide +kernel
theorem dX2_inverse_2 : decode cX2_inverse 2 = .ok (.iconst 0, 1) := by decide +kernel
theorem dX2_inverse_3 : decode cX2_inverse 3 = .ok (.istore_n 2, 1) := by decide +kernel
theorem dX2_inverse_4 : decode cX2_inverse 4 = .ok (.iload_n 2, 1) := by decide +kernel
theorem dX2_inverse_5 : decode cX2_inverse 5 = .ok (.bipush 8, 2) := by decide +kernel
theorem dX2_inverse_7 : decode cX2_inverse 7 = .ok (.if_icmp .ge 24, 3) := by decide +kernel
theorem dX2_inverse_10 : decode cX2_inverse 10 = .ok (.iload_n 1, 1) := by decide +kernel
theorem dX2_inverse_11 : decode cX2_inverse 11 = .ok (.iload_n 2, 1) := by decide +kernel
theorem dX2_inverse_12 : decode cX2_inverse 12 = .ok (.iconst 3, 1) := by decide +kernel
theorem dX2_inverse_13 : decode cX2_inverse 13 = .ok (.iload_n 0, 1) := by decide +kernel
theorem dX2_inverse_14 : decode cX2_inverse 14 = .ok (.iconst 3, 1) := by decide +kernel
theorem dX2_inverse_15 : decode cX2_inverse 15 = .ok (.iload_n 2, 1) := by decide +kernel
theorem dX2_inverse_16 : decode cX2_inverse 16 = .ok (.imul, 1) := by decide +kernel
theorem dX2_inverse_17 : decode cX2_inverse 17 = .ok (.iushr, 1) := by decide +kernel
theorem dX2_inverse_18 : decode cX2_inverse 18 = .ok (.bipush 7, 2) := by decide +kernel
theorem dX2_inverse_20 : decode cX2_inverse 20 = .ok (.iand, 1) := by decide +kernel
theorem dX2_inverse_21 : decode cX2_inverse 21 = .ok (.imul, 1) := by decide +kernel
theorem dX2_inverse_22 : decode cX2_inverse 22 = .ok (.ishl, 1) := by decide +kernel
theorem dX2_inverse_23 : decode cX2_inverse 23 = .ok (.ior, 1) := by decide +kernel
theorem dX2_inverse_24 : decode cX2_inverse 24 = .ok (.istore_n 1, 1) := by decide +kernel
theorem dX2_inverse_25 : decode cX2_inverse 25 = .ok (.iinc 2 1, 3) := by decide +kernel
theorem dX2_inverse_28 : decode cX2_inverse 28 = .ok (.goto (-24), 3) := by decide +kernel
theorem dX2_inverse_31 : decode cX2_inverse 31 = .ok (.iload_n 1, 1) := by decide +kernel
theorem dX2_inverse_32 : decode cX2_inverse 32 = .ok (.ireturn, 1) := by decide +kernel
theorem dX2_carry_0 : decode cX2_carry 0 = .ok (.iconst 0, 1) := by decide +kernel
theorem dX2_carry_1 : decode cX2_carry 1 = .ok (.istore_n 2, 1) := by decide +kernel
theorem dX2_carry_2 : decode cX2_carry 2 = .ok (.iload_n 0, 1) := by decide +kernel
theorem dX2_carry_3 : decode cX2_carry 3 = .ok (.istore_n 3, 1) := by decide +kernel
theorem dX2_carry_4 : decode cX2_carry 4 = .ok (.iconst 0, 1) := by decide +kernel
theorem dX2_carry_5 : decode cX2_carry 5 = .ok (.istore 4, 2) := by decide +kernel
theorem dX2_carry_7 : decode cX2_carry 7 = .ok (.iload 4, 2) := by decide +kernel
theorem dX2_carry_9 : decode cX2_carry 9 = .ok (.bipush 24, 2) := by decide +kernel
theorem dX2_carry_11 : decode cX2_carry 11 = .ok (.if_icmp .ge 31, 3) := by decide +kernel
theorem dX2_carry_14 : decode cX2_carry 14 = .ok (.iload_n 3, 1) := by decide +kernel
theorem dX2_carry_15 : decode cX2_carry 15 = .ok (.ifCond .eq 27, 3) := by decide +kernel
theorem dX2_carry_18 : decode cX2_carry 18 = .ok (.iload_n 2, 1) := by decide +kernel
theorem dX2_carry_19 : decode cX2_carry 19 = .ok (.iload_n 3, 1) := by decide +kernel
theorem dX2_carry_20 : decode cX2_carry 20 = .ok (.iconst 1, 1) := by decide +kernel
theorem dX2_carry_21 : decode cX2_carry 21 = .ok (.iand, 1) := by decide +kernel
theorem dX2_carry_22 : decode cX2_carry 22 = .ok (.iload_n 1, 1) := by decide +kernel
theorem dX2_carry_23 : decode cX2_carry 23 = .ok (.iload 4, 2) := by decide +kernel
theorem dX2_carry_25 : decode cX2_carry 25 = .ok (.iushr, 1) := by decide +kernel
theorem dX2_carry_26 : decode cX2_carry 26 = .ok (.bipush 7, 2) := by decide +kernel
theorem dX2_carry_28 : decode cX2_carry 28 = .ok (.iand, 1) := by decide +kernel
theorem dX2_carry_29 : decode cX2_carry 29 = .ok (.ishl, 1) := by decide +kernel
theorem dX2_carry_30 : decode cX2_carry 30 = .ok (.ior, 1) := by decide +kernel
theorem dX2_carry_31 : decode cX2_carry 31 = .ok (.istore_n 2, 1) := by decide +kernel
theorem dX2_carry_32 : decode cX2_carry 32 = .ok (.iload_n 3, 1) := by decide +kernel
theorem dX2_carry_33 : decode cX2_carry 33 = .ok (.iconst 1, 1) := by decide +kernel
theorem dX2_carry_34 : decode cX2_carry 34 = .ok (.iushr, 1) := by decide +kernel
theorem dX2_carry_35 : decode cX2_carry 35 = .ok (.istore_n 3, 1) := by decide +kernel
theorem dX2_carry_36 : decode cX2_carry 36 = .ok (.iinc 4 3, 3) := by decide +kernel
theorem dX2_carry_39 : decode cX2_carry 39 = .ok (.goto (-32), 3) := by decide +kernel
theorem dX2_carry_42 : decode cX2_carry 42 = .ok (.iload_n 2, 1) := by decide +kernel
theorem dX2_carry_43 : decode cX2_carry 43 = .ok (.ireturn, 1) := by decide +kernel
theorem dX2_read_0 : decode cX2_read 0 = .ok (.iload_n 0, 1) := by decide +kernel
theorem dX2_read_1 : decode cX2_read 1 = .ok (.istore_n 2, 1) := by decide +kernel
theorem dX2_read_2 : decode cX2_read 2 = .ok (.iconst 0, 1) := by decide +kernel
theorem dX2_read_3 : decode cX2_read 3 = .ok (.istore_n 3, 1) := by decide +kernel
theorem dX2_read_4 : decode cX2_read 4 = .ok (.ldc 11, 2) := by decide +kernel
theorem dX2_read_6 : decode cX2_read 6 = .ok (.istore 4, 2) := by decide +kernel
theorem dX2_read_8 : decode cX2_read 8 = .ok (.iload_n 1, 1) := by decide +kernel
theorem dX2_read_9 : decode cX2_read 9 = .ok (.iconst 1, 1) := by decide +kernel
theorem dX2_read_10 : decode cX2_read 10 = .ok (.isub, 1) := by decide +kernel
theorem dX2_read_11 : decode cX2_read 11 = .ok (.istore 5, 2) := by decide +kernel
theorem dX2_read_13 : decode cX2_read 13 = .ok (.iload 5, 2) := by decide +kernel
theorem dX2_read_15 : decode cX2_read 15 = .ok (.ifCond .lt 71, 3) := by decide +kernel
theorem dX2_read_18 : decode cX2_read 18 = .ok (.iload_n 2, 1) := by decide +kernel
theorem dX2_read_19 : decode cX2_read 19 = .ok (.bipush 10, 2) := by decide +kernel
theorem dX2_read_21 : decode cX2_read 21 = .ok (.irem, 1) := by decide +kernel
theorem dX2_read_22 : decode cX2_read 22 = .ok (.istore 6, 2) := by decide +kernel
theorem dX2_read_24 : decode cX2_read 24 = .ok (.iload_n 2, 1) := by decide +kernel
theorem dX2_read_25 : decode cX2_read 25 = .ok (.bipush 10, 2) := by decide +kernel
theorem dX2_read_27 : decode cX2_read 27 = .ok (.idiv, 1) := by decide +kernel
theorem dX2_read_28 : decode cX2_read 28 = .ok (.istore_n 2, 1) := by decide +kernel
theorem dX2_read_29 : decode cX2_read 29 = .ok (.iload 6, 2) := by decide +kernel
theorem dX2_read_31 : decode cX2_read 31 = .ok (.ifCond .lt 18, 3) := by decide +kernel
theorem dX2_read_34 : decode cX2_read 34 = .ok (.iload 6, 2) := by decide +kernel
theorem dX2_read_36 : decode cX2_read 36 = .ok (.iload_n 1, 1) := by decide +kernel
theorem dX2_read_37 : decode cX2_read 37 = .ok (.if_icmp .ge 12, 3) := by decide +kernel
theorem dX2_read_40 : decode cX2_read 40 = .ok (.iload_n 3, 1) := by decide +kernel
theorem dX2_read_41 : decode cX2_read 41 = .ok (.iload 6, 2) := by decide +kernel
theorem dX2_read_43 : decode cX2_read 43 = .ok (.ishr, 1) := by decide +kernel
theorem dX2_read_44 : decode cX2_read 44 = .ok (.iconst 1, 1) := by decide +kernel
theorem dX2_read_45 : decode cX2_read 45 = .ok (.iand, 1) := by decide +kernel
theorem dX2_read_46 : decode cX2_read 46 = .ok (.ifCond .eq 5, 3) := by decide +kernel
theorem dX2_read_49 : decode cX2_read 49 = .ok (.iconst (-1), 1) := by decide +kernel
theorem dX2_read_50 : decode cX2_read 50 = .ok (.ireturn, 1) := by decide +kernel
theorem dX2_read_51 : decode cX2_read 51 = .ok (.iload_n 3, 1) := by decide +kernel
theorem dX2_read_52 : decode cX2_read 52 = .ok (.iconst 1, 1) := by decide +kernel
theorem dX2_read_53 : decode cX2_read 53 = .ok (.iload 6, 2) := by decide +kernel
theorem dX2_read_55 : decode cX2_read 55 = .ok (.ishl, 1) := by decide +kernel
theorem dX2_read_56 : decode cX2_read 56 = .ok (.ior, 1) := by decide +kernel
theorem dX2_read_57 : decode cX2_read 57 = .ok (.istore_n 3, 1) := by decide +kernel
theorem dX2_read_58 : decode cX2_read 58 = .ok (.iload 4, 2) := by decide +kernel
theorem dX2_read_60 : decode cX2_read 60 = .ok (.bipush 7, 2) := by decide +kernel
theorem dX2_read_62 : decode cX2_read 62 = .ok (.iconst 3, 1) := by decide +kernel
theorem dX2_read_63 : decode cX2_read 63 = .ok (.iload 5, 2) := by decide +kernel
theorem dX2_read_65 : decode cX2_read 65 = .ok (.imul, 1) := by decide +kernel
theorem dX2_read_66 : decode cX2_read 66 = .ok (.ishl, 1) := by decide +kernel
theorem dX2_read_67 : decode cX2_read 67 = .ok (.iconst (-1), 1) := by decide +kernel
theorem dX2_read_68 : decode cX2_read 68 = .ok (.ixor, 1) := by decide +kernel
theorem dX2_read_69 : decode cX2_read 69 = .ok (.iand, 1) := by decide +kernel
theorem dX2_read_70 : decode cX2_read 70 = .ok (.iload 6, 2) := by decide +kernel
theorem dX2_read_72 : decode cX2_read 72 = .ok (.iconst 3, 1) := by decide +kernel
theorem dX2_read_73 : decode cX2_read 73 = .ok (.iload 5, 2) := by decide +kernel
theorem dX2_read_75 : decode cX2_read 75 = .ok (.imul, 1) := by decide +kernel
theorem dX2_read_76 : decode cX2_read 76 = .ok (.ishl, 1) := by decide +kernel
theorem dX2_read_77 : decode cX2_read 77 = .ok (.ior, 1) := by decide +kernel
theorem dX2_read_78 : decode cX2_read 78 = .ok (.istore 4, 2) := by decide +kernel
theorem dX2_read_80 : decode cX2_read 80 = .ok (.iinc 5 (-1), 3) := by decide +kernel
theorem dX2_read_83 : decode cX2_read 83 = .ok (.goto (-70), 3) := by decide +kernel
theorem dX2_read_86 : decode cX2_read 86 = .ok (.iload_n 2, 1) := by decide +kernel
theorem dX2_read_87 : decode cX2_read 87 = .ok (.ifCond .ne 8, 3) := by decide +kernel
theorem dX2_read_90 : decode cX2_read 90 = .ok (.iload 4, 2) := by decide +kernel
theorem dX2_read_92 : decode cX2_read 92 = .ok (.goto 4, 3) := by decide +kernel
theorem dX2_read_95 : decode cX2_read 95 = .ok (.iconst (-1), 1) := by decide +kernel
theorem dX2_read_96 : decode cX2_read 96 = .ok (.ireturn, 1) := by decide +kernel
theorem dX2_write_0 : decode cX2_write 0 = .ok (.iconst 0, 1) := by decide +kernel
theorem dX2_write_1 : decode cX2_write 1 = .ok (.istore_n 2, 1) := by decide +kernel
theorem dX2_write_2 : decode cX2_write 2 = .ok (.iconst 0, 1) := by decide +kernel
theorem dX2_write_3 : decode cX2_write 3 = .ok (.istore_n 3, 1) := by decide +kernel
theorem dX2_write_4 : decode cX2_write 4 = .ok (.iload_n 3, 1) := by decide +kernel
theorem dX2_write_5 : decode cX2_write 5 = .ok (.iload_n 1, 1) := by decide +kernel
theorem dX2_write_6 : decode cX2_write 6 = .ok (.if_icmp .ge 20, 3) := by decide +kernel
theorem dX2_write_9 : decode cX2_write 9 = .ok (.bipush 10, 2) := by decide +kernel
theorem dX2_write_11 : decode cX2_write 11 = .ok (.iload_n 2, 1) := by decide +kernel
theorem dX2_write_12 : decode cX2_write 12 = .ok (.imul, 1) := by decide +kernel
theorem dX2_write_13 : decode cX2_write 13 = .ok (.iload_n 0, 1) := by decide +kernel
theorem dX2_write_14 : decode cX2_write 14 = .ok (.iload_n 3, 1) := by decide +kernel
theorem dX2_write_15 : decode cX2_write 15 = .ok (.invokestatic 12, 3) := by decide +kernel
theorem dX2_write_18 : decode cX2_write 18 = .ok (.iadd, 1) := by decide +kernel
theorem dX2_write_19 : decode cX2_write 19 = .ok (.istore_n 2, 1) := by decide +kernel
theorem dX2_write_20 : decode cX2_write 20 = .ok (.iinc 3 1, 3) := by decide +kernel
theorem dX2_write_23 : decode cX2_write 23 = .ok (.goto (-19), 3) := by decide +kernel
theorem dX2_write_26 : decode cX2_write 26 = .ok (.iload_n 2, 1) := by decide +kernel
theorem dX2_write_27 : decode cX2_write 27 = .ok (.ireturn, 1) := by decide +kernel
theorem dJ6_bitCount_0f7a4_0 : decode cJ6_bitCount_0f7a4 0 = .ok (.iload_n 0, 1) := by decide +kernel
theorem dJ6_bitCount_0f7a4_1 : decode cJ6_bitCount_0f7a4 1 = .ok (.iload_n 0, 1) := by decide +kernel
theorem dJ6_bitCount_0f7a4_2 : decode cJ6_bitCount_0f7a4 2 = .ok (.iconst 1, 1) := by decide +kernel
theorem dJ6_bitCount_0f7a4_3 : decode cJ6_bitCount_0f7a4 3 = .ok (.iushr, 1) := by decide +kernel
theorem dJ6_bitCount_0f7a4_4 : decode cJ6_bitCount_0f7a4 4 = .ok (.ldc_w 265, 3) := by decide +kernel
theorem dJ6_bitCount_0f7a4_7 : decode cJ6_bitCount_0f7a4 7 = .ok (.iand, 1) := by decide +kernel
theorem dJ6_bitCount_0f7a4_8 : decode cJ6_bitCount_0f7a4 8 = .ok (.isub, 1) := by decide +kernel
theorem dJ6_bitCount_0f7a4_9 : decode cJ6_bitCount_0f7a4 9 = .ok (.istore_n 0, 1) := by decide +kernel
theorem dJ6_bitCount_0f7a4_10 : decode cJ6_bitCount_0f7a4 10 = .ok (.iload_n 0, 1) := by decide +kernel
theorem dJ6_bitCount_0f7a4_11 : decode cJ6_bitCount_0f7a4 11 = .ok (.ldc_w 266, 3) := by decide +kernel
theorem dJ6_bitCount_0f7a4_14 : decode cJ6_bitCount_0f7a4 14 = .ok (.iand, 1) := by decide +kernel
theorem dJ6_bitCount_0f7a4_15 : decode cJ6_bitCount_0f7a4 15 = .ok (.iload_n 0, 1) := by decide +kernel
theorem dJ6_bitCount_0f7a4_16 : decode cJ6_bitCount_0f7a4 16 = .ok (.iconst 2, 1) := by decide +kernel
theorem dJ6_bitCount_0f7a4_17 : decode cJ6_bitCount_0f7a4 17 = .ok (.iushr, 1) := by decide +kernel
theorem dJ6_bitCount_0f7a4_18 : decode cJ6_bitCount_0f7a4 18 = .ok (.ldc_w 266, 3) := by decide +kernel
theorem dJ6_bitCount_0f7a4_21 : decode cJ6_bitCount_0f7a4 21 = .ok (.iand, 1) := by decide +kernel
theorem dJ6_bitCount_0f7a4_22 : decode cJ6_bitCount_0f7a4 22 = .ok (.iadd, 1) := by decide +kernel
theorem dJ6_bitCount_0f7a4_23 : decode cJ6_bitCount_0f7a4 23 = .ok (.istore_n 0, 1) := by decide +kernel
theorem dJ6_bitCount_0f7a4_24 : decode cJ6_bitCount_0f7a4 24 = .ok (.iload_n 0, 1) := by decide +kernel
theorem dJ6_bitCount_0f7a4_25 : decode cJ6_bitCount_0f7a4 25 = .ok (.iload_n 0, 1) := by decide +kernel
theorem dJ6_bitCount_0f7a4_26 : decode cJ6_bitCount_0f7a4 26 = .ok (.iconst 4, 1) := by decide +kernel
theorem dJ6_bitCount_0f7a4_27 : decode cJ6_bitCount_0f7a4 27 = .ok (.iushr, 1) := by decide +kernel
theorem dJ6_bitCount_0f7a4_28 : decode cJ6_bitCount_0f7a4 28 = .ok (.iadd, 1) := by decide +kernel
theorem dJ6_bitCount_0f7a4_29 : decode cJ6_bitCount_0f7a4 29 = .ok (.ldc_w 267, 3) := by decide +kernel
theorem dJ6_bitCount_0f7a4_32 : decode cJ6_bitCount_0f7a4 32 = .ok (.iand, 1) := by decide +kernel
theorem dJ6_bitCount_0f7a4_33 : decode cJ6_bitCount_0f7a4 33 = .ok (.istore_n 0, 1) := by decide +kernel
theorem dJ6_bitCount_0f7a4_34 : decode cJ6_bitCount_0f7a4 34 = .ok (.iload_n 0, 1) := by decide +kernel
theorem dJ6_bitCount_0f7a4_35 : decode cJ6_bitCount_0f7a4 35 = .ok (.iload_n 0, 1) := by decide +kernel
theorem dJ6_bitCount_0f7a4_36 : decode cJ6_bitCount_0f7a4 36 = .ok (.bipush 8, 2) := by decide +kernel
theorem dJ6_bitCount_0f7a4_38 : decode cJ6_bitCount_0f7a4 38 = .ok (.iushr, 1) := by decide +kernel
theorem dJ6_bitCount_0f7a4_39 : decode cJ6_bitCount_0f7a4 39 = .ok (.iadd, 1) := by decide +kernel
theorem dJ6_bitCount_0f7a4_40 : decode cJ6_bitCount_0f7a4 40 = .ok (.istore_n 0, 1) := by decide +kernel
theorem dJ6_bitCount_0f7a4_41 : decode cJ6_bitCount_0f7a4 41 = .ok (.iload_n 0, 1) := by decide +kernel
theorem dJ6_bitCount_0f7a4_42 : decode cJ6_bitCount_0f7a4 42 = .ok (.iload_n 0, 1) := by decide +kernel
theorem dJ6_bitCount_0f7a4_43 : decode cJ6_bitCount_0f7a4 43 = .ok (.bipush 16, 2) := by decide +kernel
theorem dJ6_bitCount_0f7a4_45 : decode cJ6_bitCount_0f7a4 45 = .ok (.iushr, 1) := by decide +kernel
theorem dJ6_bitCount_0f7a4_46 : decode cJ6_bitCount_0f7a4 46 = .ok (.iadd, 1) := by decide +kernel
theorem dJ6_bitCount_0f7a4_47 : decode cJ6_bitCount_0f7a4 47 = .ok (.istore_n 0, 1) := by decide +kernel
theorem dJ6_bitCount_0f7a4_48 : decode cJ6_bitCount_0f7a4 48 = .ok (.iload_n 0, 1) := by decide +kernel
theorem dJ6_bitCount_0f7a4_49 : decode cJ6_bitCount_0f7a4 49 = .ok (.bipush 63, 2) := by decide +kernel
theorem dJ6_bitCount_0f7a4_51 : decode cJ6_bitCount_0f7a4 51 = .ok (.iand, 1) := by decide +kernel
theorem dJ6_bitCount_0f7a4_52 : decode cJ6_bitCount_0f7a4 52 = .ok (.ireturn, 1) := by decide +kernel
theorem dJ7_fill_53178_0 : decode cJ7_fill_53178 0 = .ok (.iconst 0, 1) := by decide +kernel
theorem dJ7_fill_53178_1 : decode cJ7_fill_53178 1 = .ok (.istore_n 2, 1) := by decide +kernel
theorem dJ7_fill_53178_2 : decode cJ7_fill_53178 2 = .ok (.aload_n 0, 1) := by decide +kernel
theorem dJ7_fill_53178_3 : decode cJ7_fill_53178 3 = .ok (.arraylength, 1) := by decide +kernel
theorem dJ7_fill_53178_4 : decode cJ7_fill_53178 4 = .ok (.istore_n 3, 1) := by decide +kernel
theorem dJ7_fill_53178_5 : decode cJ7_fill_53178 5 = .ok (.iload_n 2, 1) := by decide +kernel
theorem dJ7_fill_53178_6 : decode cJ7_fill_53178 6 = .ok (.iload_n 3, 1) := by decide +kernel
theorem dJ7_fill_53178_7 : decode cJ7_fill_53178 7 = .ok (.if_icmp .ge 13, 3) := by decide +kernel
theorem dJ7_fill_53178_10 : decode cJ7_fill_53178 10 = .ok (.aload_n 0, 1) := by decide +kernel
theorem dJ7_fill_53178_11 : decode cJ7_fill_53178 11 = .ok (.iload_n 2, 1) := by decide +kernel
theorem dJ7_fill_53178_12 : decode cJ7_fill_53178 12 = .ok (.iload_n 1, 1) := by decide +kernel
theorem dJ7_fill_53178_13 : decode cJ7_fill_53178 13 = .ok (.iastore, 1) := by decide +kernel
theorem dJ7_fill_53178_14 : decode cJ7_fill_53178 14 = .ok (.iinc 2 1, 3) := by decide +kernel
theorem dJ7_fill_53178_17 : decode cJ7_fill_53178 17 = .ok (.goto (-12), 3) := by decide +kernel
theorem dJ7_fill_53178_20 : decode cJ7_fill_53178 20 = .ok (.return_, 1) := by decide +kernel
theorem dX4_start_0 : decode cX4_start 0 = .ok (.aload_n 0, 1) := by decide +kernel
theorem dX4_start_1 : decode cX4_start 1 = .ok (.iload_n 1, 1) := by decide +kernel
theorem dX4_start_2 : decode cX4_start 2 = .ok (.putfield 9, 3) := by decide +kernel
theorem dX4_start_5 : decode cX4_start 5 = .ok (.aload_n 0, 1) := by decide +kernel
theorem dX4_start_6 : decode cX4_start 6 = .ok (.iconst 0, 1) := by decide +kernel
theorem dX4_start_7 : decode cX4_start 7 = .ok (.putfield 15, 3) := by decide +kernel
theorem dX4_start_10 : decode cX4_start 10 = .ok (.return_, 1) := by decide +kernel
theorem dX4_generator_0 : decode cX4_generator 0 = .ok (.iload_n 1, 1) := by decide +kernel
theorem dX4_generator_1 : decode cX4_generator 1 = .ok (.ifCond .lt 20, 3) := by decide +kernel
theorem dX4_generator_4 : decode cX4_generator 4 = .ok (.iload_n 1, 1) := by decide +kernel
theorem dX4_generator_5 : decode cX4_generator 5 = .ok (.aload_n 0, 1) := by decide +kernel
theorem dX4_generator_6 : decode cX4_generator 6 = .ok (.getfield 15, 3) := by decide +kernel
theorem dX4_generator_9 : decode cX4_generator 9 = .ok (.if_icmp .ge 12, 3) := by decide +kernel
theorem dX4_generator_12 : decode cX4_generator 12 = .ok (.aload_n 0, 1) := by decide +kernel
theorem dX4_generator_13 : decode cX4_generator 13 = .ok (.getfield 18, 3) := by decide +kernel
theorem dX4_generator_16 : decode cX4_generator 16 = .ok (.iload_n 1, 1) := by decide +kernel
theorem dX4_generator_17 : decode cX4_generator 17 = .ok (.iaload, 1) := by decide +kernel
theorem dX4_generator_18 : decode cX4_generator 18 = .ok (.goto 5, 3) := by decide +kernel
theorem dX4_generator_21 : decode cX4_generator 21 = .ok (.ldc 24, 2) := by decide +kernel
theorem dX4_generator_23 : decode cX4_generator 23 = .ok (.ireturn, 1) := by decide +kernel
theorem dX4_adds_0 : decode cX4_adds 0 = .ok (.aload_n 0, 1) := by decide +kernel
theorem dX4_adds_1 : decode cX4_adds 1 = .ok (.getfield 15, 3) := by decide +kernel
theorem dX4_adds_4 : decode cX4_adds 4 = .ok (.iconst 3, 1) := by decide +kernel
theorem dX4_adds_5 : decode cX4_adds 5 = .ok (.if_icmp .lt 5, 3) := by decide +kernel
theorem dX4_adds_8 : decode cX4_adds 8 = .ok (.iconst 0, 1) := by decide +kernel
theorem dX4_adds_9 : decode cX4_adds 9 = .ok (.ireturn, 1) := by decide +kernel
theorem dX4_adds_10 : decode cX4_adds 10 = .ok (.aload_n 0, 1) := by decide +kernel
theorem dX4_adds_11 : decode cX4_adds 11 = .ok (.getfield 18, 3) := by decide +kernel
theorem dX4_adds_14 : decode cX4_adds 14 = .ok (.aload_n 0, 1) := by decide +kernel
theorem dX4_adds_15 : decode cX4_adds 15 = .ok (.getfield 15, 3) := by decide +kernel
theorem dX4_adds_18 : decode cX4_adds 18 = .ok (.iload_n 1, 1) := by decide +kernel
theorem dX4_adds_19 : decode cX4_adds 19 = .ok (.iastore, 1) := by decide +kernel
theorem dX4_adds_20 : decode cX4_adds 20 = .ok (.aload_n 0, 1) := by decide +kernel
theorem dX4_adds_21 : decode cX4_adds 21 = .ok (.dup, 1) := by decide +kernel
theorem dX4_adds_22 : decode cX4_adds 22 = .ok (.getfield 15, 3) := by decide +kernel
theorem dX4_adds_25 : decode cX4_adds 25 = .ok (.iconst 1, 1) := by decide +kernel
theorem dX4_adds_26 : decode cX4_adds 26 = .ok (.iadd, 1) := by decide +kernel
theorem dX4_adds_27 : decode cX4_adds 27 = .ok (.putfield 15, 3) := by decide +kernel
theorem dX4_adds_30 : decode cX4_adds 30 = .ok (.iconst 1, 1) := by decide +kernel
theorem dX4_adds_31 : decode cX4_adds 31 = .ok (.ireturn, 1) := by decide +kernel
theorem dX4_loses_0 : decode cX4_loses 0 = .ok (.iload_n 1, 1) := by decide +kernel
theorem dX4_loses_1 : decode cX4_loses 1 = .ok (.ifCond .lt 11, 3) := by decide +kernel
theorem dX4_loses_4 : decode cX4_loses 4 = .ok (.iload_n 1, 1) := by decide +kernel
theorem dX4_loses_5 : decode cX4_loses 5 = .ok (.aload_n 0, 1) := by decide +kernel
theorem dX4_loses_6 : decode cX4_loses 6 = .ok (.getfield 15, 3) := by decide +kernel
theorem dX4_loses_9 : decode cX4_loses 9 = .ok (.if_icmp .lt 5, 3) := by decide +kernel
theorem dX4_loses_12 : decode cX4_loses 12 = .ok (.iconst 0, 1) := by decide +kernel
theorem dX4_loses_13 : decode cX4_loses 13 = .ok (.ireturn, 1) := by decide +kernel
theorem dX4_loses_14 : decode cX4_loses 14 = .ok (.iload_n 1, 1) := by decide +kernel
theorem dX4_loses_15 : decode cX4_loses 15 = .ok (.iconst 1, 1) := by decide +kernel
theorem dX4_loses_16 : decode cX4_loses 16 = .ok (.iadd, 1) := by decide +kernel
theorem dX4_loses_17 : decode cX4_loses 17 = .ok (.istore_n 2, 1) := by decide +kernel
theorem dX4_loses_18 : decode cX4_loses 18 = .ok (.iload_n 2, 1) := by decide +kernel
theorem dX4_loses_19 : decode cX4_loses 19 = .ok (.aload_n 0, 1) := by decide +kernel
theorem dX4_loses_20 : decode cX4_loses 20 = .ok (.getfield 15, 3) := by decide +kernel
theorem dX4_loses_23 : decode cX4_loses 23 = .ok (.if_icmp .ge 23, 3) := by decide +kernel
theorem dX4_loses_26 : decode cX4_loses 26 = .ok (.aload_n 0, 1) := by decide +kernel
theorem dX4_loses_27 : decode cX4_loses 27 = .ok (.getfield 18, 3) := by decide +kernel
theorem dX4_loses_30 : decode cX4_loses 30 = .ok (.iload_n 2, 1) := by decide +kernel
theorem dX4_loses_31 : decode cX4_loses 31 = .ok (.iconst 1, 1) := by decide +kernel
theorem dX4_loses_32 : decode cX4_loses 32 = .ok (.isub, 1) := by decide +kernel
theorem dX4_loses_33 : decode cX4_loses 33 = .ok (.aload_n 0, 1) := by decide +kernel
theorem dX4_loses_34 : decode cX4_loses 34 = .ok (.getfield 18, 3) := by decide +kernel
theorem dX4_loses_37 : decode cX4_loses 37 = .ok (.iload_n 2, 1) := by decide +kernel
theorem dX4_loses_38 : decode cX4_loses 38 = .ok (.iaload, 1) := by decide +kernel
theorem dX4_loses_39 : decode cX4_loses 39 = .ok (.iastore, 1) := by decide +kernel
theorem dX4_loses_40 : decode cX4_loses 40 = .ok (.iinc 2 1, 3) := by decide +kernel
theorem dX4_loses_43 : decode cX4_loses 43 = .ok (.goto (-25), 3) := by decide +kernel
theorem dX4_loses_46 : decode cX4_loses 46 = .ok (.aload_n 0, 1) := by decide +kernel
theorem dX4_loses_47 : decode cX4_loses 47 = .ok (.dup, 1) := by decide +kernel
theorem dX4_loses_48 : decode cX4_loses 48 = .ok (.getfield 15, 3) := by decide +kernel
theorem dX4_loses_51 : decode cX4_loses 51 = .ok (.iconst 1, 1) := by decide +kernel
theorem dX4_loses_52 : decode cX4_loses 52 = .ok (.isub, 1) := by decide +kernel
theorem dX4_loses_53 : decode cX4_loses 53 = .ok (.putfield 15, 3) := by decide +kernel
theorem dX4_loses_56 : decode cX4_loses 56 = .ok (.iconst 1, 1) := by decide +kernel
theorem dX4_loses_57 : decode cX4_loses 57 = .ok (.ireturn, 1) := by decide +kernel
theorem dX4_copy_0 : decode cX4_copy 0 = .ok (.aload_n 0, 1) := by decide +kernel
theorem dX4_copy_1 : decode cX4_copy 1 = .ok (.aload_n 1, 1) := by decide +kernel
theorem dX4_copy_2 : decode cX4_copy 2 = .ok (.getfield 9, 3) := by decide +kernel
theorem dX4_copy_5 : decode cX4_copy 5 = .ok (.putfield 9, 3) := by decide +kernel
theorem dX4_copy_8 : decode cX4_copy 8 = .ok (.aload_n 0, 1) := by decide +kernel
theorem dX4_copy_9 : decode cX4_copy 9 = .ok (.aload_n 1, 1) := by decide +kernel
theorem dX4_copy_10 : decode cX4_copy 10 = .ok (.getfield 15, 3) := by decide +kernel
theorem dX4_copy_13 : decode cX4_copy 13 = .ok (.putfield 15, 3) := by decide +kernel
theorem dX4_copy_16 : decode cX4_copy 16 = .ok (.aload_n 1, 1) := by decide +kernel
theorem dX4_copy_17 : decode cX4_copy 17 = .ok (.getfield 18, 3) := by decide +kernel
theorem dX4_copy_20 : decode cX4_copy 20 = .ok (.iconst 0, 1) := by decide +kernel
theorem dX4_copy_21 : decode cX4_copy 21 = .ok (.aload_n 0, 1) := by decide +kernel
theorem dX4_copy_22 : decode cX4_copy 22 = .ok (.getfield 18, 3) := by decide +kernel
theorem dX4_copy_25 : decode cX4_copy 25 = .ok (.iconst 0, 1) := by decide +kernel
theorem dX4_copy_26 : decode cX4_copy 26 = .ok (.iconst 3, 1) := by decide +kernel
theorem dX4_copy_27 : decode cX4_copy 27 = .ok (.invokestatic 25, 3) := by decide +kernel
theorem dX4_copy_30 : decode cX4_copy 30 = .ok (.return_, 1) := by decide +kernel
theorem dX6_add_0 : decode cX6_add 0 = .ok (.aload_n 0, 1) := by decide +kernel
theorem dX6_add_1 : decode cX6_add 1 = .ok (.getfield 9, 3) := by decide +kernel
theorem dX6_add_4 : decode cX6_add 4 = .ok (.bipush 80, 2) := by decide +kernel
theorem dX6_add_6 : decode cX6_add 6 = .ok (.if_icmp .ge 24, 3) := by decide +kernel
theorem dX6_add_9 : decode cX6_add 9 = .ok (.aload_n 0, 1) := by decide +kernel
theorem dX6_add_10 : decode cX6_add 10 = .ok (.getfield 15, 3) := by decide +kernel
theorem dX6_add_13 : decode cX6_add 13 = .ok (.aload_n 0, 1) := by decide +kernel
theorem dX6_add_14 : decode cX6_add 14 = .ok (.getfield 9, 3) := by decide +kernel
theorem dX6_add_17 : decode cX6_add 17 = .ok (.iload_n 1, 1) := by decide +kernel
theorem dX6_add_18 : decode cX6_add 18 = .ok (.i2b, 1) := by decide +kernel
theorem dX6_add_19 : decode cX6_add 19 = .ok (.bastore, 1) := by decide +kernel
theorem dX6_add_20 : decode cX6_add 20 = .ok (.aload_n 0, 1) := by decide +kernel
theorem dX6_add_21 : decode cX6_add 21 = .ok (.dup, 1) := by decide +kernel
theorem dX6_add_22 : decode cX6_add 22 = .ok (.getfield 9, 3) := by decide +kernel
theorem dX6_add_25 : decode cX6_add 25 = .ok (.iconst 1, 1) := by decide +kernel
theorem dX6_add_26 : decode cX6_add 26 = .ok (.iadd, 1) := by decide +kernel
theorem dX6_add_27 : decode cX6_add 27 = .ok (.putfield 9, 3) := by decide +kernel
theorem dX6_add_30 : decode cX6_add 30 = .ok (.return_, 1) := by decide +kernel
theorem dX6_at_0 : decode cX6_at 0 = .ok (.iload_n 1, 1) := by decide +kernel
theorem dX6_at_1 : decode cX6_at 1 = .ok (.ifCond .lt 20, 3) := by decide +kernel
theorem dX6_at_4 : decode cX6_at 4 = .ok (.iload_n 1, 1) := by decide +kernel
theorem dX6_at_5 : decode cX6_at 5 = .ok (.aload_n 0, 1) := by decide +kernel
theorem dX6_at_6 : decode cX6_at 6 = .ok (.getfield 9, 3) := by decide +kernel
theorem dX6_at_9 : decode cX6_at 9 = .ok (.if_icmp .ge 12, 3) := by decide +kernel
theorem dX6_at_12 : decode cX6_at 12 = .ok (.aload_n 0, 1) := by decide +kernel
theorem dX6_at_13 : decode cX6_at 13 = .ok (.getfield 15, 3) := by decide +kernel
theorem dX6_at_16 : decode cX6_at 16 = .ok (.iload_n 1, 1) := by decide +kernel
theorem dX6_at_17 : decode cX6_at 17 = .ok (.baload, 1) := by decide +kernel
theorem dX6_at_18 : decode cX6_at 18 = .ok (.goto 4, 3) := by decide +kernel
theorem dX6_at_21 : decode cX6_at 21 = .ok (.iconst (-1), 1) := by decide +kernel
theorem dX6_at_22 : decode cX6_at 22 = .ok (.ireturn, 1) := by decide +kernel
theorem gc_X2_12 : GoodIn xtb (va_wsS RX2 12 yX2_at (xW yX2_at cX2_at 2 (some .int))) := x_goodS lkM_X2_12 wT_X2_at wN_X2 wC_X2_at
theorem ds_X2_at : xDs yX2_at 2 := by decide +kernel
theorem ds_X2_then : xDs yX2_then 2 := by decide +kernel
theorem ds_X2_inverse : xDs yX2_inverse 1 := by decide +kernel
theorem ds_X2_carry : xDs yX2_carry 2 := by decide +kernel
theorem ds_X2_read : xDs yX2_read 2 := by decide +kernel
theorem ds_X2_write : xDs yX2_write 2 := by decide +kernel
theorem ds_J6_bitCount_0f7a4 : xDs yJ6_bitCount_0f7a4 1 := by decide +kernel
theorem ds_J7_fill_53178 : xDs yJ7_fill_53178 2 := by decide +kernel
theorem ds_X4_start : xDs yX4_start 1 := by decide +kernel
theorem ds_X4_generator : xDs yX4_generator 1 := by decide +kernel
theorem ds_X4_adds : xDs yX4_adds 1 := by decide +kernel
theorem ds_X4_loses : xDs yX4_loses 1 := by decide +kernel
theorem ds_X4_copy : xDs yX4_copy 1 := by decide +kernel
theorem ds_X6_add : xDs yX6_add 1 := by decide +kernel
theorem ds_X6_at : xDs yX6_at 1 := by decide +kernel
noncomputable def f_X2_at (v0 : Int32) (v1 : Int32) : Option (Int32) := some ((xus v0 ((3 : Int32) * v1)) &&& (7 : Int32))
set_option maxHeartbeats 4000000 in
set_option maxRecDepth 100000 in
theorem c_X2_at (l : Launch) (dC : Nat → ClassId) (dI : Nat → Nat → Nat) (cI cZ cB cO : ClassId) (v0 : Int32) (v1 : Int32) (o : Int32) (h : f_X2_at v0 v1 = some o) (sz : Nat) : Met l yX2_at (xW yX2_at cX2_at 2 (some .int)) { frames := 0, cells := 0, slots := 0, locals := 0 } (xPre dC dI (xT cI cZ cB cO) [.int v0, .int v1] [] sz) (xQi dC dI (xT cI cZ cB cO) o [] [] sz) 0 0 (va_A [] sz) := by
  refine x_met (by decide) (Nat.le_of_ble_eq_true rfl) ?_
  intro p e s m args below meth c R Q A hR hsz hA hQ hin C hw ls hl
  have hx := C.1
  have hb := C.2.1
  have hown := C.2.2.2.1
  have htb := C.2.2.2.2.1
  have hl : lv_has ls 2 [(0, .int v0), (1, .int v1)] := hl
  refine lv_iload_n hx hb dX2_at_0 rfl (lv_at hl 0 rfl) ?_
  refine lv_iconst (v := (3 : Int32)) hx hb dX2_at_1 (by decide) ?_
  refine lv_iload_n hx hb dX2_at_2 rfl (lv_at hl 1 rfl) ?_
  refine lv_imul hx hb dX2_at_3 ?_
  refine lv_iushr (v := (xus v0 ((3 : Int32) * v1))) hx hb dX2_at_4 rfl ?_
  refine lv_bipush (v := (7 : Int32)) hx hb dX2_at_5 (by decide) ?_
  refine lv_iand hx hb dX2_at_7 ?_
  obtain rfl := Option.some.inj h
  exact x_reti C hQ hA hw dX2_at_8
noncomputable def f_X2_then_L1 (v1 : Int32) (v0 : Int32) (z : Int32 × Int32) : Option ((Int32 × Int32) ⊕ (Int32)) := match z with
  | (v2_1, v3_2) => xb ((24 : Int32) ≤ v3_2) (some (.inr v2_1)) (some (.inl ((v2_1 ||| (((xus v1 ((3 : Int32) * ((xus v0 v3_2) &&& (7 : Int32)))) &&& (7 : Int32)) <<< (v3_2 &&& 31))), (v3_2 + (3 : Int32)))))
noncomputable def f_X2_then (v0 : Int32) (v1 : Int32) : Option (Int32) := xn (xL (f_X2_then_L1 v1 v0) ((0 : Int32), (0 : Int32))) (fun (v2_3 : Int32) => some v2_3)
set_option maxHeartbeats 4000000 in
set_option maxRecDepth 100000 in
theorem c_X2_then (l : Launch) (dC : Nat → ClassId) (dI : Nat → Nat → Nat) (cI cZ cB cO : ClassId) (v0 : Int32) (v1 : Int32) (o : Int32) (h : f_X2_then v0 v1 = some o) (sz : Nat) : Met l yX2_then (xW yX2_then cX2_then 4 (some .int)) { frames := 0, cells := 0, slots := 0, locals := 0 } (xPre dC dI (xT cI cZ cB cO) [.int v0, .int v1] [] sz) (xQi dC dI (xT cI cZ cB cO) o [] [] sz) 0 0 (va_A [] sz) := by
  refine x_met (by decide) (Nat.le_of_ble_eq_true rfl) ?_
  intro p e s m args below meth c R Q A hR hsz hA hQ hin C hw ls hl
  have hx := C.1
  have hb := C.2.1
  have hown := C.2.2.2.1
  have htb := C.2.2.2.2.1
  have hl : lv_has ls 4 [(0, .int v0), (1, .int v1)] := hl
  refine lv_iconst (v := (0 : Int32)) hx hb dX2_then_0 (by decide) ?_
  refine lv_istore_n (lv' := [(2, .int (0 : Int32)), (0, .int v0), (1, .int v1)]) hx hb dX2_then_1 rfl hl (by decide) rfl (fun ls hl => ?_)
  refine lv_iconst (v := (0 : Int32)) hx hb dX2_then_2 (by decide) ?_
  refine lv_istore_n (lv' := [(3, .int (0 : Int32)), (2, .int (0 : Int32)), (0, .int v0), (1, .int v1)]) hx hb dX2_then_3 rfl hl (by decide) rfl (fun ls hl => ?_)
  obtain ⟨z, hr, h⟩ := xn_i h
  refine xL_w (fun (z : Int32 × Int32) => ∀ (H : Heap) (locs : List Loc) (ls : Array Slot), xWd (dC, dI) A s.heap H locs [] → lv_has ls 4 [(0, .int v0), (1, .int v1), (2, .int z.1), (3, .int z.2)] → W p l e R s m args below meth c H locs 0 0 Q (F0 m 4 ls [])) (fun (z : Int32) => ∀ (H : Heap) (locs : List Loc) (ls : Array Slot), xWd (dC, dI) A s.heap H locs [] → lv_has ls 4 [(2, .int z)] → W p l e R s m args below meth c H locs 0 0 Q (F0 m 34 ls [])) ?_ hr ?_ _ _ _ hw (lv_sub hl [2, 3, 1, 0] rfl)
  · rintro ⟨v2_1, v3_2⟩ o h k H locs ls hw hl
    have hw : xWd (dC, dI) A s.heap H locs [] := hw
    have hl : lv_has ls 4 [(0, .int v0), (1, .int v1), (2, .int v2_1), (3, .int v3_2)] := hl
    refine lv_iload_n hx hb dX2_then_4 rfl (lv_at hl 3 rfl) ?_
    refine lv_bipush (v := (24 : Int32)) hx hb dX2_then_5 (by decide) ?_
    refine lv_icmp_ge (tgt := 34) hx hb dX2_then_7 (by decide) (fun b1 => ?_) (fun b1 => ?_)
    · replace h := xb_tt b1 h
      obtain rfl := Option.some.inj h
      exact k _ _ _ hw (lv_sub hl [2] rfl)
    · replace h := xb_ff b1 h
      refine lv_iload_n hx hb dX2_then_10 rfl (lv_at hl 2 rfl) ?_
      refine lv_iload_n hx hb dX2_then_11 rfl (lv_at hl 1 rfl) ?_
      refine lv_iconst (v := (3 : Int32)) hx hb dX2_then_12 (by decide) ?_
      refine lv_iload_n hx hb dX2_then_13 rfl (lv_at hl 0 rfl) ?_
      refine lv_iload_n hx hb dX2_then_14 rfl (lv_at hl 3 rfl) ?_
      refine lv_iushr (v := (xus v0 v3_2)) hx hb dX2_then_15 rfl ?_
      refine lv_bipush (v := (7 : Int32)) hx hb dX2_then_16 (by decide) ?_
      refine lv_iand hx hb dX2_then_18 ?_
      refine lv_imul hx hb dX2_then_19 ?_
      refine lv_iushr (v := (xus v1 ((3 : Int32) * ((xus v0 v3_2) &&& (7 : Int32))))) hx hb dX2_then_20 rfl ?_
      refine lv_bipush (v := (7 : Int32)) hx hb dX2_then_21 (by decide) ?_
      refine lv_iand hx hb dX2_then_23 ?_
      refine lv_iload_n hx hb dX2_then_24 rfl (lv_at hl 3 rfl) ?_
      refine lv_ishl hx hb dX2_then_25 ?_
      refine lv_ior hx hb dX2_then_26 ?_
      refine lv_istore_n (lv' := [(2, .int (v2_1 ||| (((xus v1 ((3 : Int32) * ((xus v0 v3_2) &&& (7 : Int32)))) &&& (7 : Int32)) <<< (v3_2 &&& 31)))), (0, .int v0), (1, .int v1), (3, .int v3_2)]) hx hb dX2_then_27 rfl hl (by decide) rfl (fun ls hl => ?_)
      refine lv_iinc (v := (v3_2 + (3 : Int32))) (lv' := [(3, .int (v3_2 + (3 : Int32))), (2, .int (v2_1 ||| (((xus v1 ((3 : Int32) * ((xus v0 v3_2) &&& (7 : Int32)))) &&& (7 : Int32)) <<< (v3_2 &&& 31)))), (0, .int v0), (1, .int v1)]) hx hb dX2_then_28 hl (k := 3) rfl (congrArg (fun q => v3_2 + q) (by decide)) (by decide) rfl (fun ls hl => ?_)
      refine lv_goto (tgt := 4) hx hb dX2_then_31 (by decide) ?_
      obtain rfl := Option.some.inj h
      exact k _ _ _ hw (lv_sub hl [2, 3, 1, 0] rfl)
  · obtain ⟨v2_3, hz⟩ : ∃ q, q = z := ⟨z, rfl⟩
    subst hz
    intro H locs ls hw hl
    have hw : xWd (dC, dI) A s.heap H locs [] := hw
    have hl : lv_has ls 4 [(2, .int v2_3)] := hl
    refine lv_iload_n hx hb dX2_then_34 rfl (lv_at hl 0 rfl) ?_
    obtain rfl := Option.some.inj h
    exact x_reti C hQ hA hw dX2_then_35
noncomputable def f_X2_inverse_L1 (v0 : Int32) (z : Int32 × Int32) : Option ((Int32 × Int32) ⊕ (Int32)) := match z with
  | (v1_1, v2_2) => xb ((8 : Int32) ≤ v2_2) (some (.inr v1_1)) (some (.inl ((v1_1 ||| (v2_2 <<< (((3 : Int32) * ((xus v0 ((3 : Int32) * v2_2)) &&& (7 : Int32))) &&& 31))), (v2_2 + (1 : Int32)))))
noncomputable def f_X2_inverse (v0 : Int32) : Option (Int32) := xn (xL (f_X2_inverse_L1 v0) ((0 : Int32), (0 : Int32))) (fun (v1_3 : Int32) => some v1_3)
set_option maxHeartbeats 4000000 in
set_option maxRecDepth 100000 in
theorem c_X2_inverse (l : Launch) (dC : Nat → ClassId) (dI : Nat → Nat → Nat) (cI cZ cB cO : ClassId) (v0 : Int32) (o : Int32) (h : f_X2_inverse v0 = some o) (sz : Nat) : Met l yX2_inverse (xW yX2_inverse cX2_inverse 3 (some .int)) { frames := 0, cells := 0, slots := 0, locals := 0 } (xPre dC dI (xT cI cZ cB cO) [.int v0] [] sz) (xQi dC dI (xT cI cZ cB cO) o [] [] sz) 0 0 (va_A [] sz) := by
  refine x_met (by decide) (Nat.le_of_ble_eq_true rfl) ?_
  intro p e s m args below meth c R Q A hR hsz hA hQ hin C hw ls hl
  have hx := C.1
  have hb := C.2.1
  have hown := C.2.2.2.1
  have htb := C.2.2.2.2.1
  have hl : lv_has ls 3 [(0, .int v0)] := hl
  refine lv_iconst (v := (0 : Int32)) hx hb dX2_inverse_0 (by decide) ?_
  refine lv_istore_n (lv' := [(1, .int (0 : Int32)), (0, .int v0)]) hx hb dX2_inverse_1 rfl hl (by decide) rfl (fun ls hl => ?_)
  refine lv_iconst (v := (0 : Int32)) hx hb dX2_inverse_2 (by decide) ?_
  refine lv_istore_n (lv' := [(2, .int (0 : Int32)), (1, .int (0 : Int32)), (0, .int v0)]) hx hb dX2_inverse_3 rfl hl (by decide) rfl (fun ls hl => ?_)
  obtain ⟨z, hr, h⟩ := xn_i h
  refine xL_w (fun (z : Int32 × Int32) => ∀ (H : Heap) (locs : List Loc) (ls : Array Slot), xWd (dC, dI) A s.heap H locs [] → lv_has ls 3 [(0, .int v0), (1, .int z.1), (2, .int z.2)] → W p l e R s m args below meth c H locs 0 0 Q (F0 m 4 ls [])) (fun (z : Int32) => ∀ (H : Heap) (locs : List Loc) (ls : Array Slot), xWd (dC, dI) A s.heap H locs [] → lv_has ls 3 [(1, .int z)] → W p l e R s m args below meth c H locs 0 0 Q (F0 m 31 ls [])) ?_ hr ?_ _ _ _ hw (lv_sub hl [2, 1, 0] rfl)
  · rintro ⟨v1_1, v2_2⟩ o h k H locs ls hw hl
    have hw : xWd (dC, dI) A s.heap H locs [] := hw
    have hl : lv_has ls 3 [(0, .int v0), (1, .int v1_1), (2, .int v2_2)] := hl
    refine lv_iload_n hx hb dX2_inverse_4 rfl (lv_at hl 2 rfl) ?_
    refine lv_bipush (v := (8 : Int32)) hx hb dX2_inverse_5 (by decide) ?_
    refine lv_icmp_ge (tgt := 31) hx hb dX2_inverse_7 (by decide) (fun b1 => ?_) (fun b1 => ?_)
    · replace h := xb_tt b1 h
      obtain rfl := Option.some.inj h
      exact k _ _ _ hw (lv_sub hl [1] rfl)
    · replace h := xb_ff b1 h
      refine lv_iload_n hx hb dX2_inverse_10 rfl (lv_at hl 1 rfl) ?_
      refine lv_iload_n hx hb dX2_inverse_11 rfl (lv_at hl 2 rfl) ?_
      refine lv_iconst (v := (3 : Int32)) hx hb dX2_inverse_12 (by decide) ?_
      refine lv_iload_n hx hb dX2_inverse_13 rfl (lv_at hl 0 rfl) ?_
      refine lv_iconst (v := (3 : Int32)) hx hb dX2_inverse_14 (by decide) ?_
      refine lv_iload_n hx hb dX2_inverse_15 rfl (lv_at hl 2 rfl) ?_
      refine lv_imul hx hb dX2_inverse_16 ?_
      refine lv_iushr (v := (xus v0 ((3 : Int32) * v2_2))) hx hb dX2_inverse_17 rfl ?_
      refine lv_bipush (v := (7 : Int32)) hx hb dX2_inverse_18 (by decide) ?_
      refine lv_iand hx hb dX2_inverse_20 ?_
      refine lv_imul hx hb dX2_inverse_21 ?_
      refine lv_ishl hx hb dX2_inverse_22 ?_
      refine lv_ior hx hb dX2_inverse_23 ?_
      refine lv_istore_n (lv' := [(1, .int (v1_1 ||| (v2_2 <<< (((3 : Int32) * ((xus v0 ((3 : Int32) * v2_2)) &&& (7 : Int32))) &&& 31)))), (0, .int v0), (2, .int v2_2)]) hx hb dX2_inverse_24 rfl hl (by decide) rfl (fun ls hl => ?_)
      refine lv_iinc (v := (v2_2 + (1 : Int32))) (lv' := [(2, .int (v2_2 + (1 : Int32))), (1, .int (v1_1 ||| (v2_2 <<< (((3 : Int32) * ((xus v0 ((3 : Int32) * v2_2)) &&& (7 : Int32))) &&& 31)))), (0, .int v0)]) hx hb dX2_inverse_25 hl (k := 2) rfl (congrArg (fun q => v2_2 + q) (by decide)) (by decide) rfl (fun ls hl => ?_)
      refine lv_goto (tgt := 4) hx hb dX2_inverse_28 (by decide) ?_
      obtain rfl := Option.some.inj h
      exact k _ _ _ hw (lv_sub hl [2, 1, 0] rfl)
  · obtain ⟨v1_3, hz⟩ : ∃ q, q = z := ⟨z, rfl⟩
    subst hz
    intro H locs ls hw hl
    have hw : xWd (dC, dI) A s.heap H locs [] := hw
    have hl : lv_has ls 3 [(1, .int v1_3)] := hl
    refine lv_iload_n hx hb dX2_inverse_31 rfl (lv_at hl 0 rfl) ?_
    obtain rfl := Option.some.inj h
    exact x_reti C hQ hA hw dX2_inverse_32
noncomputable def f_X2_carry_L1 (v1 : Int32) (z : Int32 × Int32 × Int32) : Option ((Int32 × Int32 × Int32) ⊕ (Int32)) := match z with
  | (v2_1, v3_2, v4_3) => xb ((24 : Int32) ≤ v4_3) (some (.inr v2_1)) (xb (v3_2 = 0) (some (.inr v2_1)) (some (.inl ((v2_1 ||| ((v3_2 &&& (1 : Int32)) <<< (((xus v1 v4_3) &&& (7 : Int32)) &&& 31))), (xus v3_2 (1 : Int32)), (v4_3 + (3 : Int32))))))
noncomputable def f_X2_carry (v0 : Int32) (v1 : Int32) : Option (Int32) := xn (xL (f_X2_carry_L1 v1) ((0 : Int32), v0, (0 : Int32))) (fun (v2_4 : Int32) => some v2_4)
set_option maxHeartbeats 4000000 in
set_option maxRecDepth 100000 in
theorem c_X2_carry (l : Launch) (dC : Nat → ClassId) (dI : Nat → Nat → Nat) (cI cZ cB cO : ClassId) (v0 : Int32) (v1 : Int32) (o : Int32) (h : f_X2_carry v0 v1 = some o) (sz : Nat) : Met l yX2_carry (xW yX2_carry cX2_carry 5 (some .int)) { frames := 0, cells := 0, slots := 0, locals := 0 } (xPre dC dI (xT cI cZ cB cO) [.int v0, .int v1] [] sz) (xQi dC dI (xT cI cZ cB cO) o [] [] sz) 0 0 (va_A [] sz) := by
  refine x_met (by decide) (Nat.le_of_ble_eq_true rfl) ?_
  intro p e s m args below meth c R Q A hR hsz hA hQ hin C hw ls hl
  have hx := C.1
  have hb := C.2.1
  have hown := C.2.2.2.1
  have htb := C.2.2.2.2.1
  have hl : lv_has ls 5 [(0, .int v0), (1, .int v1)] := hl
  refine lv_iconst (v := (0 : Int32)) hx hb dX2_carry_0 (by decide) ?_
  refine lv_istore_n (lv' := [(2, .int (0 : Int32)), (0, .int v0), (1, .int v1)]) hx hb dX2_carry_1 rfl hl (by decide) rfl (fun ls hl => ?_)
  refine lv_iload_n hx hb dX2_carry_2 rfl (lv_at hl 1 rfl) ?_
  refine lv_istore_n (lv' := [(3, .int v0), (2, .int (0 : Int32)), (0, .int v0), (1, .int v1)]) hx hb dX2_carry_3 rfl hl (by decide) rfl (fun ls hl => ?_)
  refine lv_iconst (v := (0 : Int32)) hx hb dX2_carry_4 (by decide) ?_
  refine lv_istore (lv' := [(4, .int (0 : Int32)), (3, .int v0), (2, .int (0 : Int32)), (0, .int v0), (1, .int v1)]) hx hb dX2_carry_5 hl (by decide) rfl (fun ls hl => ?_)
  obtain ⟨z, hr, h⟩ := xn_i h
  refine xL_w (fun (z : Int32 × Int32 × Int32) => ∀ (H : Heap) (locs : List Loc) (ls : Array Slot), xWd (dC, dI) A s.heap H locs [] → lv_has ls 5 [(1, .int v1), (2, .int z.1), (3, .int z.2.1), (4, .int z.2.2)] → W p l e R s m args below meth c H locs 0 0 Q (F0 m 7 ls [])) (fun (z : Int32) => ∀ (H : Heap) (locs : List Loc) (ls : Array Slot), xWd (dC, dI) A s.heap H locs [] → lv_has ls 5 [(2, .int z)] → W p l e R s m args below meth c H locs 0 0 Q (F0 m 42 ls [])) ?_ hr ?_ _ _ _ hw (lv_sub hl [4, 2, 1, 0] rfl)
  · rintro ⟨v2_1, v3_2, v4_3⟩ o h k H locs ls hw hl
    have hw : xWd (dC, dI) A s.heap H locs [] := hw
    have hl : lv_has ls 5 [(1, .int v1), (2, .int v2_1), (3, .int v3_2), (4, .int v4_3)] := hl
    refine lv_iload hx hb dX2_carry_7 (lv_at hl 3 rfl) ?_
    refine lv_bipush (v := (24 : Int32)) hx hb dX2_carry_9 (by decide) ?_
    refine lv_icmp_ge (tgt := 42) hx hb dX2_carry_11 (by decide) (fun b1 => ?_) (fun b1 => ?_)
    · replace h := xb_tt b1 h
      obtain rfl := Option.some.inj h
      exact k _ _ _ hw (lv_sub hl [1] rfl)
    · replace h := xb_ff b1 h
      refine lv_iload_n hx hb dX2_carry_14 rfl (lv_at hl 2 rfl) ?_
      refine lv_if_eq (tgt := 42) hx hb dX2_carry_15 (by decide) (fun b2 => ?_) (fun b2 => ?_)
      · replace h := xb_tt b2 h
        obtain rfl := Option.some.inj h
        exact k _ _ _ hw (lv_sub hl [1] rfl)
      · replace h := xb_ff b2 h
        refine lv_iload_n hx hb dX2_carry_18 rfl (lv_at hl 1 rfl) ?_
        refine lv_iload_n hx hb dX2_carry_19 rfl (lv_at hl 2 rfl) ?_
        refine lv_iconst (v := (1 : Int32)) hx hb dX2_carry_20 (by decide) ?_
        refine lv_iand hx hb dX2_carry_21 ?_
        refine lv_iload_n hx hb dX2_carry_22 rfl (lv_at hl 0 rfl) ?_
        refine lv_iload hx hb dX2_carry_23 (lv_at hl 3 rfl) ?_
        refine lv_iushr (v := (xus v1 v4_3)) hx hb dX2_carry_25 rfl ?_
        refine lv_bipush (v := (7 : Int32)) hx hb dX2_carry_26 (by decide) ?_
        refine lv_iand hx hb dX2_carry_28 ?_
        refine lv_ishl hx hb dX2_carry_29 ?_
        refine lv_ior hx hb dX2_carry_30 ?_
        refine lv_istore_n (lv' := [(2, .int (v2_1 ||| ((v3_2 &&& (1 : Int32)) <<< (((xus v1 v4_3) &&& (7 : Int32)) &&& 31)))), (1, .int v1), (3, .int v3_2), (4, .int v4_3)]) hx hb dX2_carry_31 rfl hl (by decide) rfl (fun ls hl => ?_)
        refine lv_iload_n hx hb dX2_carry_32 rfl (lv_at hl 2 rfl) ?_
        refine lv_iconst (v := (1 : Int32)) hx hb dX2_carry_33 (by decide) ?_
        refine lv_iushr (v := (xus v3_2 (1 : Int32))) hx hb dX2_carry_34 rfl ?_
        refine lv_istore_n (lv' := [(3, .int (xus v3_2 (1 : Int32))), (2, .int (v2_1 ||| ((v3_2 &&& (1 : Int32)) <<< (((xus v1 v4_3) &&& (7 : Int32)) &&& 31)))), (1, .int v1), (4, .int v4_3)]) hx hb dX2_carry_35 rfl hl (by decide) rfl (fun ls hl => ?_)
        refine lv_iinc (v := (v4_3 + (3 : Int32))) (lv' := [(4, .int (v4_3 + (3 : Int32))), (3, .int (xus v3_2 (1 : Int32))), (2, .int (v2_1 ||| ((v3_2 &&& (1 : Int32)) <<< (((xus v1 v4_3) &&& (7 : Int32)) &&& 31)))), (1, .int v1)]) hx hb dX2_carry_36 hl (k := 3) rfl (congrArg (fun q => v4_3 + q) (by decide)) (by decide) rfl (fun ls hl => ?_)
        refine lv_goto (tgt := 7) hx hb dX2_carry_39 (by decide) ?_
        obtain rfl := Option.some.inj h
        exact k _ _ _ hw (lv_sub hl [3, 2, 1, 0] rfl)
  · obtain ⟨v2_4, hz⟩ : ∃ q, q = z := ⟨z, rfl⟩
    subst hz
    intro H locs ls hw hl
    have hw : xWd (dC, dI) A s.heap H locs [] := hw
    have hl : lv_has ls 5 [(2, .int v2_4)] := hl
    refine lv_iload_n hx hb dX2_carry_42 rfl (lv_at hl 0 rfl) ?_
    obtain rfl := Option.some.inj h
    exact x_reti C hQ hA hw dX2_carry_43
noncomputable def f_X2_read_L1 (v1 : Int32) (z : Int32 × Int32 × Int32 × Int32) : Option ((Int32 × Int32 × Int32 × Int32) ⊕ ((Int32 × Int32) ⊕ (Int32))) := match z with
  | (v2_1, v3_2, v4_3, v5_4) => xb (v5_4 < 0) (some (.inr (.inl (v2_1, v4_3)))) (xb ((v2_1 - v2_1 / (10 : Int32) * (10 : Int32)) < 0) (some (.inr (.inr (-1 : Int32)))) (xb (v1 ≤ (v2_1 - v2_1 / (10 : Int32) * (10 : Int32))) (some (.inr (.inr (-1 : Int32)))) (xb (((v3_2 >>> ((v2_1 - v2_1 / (10 : Int32) * (10 : Int32)) &&& 31)) &&& (1 : Int32)) = 0) (some (.inl ((v2_1 / (10 : Int32)), (v3_2 ||| ((1 : Int32) <<< ((v2_1 - v2_1 / (10 : Int32) * (10 : Int32)) &&& 31))), ((v4_3 &&& (((7 : Int32) <<< (((3 : Int32) * v5_4) &&& 31)) ^^^ (-1 : Int32))) ||| ((v2_1 - v2_1 / (10 : Int32) * (10 : Int32)) <<< (((3 : Int32) * v5_4) &&& 31))), (v5_4 + (-1 : Int32))))) (some (.inr (.inr (-1 : Int32)))))))
noncomputable def f_X2_read (v0 : Int32) (v1 : Int32) : Option (Int32) := xn (xL (f_X2_read_L1 v1) (v0, (0 : Int32), (16434824 : Int32), (v1 - (1 : Int32)))) (fun (x : (Int32 × Int32) ⊕ (Int32)) => match x with | .inl z => (fun (z : Int32 × Int32) => match z with | (v2_5, v4_6) => xb (v2_5 = 0) (some v4_6) (some (-1 : Int32))) z | .inr z => some z)
set_option maxHeartbeats 4000000 in
set_option maxRecDepth 100000 in
theorem c_X2_read (l : Launch) (dC : Nat → ClassId) (dI : Nat → Nat → Nat) (cI cZ cB cO : ClassId) (v0 : Int32) (v1 : Int32) (o : Int32) (h : f_X2_read v0 v1 = some o) (sz : Nat) : Met l yX2_read (xW yX2_read cX2_read 7 (some .int)) { frames := 0, cells := 0, slots := 0, locals := 0 } (xPre dC dI (xT cI cZ cB cO) [.int v0, .int v1] [] sz) (xQi dC dI (xT cI cZ cB cO) o [] [] sz) 0 0 (va_A [] sz) := by
  refine x_met (by decide) (Nat.le_of_ble_eq_true rfl) ?_
  intro p e s m args below meth c R Q A hR hsz hA hQ hin C hw ls hl
  have hx := C.1
  have hb := C.2.1
  have hown := C.2.2.2.1
  have htb := C.2.2.2.2.1
  have hl : lv_has ls 7 [(0, .int v0), (1, .int v1)] := hl
  refine lv_iload_n hx hb dX2_read_0 rfl (lv_at hl 0 rfl) ?_
  refine lv_istore_n (lv' := [(2, .int v0), (0, .int v0), (1, .int v1)]) hx hb dX2_read_1 rfl hl (by decide) rfl (fun ls hl => ?_)
  refine lv_iconst (v := (0 : Int32)) hx hb dX2_read_2 (by decide) ?_
  refine lv_istore_n (lv' := [(3, .int (0 : Int32)), (2, .int v0), (0, .int v0), (1, .int v1)]) hx hb dX2_read_3 rfl hl (by decide) rfl (fun ls hl => ?_)
  refine lv_ldc hx hb hown (htb _ kI_X2_11) dX2_read_4 ?_
  refine lv_istore (lv' := [(4, .int (16434824 : Int32)), (3, .int (0 : Int32)), (2, .int v0), (0, .int v0), (1, .int v1)]) hx hb dX2_read_6 hl (by decide) rfl (fun ls hl => ?_)
  refine lv_iload_n hx hb dX2_read_8 rfl (lv_at hl 4 rfl) ?_
  refine lv_iconst (v := (1 : Int32)) hx hb dX2_read_9 (by decide) ?_
  refine lv_isub hx hb dX2_read_10 ?_
  refine lv_istore (lv' := [(5, .int (v1 - (1 : Int32))), (4, .int (16434824 : Int32)), (3, .int (0 : Int32)), (2, .int v0), (0, .int v0), (1, .int v1)]) hx hb dX2_read_11 hl (by decide) rfl (fun ls hl => ?_)
  obtain ⟨z, hr, h⟩ := xn_i h
  refine xL_w (fun (z : Int32 × Int32 × Int32 × Int32) => ∀ (H : Heap) (locs : List Loc) (ls : Array Slot), xWd (dC, dI) A s.heap H locs [] → lv_has ls 7 [(1, .int v1), (2, .int z.1), (3, .int z.2.1), (4, .int z.2.2.1), (5, .int z.2.2.2)] → W p l e R s m args below meth c H locs 0 0 Q (F0 m 13 ls [])) (Sum.elim (fun (z : Int32 × Int32) => ∀ (H : Heap) (locs : List Loc) (ls : Array Slot), xWd (dC, dI) A s.heap H locs [] → lv_has ls 7 [(2, .int z.1), (4, .int z.2)] → W p l e R s m args below meth c H locs 0 0 Q (F0 m 86 ls [])) (fun (z : Int32) => ∀ (H : Heap) (locs : List Loc), xWd (dC, dI) A s.heap H locs [] → ∀ (pc : Nat) (ls : Array Slot), decode cX2_read pc = .ok (.ireturn, 1) → W p l e R s m args below meth c H locs 0 0 Q (F0 m pc ls [.int z]))) ?_ hr ?_ _ _ _ hw (lv_sub hl [5, 3, 2, 1, 0] rfl)
  · rintro ⟨v2_1, v3_2, v4_3, v5_4⟩ o h k H locs ls hw hl
    have hw : xWd (dC, dI) A s.heap H locs [] := hw
    have hl : lv_has ls 7 [(1, .int v1), (2, .int v2_1), (3, .int v3_2), (4, .int v4_3), (5, .int v5_4)] := hl
    refine lv_iload hx hb dX2_read_13 (lv_at hl 4 rfl) ?_
    refine lv_if_lt (tgt := 86) hx hb dX2_read_15 (by decide) (fun b1 => ?_) (fun b1 => ?_)
    · replace h := xb_tt b1 h
      obtain rfl := Option.some.inj h
      exact k _ _ _ hw (lv_sub hl [1, 3] rfl)
    · replace h := xb_ff b1 h
      refine lv_iload_n hx hb dX2_read_18 rfl (lv_at hl 1 rfl) ?_
      refine lv_bipush (v := (10 : Int32)) hx hb dX2_read_19 (by decide) ?_
      refine lv_irem hx hb dX2_read_21 (by decide) ?_
      refine lv_istore (lv' := [(6, .int (v2_1 - v2_1 / (10 : Int32) * (10 : Int32))), (1, .int v1), (2, .int v2_1), (3, .int v3_2), (4, .int v4_3), (5, .int v5_4)]) hx hb dX2_read_22 hl (by decide) rfl (fun ls hl => ?_)
      refine lv_iload_n hx hb dX2_read_24 rfl (lv_at hl 2 rfl) ?_
      refine lv_bipush (v := (10 : Int32)) hx hb dX2_read_25 (by decide) ?_
      refine lv_idiv hx hb dX2_read_27 (by decide) ?_
      refine lv_istore_n (lv' := [(2, .int (v2_1 / (10 : Int32))), (6, .int (v2_1 - v2_1 / (10 : Int32) * (10 : Int32))), (1, .int v1), (3, .int v3_2), (4, .int v4_3), (5, .int v5_4)]) hx hb dX2_read_28 rfl hl (by decide) rfl (fun ls hl => ?_)
      refine lv_iload hx hb dX2_read_29 (lv_at hl 1 rfl) ?_
      refine lv_if_lt (tgt := 49) hx hb dX2_read_31 (by decide) (fun b2 => ?_) (fun b2 => ?_)
      · replace h := xb_tt b2 h
        refine lv_iconst (v := (-1 : Int32)) hx hb dX2_read_49 (by decide) ?_
        obtain rfl := Option.some.inj h
        exact k _ _ hw _ _ dX2_read_50
      · replace h := xb_ff b2 h
        refine lv_iload hx hb dX2_read_34 (lv_at hl 1 rfl) ?_
        refine lv_iload_n hx hb dX2_read_36 rfl (lv_at hl 2 rfl) ?_
        refine lv_icmp_ge (tgt := 49) hx hb dX2_read_37 (by decide) (fun b3 => ?_) (fun b3 => ?_)
        · replace h := xb_tt b3 h
          refine lv_iconst (v := (-1 : Int32)) hx hb dX2_read_49 (by decide) ?_
          obtain rfl := Option.some.inj h
          exact k _ _ hw _ _ dX2_read_50
        · replace h := xb_ff b3 h
          refine lv_iload_n hx hb dX2_read_40 rfl (lv_at hl 3 rfl) ?_
          refine lv_iload hx hb dX2_read_41 (lv_at hl 1 rfl) ?_
          refine lv_ishr hx hb dX2_read_43 ?_
          refine lv_iconst (v := (1 : Int32)) hx hb dX2_read_44 (by decide) ?_
          refine lv_iand hx hb dX2_read_45 ?_
          refine lv_if_eq (tgt := 51) hx hb dX2_read_46 (by decide) (fun b4 => ?_) (fun b4 => ?_)
          · replace h := xb_tt b4 h
            refine lv_iload_n hx hb dX2_read_51 rfl (lv_at hl 3 rfl) ?_
            refine lv_iconst (v := (1 : Int32)) hx hb dX2_read_52 (by decide) ?_
            refine lv_iload hx hb dX2_read_53 (lv_at hl 1 rfl) ?_
            refine lv_ishl hx hb dX2_read_55 ?_
            refine lv_ior hx hb dX2_read_56 ?_
            refine lv_istore_n (lv' := [(3, .int (v3_2 ||| ((1 : Int32) <<< ((v2_1 - v2_1 / (10 : Int32) * (10 : Int32)) &&& 31)))), (2, .int (v2_1 / (10 : Int32))), (6, .int (v2_1 - v2_1 / (10 : Int32) * (10 : Int32))), (1, .int v1), (4, .int v4_3), (5, .int v5_4)]) hx hb dX2_read_57 rfl hl (by decide) rfl (fun ls hl => ?_)
            refine lv_iload hx hb dX2_read_58 (lv_at hl 4 rfl) ?_
            refine lv_bipush (v := (7 : Int32)) hx hb dX2_read_60 (by decide) ?_
            refine lv_iconst (v := (3 : Int32)) hx hb dX2_read_62 (by decide) ?_
            refine lv_iload hx hb dX2_read_63 (lv_at hl 5 rfl) ?_
            refine lv_imul hx hb dX2_read_65 ?_
            refine lv_ishl hx hb dX2_read_66 ?_
            refine lv_iconst (v := (-1 : Int32)) hx hb dX2_read_67 (by decide) ?_
            refine lv_ixor hx hb dX2_read_68 ?_
            refine lv_iand hx hb dX2_read_69 ?_
            refine lv_iload hx hb dX2_read_70 (lv_at hl 2 rfl) ?_
            refine lv_iconst (v := (3 : Int32)) hx hb dX2_read_72 (by decide) ?_
            refine lv_iload hx hb dX2_read_73 (lv_at hl 5 rfl) ?_
            refine lv_imul hx hb dX2_read_75 ?_
            refine lv_ishl hx hb dX2_read_76 ?_
            refine lv_ior hx hb dX2_read_77 ?_
            refine lv_istore (lv' := [(4, .int ((v4_3 &&& (((7 : Int32) <<< (((3 : Int32) * v5_4) &&& 31)) ^^^ (-1 : Int32))) ||| ((v2_1 - v2_1 / (10 : Int32) * (10 : Int32)) <<< (((3 : Int32) * v5_4) &&& 31)))), (3, .int (v3_2 ||| ((1 : Int32) <<< ((v2_1 - v2_1 / (10 : Int32) * (10 : Int32)) &&& 31)))), (2, .int (v2_1 / (10 : Int32))), (6, .int (v2_1 - v2_1 / (10 : Int32) * (10 : Int32))), (1, .int v1), (5, .int v5_4)]) hx hb dX2_read_78 hl (by decide) rfl (fun ls hl => ?_)
            refine lv_iinc (v := (v5_4 + (-1 : Int32))) (lv' := [(5, .int (v5_4 + (-1 : Int32))), (4, .int ((v4_3 &&& (((7 : Int32) <<< (((3 : Int32) * v5_4) &&& 31)) ^^^ (-1 : Int32))) ||| ((v2_1 - v2_1 / (10 : Int32) * (10 : Int32)) <<< (((3 : Int32) * v5_4) &&& 31)))), (3, .int (v3_2 ||| ((1 : Int32) <<< ((v2_1 - v2_1 / (10 : Int32) * (10 : Int32)) &&& 31)))), (2, .int (v2_1 / (10 : Int32))), (6, .int (v2_1 - v2_1 / (10 : Int32) * (10 : Int32))), (1, .int v1)]) hx hb dX2_read_80 hl (k := 5) rfl (congrArg (fun q => v5_4 + q) (by decide)) (by decide) rfl (fun ls hl => ?_)
            refine lv_goto (tgt := 13) hx hb dX2_read_83 (by decide) ?_
            obtain rfl := Option.some.inj h
            exact k _ _ _ hw (lv_sub hl [5, 3, 2, 1, 0] rfl)
          · replace h := xb_ff b4 h
            refine lv_iconst (v := (-1 : Int32)) hx hb dX2_read_49 (by decide) ?_
            obtain rfl := Option.some.inj h
            exact k _ _ hw _ _ dX2_read_50
  · rcases z with z | z
    · obtain ⟨v2_5, v4_6⟩ := z
      intro H locs ls hw hl
      have hw : xWd (dC, dI) A s.heap H locs [] := hw
      have hl : lv_has ls 7 [(2, .int v2_5), (4, .int v4_6)] := hl
      refine lv_iload_n hx hb dX2_read_86 rfl (lv_at hl 0 rfl) ?_
      refine lv_if_ne (tgt := 95) hx hb dX2_read_87 (by decide) (fun b5 => ?_) (fun b5 => ?_)
      · replace h := xb_ff b5 h
        refine lv_iconst (v := (-1 : Int32)) hx hb dX2_read_95 (by decide) ?_
        obtain rfl := Option.some.inj h
        exact x_reti C hQ hA hw dX2_read_96
      · replace h := xb_tt b5 h
        refine lv_iload hx hb dX2_read_90 (lv_at hl 1 rfl) ?_
        refine lv_goto (tgt := 96) hx hb dX2_read_92 (by decide) ?_
        obtain rfl := Option.some.inj h
        exact x_reti C hQ hA hw dX2_read_96
    · obtain rfl := Option.some.inj h
      intro H locs hw pc ls hd
      exact x_reti C hQ hA hw hd
noncomputable def f_X2_write_L1 (v1 : Int32) (v0 : Int32) (z : Int32 × Int32) : Option ((Int32 × Int32) ⊕ (Int32)) := match z with
  | (v2_1, v3_2) => xb (v1 ≤ v3_2) (some (.inr v2_1)) (xn (f_X2_at v0 v3_2) (fun (r_4 : Int32) => some (.inl ((((10 : Int32) * v2_1) + r_4), (v3_2 + (1 : Int32))))))
noncomputable def f_X2_write (v0 : Int32) (v1 : Int32) : Option (Int32) := xn (xL (f_X2_write_L1 v1 v0) ((0 : Int32), (0 : Int32))) (fun (v2_3 : Int32) => some v2_3)
set_option maxHeartbeats 4000000 in
set_option maxRecDepth 100000 in
theorem c_X2_write (l : Launch) (dC : Nat → ClassId) (dI : Nat → Nat → Nat) (cI cZ cB cO : ClassId) (v0 : Int32) (v1 : Int32) (o : Int32) (h : f_X2_write v0 v1 = some o) (sz : Nat) : Met l yX2_write (xW yX2_write cX2_write 4 (some .int)) { frames := 1, cells := 0, slots := 0, locals := 21 } (xPre dC dI (xT cI cZ cB cO) [.int v0, .int v1] [] sz) (xQi dC dI (xT cI cZ cB cO) o [] [] sz) 0 0 (va_A [] sz) := by
  refine x_met (by decide) (Nat.le_of_ble_eq_true rfl) ?_
  intro p e s m args below meth c R Q A hR hsz hA hQ hin C hw ls hl
  have hx := C.1
  have hb := C.2.1
  have hown := C.2.2.2.1
  have htb := C.2.2.2.2.1
  have hl : lv_has ls 4 [(0, .int v0), (1, .int v1)] := hl
  refine lv_iconst (v := (0 : Int32)) hx hb dX2_write_0 (by decide) ?_
  refine lv_istore_n (lv' := [(2, .int (0 : Int32)), (0, .int v0), (1, .int v1)]) hx hb dX2_write_1 rfl hl (by decide) rfl (fun ls hl => ?_)
  refine lv_iconst (v := (0 : Int32)) hx hb dX2_write_2 (by decide) ?_
  refine lv_istore_n (lv' := [(3, .int (0 : Int32)), (2, .int (0 : Int32)), (0, .int v0), (1, .int v1)]) hx hb dX2_write_3 rfl hl (by decide) rfl (fun ls hl => ?_)
  obtain ⟨z, hr, h⟩ := xn_i h
  refine xL_w (fun (z : Int32 × Int32) => ∀ (H : Heap) (locs : List Loc) (ls : Array Slot), xWd (dC, dI) A s.heap H locs [] → lv_has ls 4 [(0, .int v0), (1, .int v1), (2, .int z.1), (3, .int z.2)] → W p l e R s m args below meth c H locs 0 0 Q (F0 m 4 ls [])) (fun (z : Int32) => ∀ (H : Heap) (locs : List Loc) (ls : Array Slot), xWd (dC, dI) A s.heap H locs [] → lv_has ls 4 [(2, .int z)] → W p l e R s m args below meth c H locs 0 0 Q (F0 m 26 ls [])) ?_ hr ?_ _ _ _ hw (lv_sub hl [2, 3, 1, 0] rfl)
  · rintro ⟨v2_1, v3_2⟩ o h k H locs ls hw hl
    have hw : xWd (dC, dI) A s.heap H locs [] := hw
    have hl : lv_has ls 4 [(0, .int v0), (1, .int v1), (2, .int v2_1), (3, .int v3_2)] := hl
    refine lv_iload_n hx hb dX2_write_4 rfl (lv_at hl 3 rfl) ?_
    refine lv_iload_n hx hb dX2_write_5 rfl (lv_at hl 1 rfl) ?_
    refine lv_icmp_ge (tgt := 26) hx hb dX2_write_6 (by decide) (fun b1 => ?_) (fun b1 => ?_)
    · replace h := xb_tt b1 h
      obtain rfl := Option.some.inj h
      exact k _ _ _ hw (lv_sub hl [2] rfl)
    · replace h := xb_ff b1 h
      refine lv_bipush (v := (10 : Int32)) hx hb dX2_write_9 (by decide) ?_
      refine lv_iload_n hx hb dX2_write_11 rfl (lv_at hl 2 rfl) ?_
      refine lv_imul hx hb dX2_write_12 ?_
      refine lv_iload_n hx hb dX2_write_13 rfl (lv_at hl 0 rfl) ?_
      refine lv_iload_n hx hb dX2_write_14 rfl (lv_at hl 3 rfl) ?_
      obtain ⟨r_4, q2, h⟩ := xn_i h
      refine x_callSi (As := [.int v0, .int v3_2]) (rest := [.int ((10 : Int32) * v2_1)]) C hw gc_X2_12 ds_X2_at (by rw [hR]; exact Nat.le_of_ble_eq_true rfl) (by rw [hR]; exact Nat.le_of_ble_eq_true rfl) rfl rfl (Nat.zero_le _) (Nat.zero_le _) (c_X2_at l dC dI cI cZ cB cO v0 v3_2 _ q2 _) [] [] (by decide) rfl rfl (by decide) (by decide) rfl hl.1 rfl (Nat.le_of_ble_eq_true rfl) dX2_write_15 (fun H locs hw => ?_)
      have hw : xWd (dC, dI) A s.heap H locs [] := hw.sub [] (by decide) rfl
      refine lv_iadd hx hb dX2_write_18 ?_
      refine lv_istore_n (lv' := [(2, .int (((10 : Int32) * v2_1) + r_4)), (0, .int v0), (1, .int v1), (3, .int v3_2)]) hx hb dX2_write_19 rfl hl (by decide) rfl (fun ls hl => ?_)
      refine lv_iinc (v := (v3_2 + (1 : Int32))) (lv' := [(3, .int (v3_2 + (1 : Int32))), (2, .int (((10 : Int32) * v2_1) + r_4)), (0, .int v0), (1, .int v1)]) hx hb dX2_write_20 hl (k := 3) rfl (congrArg (fun q => v3_2 + q) (by decide)) (by decide) rfl (fun ls hl => ?_)
      refine lv_goto (tgt := 4) hx hb dX2_write_23 (by decide) ?_
      obtain rfl := Option.some.inj h
      exact k _ _ _ hw (lv_sub hl [2, 3, 1, 0] rfl)
  · obtain ⟨v2_3, hz⟩ : ∃ q, q = z := ⟨z, rfl⟩
    subst hz
    intro H locs ls hw hl
    have hw : xWd (dC, dI) A s.heap H locs [] := hw
    have hl : lv_has ls 4 [(2, .int v2_3)] := hl
    refine lv_iload_n hx hb dX2_write_26 rfl (lv_at hl 0 rfl) ?_
    obtain rfl := Option.some.inj h
    exact x_reti C hQ hA hw dX2_write_27
noncomputable def f_J6_bitCount_0f7a4 (v0 : Int32) : Option (Int32) := some ((((((((v0 - ((xus v0 (1 : Int32)) &&& (1431655765 : Int32))) &&& (858993459 : Int32)) + ((xus (v0 - ((xus v0 (1 : Int32)) &&& (1431655765 : Int32))) (2 : Int32)) &&& (858993459 : Int32))) + (xus (((v0 - ((xus v0 (1 : Int32)) &&& (1431655765 : Int32))) &&& (858993459 : Int32)) + ((xus (v0 - ((xus v0 (1 : Int32)) &&& (1431655765 : Int32))) (2 : Int32)) &&& (858993459 : Int32))) (4 : Int32))) &&& (252645135 : Int32)) + (xus (((((v0 - ((xus v0 (1 : Int32)) &&& (1431655765 : Int32))) &&& (858993459 : Int32)) + ((xus (v0 - ((xus v0 (1 : Int32)) &&& (1431655765 : Int32))) (2 : Int32)) &&& (858993459 : Int32))) + (xus (((v0 - ((xus v0 (1 : Int32)) &&& (1431655765 : Int32))) &&& (858993459 : Int32)) + ((xus (v0 - ((xus v0 (1 : Int32)) &&& (1431655765 : Int32))) (2 : Int32)) &&& (858993459 : Int32))) (4 : Int32))) &&& (252645135 : Int32)) (8 : Int32))) + (xus ((((((v0 - ((xus v0 (1 : Int32)) &&& (1431655765 : Int32))) &&& (858993459 : Int32)) + ((xus (v0 - ((xus v0 (1 : Int32)) &&& (1431655765 : Int32))) (2 : Int32)) &&& (858993459 : Int32))) + (xus (((v0 - ((xus v0 (1 : Int32)) &&& (1431655765 : Int32))) &&& (858993459 : Int32)) + ((xus (v0 - ((xus v0 (1 : Int32)) &&& (1431655765 : Int32))) (2 : Int32)) &&& (858993459 : Int32))) (4 : Int32))) &&& (252645135 : Int32)) + (xus (((((v0 - ((xus v0 (1 : Int32)) &&& (1431655765 : Int32))) &&& (858993459 : Int32)) + ((xus (v0 - ((xus v0 (1 : Int32)) &&& (1431655765 : Int32))) (2 : Int32)) &&& (858993459 : Int32))) + (xus (((v0 - ((xus v0 (1 : Int32)) &&& (1431655765 : Int32))) &&& (858993459 : Int32)) + ((xus (v0 - ((xus v0 (1 : Int32)) &&& (1431655765 : Int32))) (2 : Int32)) &&& (858993459 : Int32))) (4 : Int32))) &&& (252645135 : Int32)) (8 : Int32))) (16 : Int32))) &&& (63 : Int32))
set_option maxHeartbeats 4000000 in
set_option maxRecDepth 100000 in
theorem c_J6_bitCount_0f7a4 (l : Launch) (dC : Nat → ClassId) (dI : Nat → Nat → Nat) (cI cZ cB cO : ClassId) (v0 : Int32) (o : Int32) (h : f_J6_bitCount_0f7a4 v0 = some o) (sz : Nat) : Met l yJ6_bitCount_0f7a4 (xW yJ6_bitCount_0f7a4 cJ6_bitCount_0f7a4 1 (some .int)) { frames := 0, cells := 0, slots := 0, locals := 0 } (xPre dC dI (xT cI cZ cB cO) [.int v0] [] sz) (xQi dC dI (xT cI cZ cB cO) o [] [] sz) 0 0 (va_A [] sz) := by
  refine x_met (by decide) (Nat.le_of_ble_eq_true rfl) ?_
  intro p e s m args below meth c R Q A hR hsz hA hQ hin C hw ls hl
  have hx := C.1
  have hb := C.2.1
  have hown := C.2.2.2.1
  have htb := C.2.2.2.2.1
  have hl : lv_has ls 1 [(0, .int v0)] := hl
  refine lv_iload_n hx hb dJ6_bitCount_0f7a4_0 rfl (lv_at hl 0 rfl) ?_
  refine lv_iload_n hx hb dJ6_bitCount_0f7a4_1 rfl (lv_at hl 0 rfl) ?_
  refine lv_iconst (v := (1 : Int32)) hx hb dJ6_bitCount_0f7a4_2 (by decide) ?_
  refine lv_iushr (v := (xus v0 (1 : Int32))) hx hb dJ6_bitCount_0f7a4_3 rfl ?_
  refine lv_ldcw hx hb hown (htb _ kI_J6_265) dJ6_bitCount_0f7a4_4 ?_
  refine lv_iand hx hb dJ6_bitCount_0f7a4_7 ?_
  refine lv_isub hx hb dJ6_bitCount_0f7a4_8 ?_
  refine lv_istore_n (lv' := [(0, .int (v0 - ((xus v0 (1 : Int32)) &&& (1431655765 : Int32))))]) hx hb dJ6_bitCount_0f7a4_9 rfl hl (by decide) rfl (fun ls hl => ?_)
  refine lv_iload_n hx hb dJ6_bitCount_0f7a4_10 rfl (lv_at hl 0 rfl) ?_
  refine lv_ldcw hx hb hown (htb _ kI_J6_266) dJ6_bitCount_0f7a4_11 ?_
  refine lv_iand hx hb dJ6_bitCount_0f7a4_14 ?_
  refine lv_iload_n hx hb dJ6_bitCount_0f7a4_15 rfl (lv_at hl 0 rfl) ?_
  refine lv_iconst (v := (2 : Int32)) hx hb dJ6_bitCount_0f7a4_16 (by decide) ?_
  refine lv_iushr (v := (xus (v0 - ((xus v0 (1 : Int32)) &&& (1431655765 : Int32))) (2 : Int32))) hx hb dJ6_bitCount_0f7a4_17 rfl ?_
  refine lv_ldcw hx hb hown (htb _ kI_J6_266) dJ6_bitCount_0f7a4_18 ?_
  refine lv_iand hx hb dJ6_bitCount_0f7a4_21 ?_
  refine lv_iadd hx hb dJ6_bitCount_0f7a4_22 ?_
  refine lv_istore_n (lv' := [(0, .int (((v0 - ((xus v0 (1 : Int32)) &&& (1431655765 : Int32))) &&& (858993459 : Int32)) + ((xus (v0 - ((xus v0 (1 : Int32)) &&& (1431655765 : Int32))) (2 : Int32)) &&& (858993459 : Int32))))]) hx hb dJ6_bitCount_0f7a4_23 rfl hl (by decide) rfl (fun ls hl => ?_)
  refine lv_iload_n hx hb dJ6_bitCount_0f7a4_24 rfl (lv_at hl 0 rfl) ?_
  refine lv_iload_n hx hb dJ6_bitCount_0f7a4_25 rfl (lv_at hl 0 rfl) ?_
  refine lv_iconst (v := (4 : Int32)) hx hb dJ6_bitCount_0f7a4_26 (by decide) ?_
  refine lv_iushr (v := (xus (((v0 - ((xus v0 (1 : Int32)) &&& (1431655765 : Int32))) &&& (858993459 : Int32)) + ((xus (v0 - ((xus v0 (1 : Int32)) &&& (1431655765 : Int32))) (2 : Int32)) &&& (858993459 : Int32))) (4 : Int32))) hx hb dJ6_bitCount_0f7a4_27 rfl ?_
  refine lv_iadd hx hb dJ6_bitCount_0f7a4_28 ?_
  refine lv_ldcw hx hb hown (htb _ kI_J6_267) dJ6_bitCount_0f7a4_29 ?_
  refine lv_iand hx hb dJ6_bitCount_0f7a4_32 ?_
  refine lv_istore_n (lv' := [(0, .int (((((v0 - ((xus v0 (1 : Int32)) &&& (1431655765 : Int32))) &&& (858993459 : Int32)) + ((xus (v0 - ((xus v0 (1 : Int32)) &&& (1431655765 : Int32))) (2 : Int32)) &&& (858993459 : Int32))) + (xus (((v0 - ((xus v0 (1 : Int32)) &&& (1431655765 : Int32))) &&& (858993459 : Int32)) + ((xus (v0 - ((xus v0 (1 : Int32)) &&& (1431655765 : Int32))) (2 : Int32)) &&& (858993459 : Int32))) (4 : Int32))) &&& (252645135 : Int32)))]) hx hb dJ6_bitCount_0f7a4_33 rfl hl (by decide) rfl (fun ls hl => ?_)
  refine lv_iload_n hx hb dJ6_bitCount_0f7a4_34 rfl (lv_at hl 0 rfl) ?_
  refine lv_iload_n hx hb dJ6_bitCount_0f7a4_35 rfl (lv_at hl 0 rfl) ?_
  refine lv_bipush (v := (8 : Int32)) hx hb dJ6_bitCount_0f7a4_36 (by decide) ?_
  refine lv_iushr (v := (xus (((((v0 - ((xus v0 (1 : Int32)) &&& (1431655765 : Int32))) &&& (858993459 : Int32)) + ((xus (v0 - ((xus v0 (1 : Int32)) &&& (1431655765 : Int32))) (2 : Int32)) &&& (858993459 : Int32))) + (xus (((v0 - ((xus v0 (1 : Int32)) &&& (1431655765 : Int32))) &&& (858993459 : Int32)) + ((xus (v0 - ((xus v0 (1 : Int32)) &&& (1431655765 : Int32))) (2 : Int32)) &&& (858993459 : Int32))) (4 : Int32))) &&& (252645135 : Int32)) (8 : Int32))) hx hb dJ6_bitCount_0f7a4_38 rfl ?_
  refine lv_iadd hx hb dJ6_bitCount_0f7a4_39 ?_
  refine lv_istore_n (lv' := [(0, .int ((((((v0 - ((xus v0 (1 : Int32)) &&& (1431655765 : Int32))) &&& (858993459 : Int32)) + ((xus (v0 - ((xus v0 (1 : Int32)) &&& (1431655765 : Int32))) (2 : Int32)) &&& (858993459 : Int32))) + (xus (((v0 - ((xus v0 (1 : Int32)) &&& (1431655765 : Int32))) &&& (858993459 : Int32)) + ((xus (v0 - ((xus v0 (1 : Int32)) &&& (1431655765 : Int32))) (2 : Int32)) &&& (858993459 : Int32))) (4 : Int32))) &&& (252645135 : Int32)) + (xus (((((v0 - ((xus v0 (1 : Int32)) &&& (1431655765 : Int32))) &&& (858993459 : Int32)) + ((xus (v0 - ((xus v0 (1 : Int32)) &&& (1431655765 : Int32))) (2 : Int32)) &&& (858993459 : Int32))) + (xus (((v0 - ((xus v0 (1 : Int32)) &&& (1431655765 : Int32))) &&& (858993459 : Int32)) + ((xus (v0 - ((xus v0 (1 : Int32)) &&& (1431655765 : Int32))) (2 : Int32)) &&& (858993459 : Int32))) (4 : Int32))) &&& (252645135 : Int32)) (8 : Int32))))]) hx hb dJ6_bitCount_0f7a4_40 rfl hl (by decide) rfl (fun ls hl => ?_)
  refine lv_iload_n hx hb dJ6_bitCount_0f7a4_41 rfl (lv_at hl 0 rfl) ?_
  refine lv_iload_n hx hb dJ6_bitCount_0f7a4_42 rfl (lv_at hl 0 rfl) ?_
  refine lv_bipush (v := (16 : Int32)) hx hb dJ6_bitCount_0f7a4_43 (by decide) ?_
  refine lv_iushr (v := (xus ((((((v0 - ((xus v0 (1 : Int32)) &&& (1431655765 : Int32))) &&& (858993459 : Int32)) + ((xus (v0 - ((xus v0 (1 : Int32)) &&& (1431655765 : Int32))) (2 : Int32)) &&& (858993459 : Int32))) + (xus (((v0 - ((xus v0 (1 : Int32)) &&& (1431655765 : Int32))) &&& (858993459 : Int32)) + ((xus (v0 - ((xus v0 (1 : Int32)) &&& (1431655765 : Int32))) (2 : Int32)) &&& (858993459 : Int32))) (4 : Int32))) &&& (252645135 : Int32)) + (xus (((((v0 - ((xus v0 (1 : Int32)) &&& (1431655765 : Int32))) &&& (858993459 : Int32)) + ((xus (v0 - ((xus v0 (1 : Int32)) &&& (1431655765 : Int32))) (2 : Int32)) &&& (858993459 : Int32))) + (xus (((v0 - ((xus v0 (1 : Int32)) &&& (1431655765 : Int32))) &&& (858993459 : Int32)) + ((xus (v0 - ((xus v0 (1 : Int32)) &&& (1431655765 : Int32))) (2 : Int32)) &&& (858993459 : Int32))) (4 : Int32))) &&& (252645135 : Int32)) (8 : Int32))) (16 : Int32))) hx hb dJ6_bitCount_0f7a4_45 rfl ?_
  refine lv_iadd hx hb dJ6_bitCount_0f7a4_46 ?_
  refine lv_istore_n (lv' := [(0, .int (((((((v0 - ((xus v0 (1 : Int32)) &&& (1431655765 : Int32))) &&& (858993459 : Int32)) + ((xus (v0 - ((xus v0 (1 : Int32)) &&& (1431655765 : Int32))) (2 : Int32)) &&& (858993459 : Int32))) + (xus (((v0 - ((xus v0 (1 : Int32)) &&& (1431655765 : Int32))) &&& (858993459 : Int32)) + ((xus (v0 - ((xus v0 (1 : Int32)) &&& (1431655765 : Int32))) (2 : Int32)) &&& (858993459 : Int32))) (4 : Int32))) &&& (252645135 : Int32)) + (xus (((((v0 - ((xus v0 (1 : Int32)) &&& (1431655765 : Int32))) &&& (858993459 : Int32)) + ((xus (v0 - ((xus v0 (1 : Int32)) &&& (1431655765 : Int32))) (2 : Int32)) &&& (858993459 : Int32))) + (xus (((v0 - ((xus v0 (1 : Int32)) &&& (1431655765 : Int32))) &&& (858993459 : Int32)) + ((xus (v0 - ((xus v0 (1 : Int32)) &&& (1431655765 : Int32))) (2 : Int32)) &&& (858993459 : Int32))) (4 : Int32))) &&& (252645135 : Int32)) (8 : Int32))) + (xus ((((((v0 - ((xus v0 (1 : Int32)) &&& (1431655765 : Int32))) &&& (858993459 : Int32)) + ((xus (v0 - ((xus v0 (1 : Int32)) &&& (1431655765 : Int32))) (2 : Int32)) &&& (858993459 : Int32))) + (xus (((v0 - ((xus v0 (1 : Int32)) &&& (1431655765 : Int32))) &&& (858993459 : Int32)) + ((xus (v0 - ((xus v0 (1 : Int32)) &&& (1431655765 : Int32))) (2 : Int32)) &&& (858993459 : Int32))) (4 : Int32))) &&& (252645135 : Int32)) + (xus (((((v0 - ((xus v0 (1 : Int32)) &&& (1431655765 : Int32))) &&& (858993459 : Int32)) + ((xus (v0 - ((xus v0 (1 : Int32)) &&& (1431655765 : Int32))) (2 : Int32)) &&& (858993459 : Int32))) + (xus (((v0 - ((xus v0 (1 : Int32)) &&& (1431655765 : Int32))) &&& (858993459 : Int32)) + ((xus (v0 - ((xus v0 (1 : Int32)) &&& (1431655765 : Int32))) (2 : Int32)) &&& (858993459 : Int32))) (4 : Int32))) &&& (252645135 : Int32)) (8 : Int32))) (16 : Int32))))]) hx hb dJ6_bitCount_0f7a4_47 rfl hl (by decide) rfl (fun ls hl => ?_)
  refine lv_iload_n hx hb dJ6_bitCount_0f7a4_48 rfl (lv_at hl 0 rfl) ?_
  refine lv_bipush (v := (63 : Int32)) hx hb dJ6_bitCount_0f7a4_49 (by decide) ?_
  refine lv_iand hx hb dJ6_bitCount_0f7a4_51 ?_
  obtain rfl := Option.some.inj h
  exact x_reti C hQ hA hw dJ6_bitCount_0f7a4_52
noncomputable def f_J7_fill_53178_L1 (a_n : Nat) (v1 : Int32) (z : (Nat → Int32) × Int32) : Option (((Nat → Int32) × Int32) ⊕ ((Nat → Int32))) := match z with
  | (a_row_1, v2_2) => xb ((nI a_n) ≤ v2_2) (some (.inr a_row_1)) (xk (vp_in v2_2 a_n) (some (.inl ((upd a_row_1 v2_2.toNatClampNeg v1), (v2_2 + (1 : Int32))))))
noncomputable def f_J7_fill_53178 (a_n : Nat) (a_row : (Nat → Int32)) (v1 : Int32) : Option ((Nat → Int32)) := xn (xL (f_J7_fill_53178_L1 a_n v1) (a_row, (0 : Int32))) (fun (a_row_3 : (Nat → Int32)) => some a_row_3)
set_option maxHeartbeats 4000000 in
set_option maxRecDepth 100000 in
theorem c_J7_fill_53178 (l : Launch) (dC : Nat → ClassId) (dI : Nat → Nat → Nat) (cI cZ cB cO : ClassId) (a_h : Nat) (a_n : Nat) (a_row : (Nat → Int32)) (v1 : Int32) (o : (Nat → Int32)) (h : f_J7_fill_53178 a_n a_row v1 = some o) (sz : Nat) : Met l yJ7_fill_53178 (xW yJ7_fill_53178 cJ7_fill_53178 4 none) { frames := 0, cells := 0, slots := 0, locals := 0 } (xPre dC dI (xT cI cZ cB cO) [.ref a_h, .int v1] (wA cI cZ cB cO a_h a_n a_row) sz) (xQv dC dI (xT cI cZ cB cO) (wA cI cZ cB cO a_h a_n a_row) (wA cI cZ cB cO a_h a_n o) sz) 0 0 (va_A (wA cI cZ cB cO a_h a_n a_row) sz) := by
  refine x_met (by decide) (Nat.le_of_ble_eq_true rfl) ?_
  intro p e s m args below meth c R Q A hR hsz hA hQ hin C hw ls hl
  have hx := C.1
  have hb := C.2.1
  have hown := C.2.2.2.1
  have htb := C.2.2.2.2.1
  have hl : lv_has ls 4 [(0, .ref a_h), (1, .int v1)] := hl
  refine lv_iconst (v := (0 : Int32)) hx hb dJ7_fill_53178_0 (by decide) ?_
  refine lv_istore_n (lv' := [(2, .int (0 : Int32)), (0, .ref a_h), (1, .int v1)]) hx hb dJ7_fill_53178_1 rfl hl (by decide) rfl (fun ls hl => ?_)
  refine lv_aload_n hx hb dJ7_fill_53178_2 rfl (lv_at hl 1 rfl) ?_
  refine va_alen (v := nI a_n) hx hb C.2.2.2.2.2.2.2 hw.1 0 0 rfl rfl rfl dJ7_fill_53178_3 ?_
  refine lv_istore_n (lv' := [(3, .int (nI a_n)), (2, .int (0 : Int32)), (0, .ref a_h), (1, .int v1)]) hx hb dJ7_fill_53178_4 rfl hl (by decide) rfl (fun ls hl => ?_)
  obtain ⟨z, hr, h⟩ := xn_i h
  refine xL_w (fun (z : (Nat → Int32) × Int32) => ∀ (H : Heap) (locs : List Loc) (ls : Array Slot), xWd (dC, dI) A s.heap H locs (wA cI cZ cB cO a_h a_n z.1) → lv_has ls 4 [(0, .ref a_h), (1, .int v1), (2, .int z.2), (3, .int (nI a_n))] → W p l e R s m args below meth c H locs 0 0 Q (F0 m 5 ls [])) (fun (z : (Nat → Int32)) => ∀ (H : Heap) (locs : List Loc) (ls : Array Slot), xWd (dC, dI) A s.heap H locs (wA cI cZ cB cO a_h a_n z) → lv_has ls 4 [] → W p l e R s m args below meth c H locs 0 0 Q (F0 m 20 ls [])) ?_ hr ?_ _ _ _ hw (lv_sub hl [2, 3, 1, 0] rfl)
  · rintro ⟨a_row_1, v2_2⟩ o h k H locs ls hw hl
    have hw : xWd (dC, dI) A s.heap H locs (wA cI cZ cB cO a_h a_n a_row_1) := hw
    have hl : lv_has ls 4 [(0, .ref a_h), (1, .int v1), (2, .int v2_2), (3, .int (nI a_n))] := hl
    refine lv_iload_n hx hb dJ7_fill_53178_5 rfl (lv_at hl 2 rfl) ?_
    refine lv_iload_n hx hb dJ7_fill_53178_6 rfl (lv_at hl 3 rfl) ?_
    refine lv_icmp_ge (tgt := 20) hx hb dJ7_fill_53178_7 (by decide) (fun b1 => ?_) (fun b1 => ?_)
    · replace h := xb_tt b1 h
      obtain rfl := Option.some.inj h
      exact k _ _ _ hw (lv_sub hl [] rfl)
    · replace h := xb_ff b1 h
      refine lv_aload_n hx hb dJ7_fill_53178_10 rfl (lv_at hl 0 rfl) ?_
      refine lv_iload_n hx hb dJ7_fill_53178_11 rfl (lv_at hl 2 rfl) ?_
      refine lv_iload_n hx hb dJ7_fill_53178_12 rfl (lv_at hl 1 rfl) ?_
      obtain ⟨b2, h⟩ := xk_i h
      refine x_iast C hw 0 0 rfl rfl b2 dJ7_fill_53178_13 (fun H locs hw => ?_)
      have hw : xWd (dC, dI) A s.heap H locs (wA cI cZ cB cO a_h a_n (upd a_row_1 v2_2.toNatClampNeg v1)) := hw
      refine lv_iinc (v := (v2_2 + (1 : Int32))) (lv' := [(2, .int (v2_2 + (1 : Int32))), (0, .ref a_h), (1, .int v1), (3, .int (nI a_n))]) hx hb dJ7_fill_53178_14 hl (k := 2) rfl (congrArg (fun q => v2_2 + q) (by decide)) (by decide) rfl (fun ls hl => ?_)
      refine lv_goto (tgt := 5) hx hb dJ7_fill_53178_17 (by decide) ?_
      obtain rfl := Option.some.inj h
      exact k _ _ _ hw (lv_sub hl [1, 2, 0, 3] rfl)
  · obtain ⟨a_row_3, hz⟩ : ∃ q, q = z := ⟨z, rfl⟩
    subst hz
    intro H locs ls hw hl
    have hw : xWd (dC, dI) A s.heap H locs (wA cI cZ cB cO a_h a_n a_row_3) := hw
    have hl : lv_has ls 4 [] := hl
    obtain rfl := Option.some.inj h
    exact x_retv C hQ hA hw dJ7_fill_53178_20
noncomputable def f_X4_start (s_n : Int32) (s_count : Int32) (v1 : Int32) : Option (Int32 × Int32) := some (v1, (0 : Int32))
set_option maxHeartbeats 4000000 in
set_option maxRecDepth 100000 in
theorem c_X4_start (l : Launch) (dC : Nat → ClassId) (dI : Nat → Nat → Nat) (cI cZ cB cO : ClassId) (s_h : Nat) (s_p : Nat → Nat) (s_n : Int32) (s_count : Int32) (s_generators : (Nat → Int32)) (v1 : Int32) (o : Int32 × Int32) (h : f_X4_start s_n s_count v1 = some o) (sz : Nat) : Met l yX4_start (xW yX4_start cX4_start 2 none) { frames := 0, cells := 0, slots := 0, locals := 0 } (xPre dC dI (xT cI cZ cB cO) [.ref s_h, .int v1] (wS cI cZ cB cO s_h s_p s_n s_count s_generators) sz) (xQv dC dI (xT cI cZ cB cO) (wS cI cZ cB cO s_h s_p s_n s_count s_generators) (wS cI cZ cB cO s_h s_p o.1 o.2 s_generators) sz) 0 0 (va_A (wS cI cZ cB cO s_h s_p s_n s_count s_generators) sz) := by
  refine x_met (by decide) (Nat.le_of_ble_eq_true rfl) ?_
  intro p e s m args below meth c R Q A hR hsz hA hQ hin C hw ls hl
  have hx := C.1
  have hb := C.2.1
  have hown := C.2.2.2.1
  have htb := C.2.2.2.2.1
  have hl : lv_has ls 2 [(0, .ref s_h), (1, .int v1)] := hl
  refine lv_aload_n hx hb dX4_start_0 rfl (lv_at hl 0 rfl) ?_
  refine lv_iload_n hx hb dX4_start_1 rfl (lv_at hl 1 rfl) ?_
  refine x_put (ci := 3) C hw inX4 tyX4 tyX4_ok nmX4 rfl 0 (by decide) lkF_X4_9 rfl rfl 0 rfl rfl rfl (Nat.le_of_ble_eq_true rfl) dX4_start_2 (fun H locs hw => ?_)
  have hw : xWd (dC, dI) A s.heap H locs (wS cI cZ cB cO s_h s_p v1 s_count s_generators) := hw
  refine lv_aload_n hx hb dX4_start_5 rfl (lv_at hl 0 rfl) ?_
  refine lv_iconst (v := (0 : Int32)) hx hb dX4_start_6 (by decide) ?_
  refine x_put (ci := 3) C hw inX4 tyX4 tyX4_ok nmX4 rfl 1 (by decide) lkF_X4_15 rfl rfl 0 rfl rfl rfl (Nat.le_of_ble_eq_true rfl) dX4_start_7 (fun H locs hw => ?_)
  have hw : xWd (dC, dI) A s.heap H locs (wS cI cZ cB cO s_h s_p v1 (0 : Int32) s_generators) := hw
  obtain rfl := Option.some.inj h
  exact x_retv C hQ hA hw dX4_start_10
noncomputable def f_X4_generator (s_count : Int32) (s_generators : (Nat → Int32)) (v1 : Int32) : Option (Int32) := xb (v1 < 0) (some (16434824 : Int32)) (xb (s_count ≤ v1) (some (16434824 : Int32)) (xk (vp_in v1 3) (some (s_generators v1.toNatClampNeg))))
set_option maxHeartbeats 4000000 in
set_option maxRecDepth 100000 in
theorem c_X4_generator (l : Launch) (dC : Nat → ClassId) (dI : Nat → Nat → Nat) (cI cZ cB cO : ClassId) (s_h : Nat) (s_p : Nat → Nat) (s_n : Int32) (s_count : Int32) (s_generators : (Nat → Int32)) (v1 : Int32) (o : Int32) (h : f_X4_generator s_count s_generators v1 = some o) (sz : Nat) : Met l yX4_generator (xW yX4_generator cX4_generator 2 (some .int)) { frames := 0, cells := 0, slots := 0, locals := 0 } (xPre dC dI (xT cI cZ cB cO) [.ref s_h, .int v1] (wS cI cZ cB cO s_h s_p s_n s_count s_generators) sz) (xQi dC dI (xT cI cZ cB cO) o (wS cI cZ cB cO s_h s_p s_n s_count s_generators) (wS cI cZ cB cO s_h s_p s_n s_count s_generators) sz) 0 0 (va_A (wS cI cZ cB cO s_h s_p s_n s_count s_generators) sz) := by
  refine x_met (by decide) (Nat.le_of_ble_eq_true rfl) ?_
  intro p e s m args below meth c R Q A hR hsz hA hQ hin C hw ls hl
  have hx := C.1
  have hb := C.2.1
  have hown := C.2.2.2.1
  have htb := C.2.2.2.2.1
  have hl : lv_has ls 2 [(0, .ref s_h), (1, .int v1)] := hl
  refine lv_iload_n hx hb dX4_generator_0 rfl (lv_at hl 1 rfl) ?_
  refine lv_if_lt (tgt := 21) hx hb dX4_generator_1 (by decide) (fun b1 => ?_) (fun b1 => ?_)
  · replace h := xb_tt b1 h
    refine lv_ldc hx hb hown (htb _ kI_X4_24) dX4_generator_21 ?_
    obtain rfl := Option.some.inj h
    exact x_reti C hQ hA hw dX4_generator_23
  · replace h := xb_ff b1 h
    refine lv_iload_n hx hb dX4_generator_4 rfl (lv_at hl 1 rfl) ?_
    refine lv_aload_n hx hb dX4_generator_5 rfl (lv_at hl 0 rfl) ?_
    refine x_get (ci := 3) C hw inX4 rfl 1 (by decide) lkF_X4_15 rfl 0 rfl rfl dX4_generator_6 ?_
    refine lv_icmp_ge (tgt := 21) hx hb dX4_generator_9 (by decide) (fun b2 => ?_) (fun b2 => ?_)
    · replace h := xb_tt b2 h
      refine lv_ldc hx hb hown (htb _ kI_X4_24) dX4_generator_21 ?_
      obtain rfl := Option.some.inj h
      exact x_reti C hQ hA hw dX4_generator_23
    · replace h := xb_ff b2 h
      refine lv_aload_n hx hb dX4_generator_12 rfl (lv_at hl 0 rfl) ?_
      refine x_get (ci := 3) C hw inX4 rfl 2 (by decide) lkF_X4_18 rfl 0 rfl rfl dX4_generator_13 ?_
      refine lv_iload_n hx hb dX4_generator_16 rfl (lv_at hl 1 rfl) ?_
      obtain ⟨b3, h⟩ := xk_i h
      refine x_iald C hw 1 0 rfl rfl b3 dX4_generator_17 ?_
      refine lv_goto (tgt := 23) hx hb dX4_generator_18 (by decide) ?_
      obtain rfl := Option.some.inj h
      exact x_reti C hQ hA hw dX4_generator_23
noncomputable def f_X4_adds (s_count : Int32) (s_generators : (Nat → Int32)) (v1 : Int32) : Option (Int32 × (Nat → Int32) × Int32) := xb (s_count < (3 : Int32)) (xk (vp_in s_count 3) (some ((s_count + (1 : Int32)), (upd s_generators s_count.toNatClampNeg v1), (1 : Int32)))) (some (s_count, s_generators, (0 : Int32)))
set_option maxHeartbeats 4000000 in
set_option maxRecDepth 100000 in
theorem c_X4_adds (l : Launch) (dC : Nat → ClassId) (dI : Nat → Nat → Nat) (cI cZ cB cO : ClassId) (s_h : Nat) (s_p : Nat → Nat) (s_n : Int32) (s_count : Int32) (s_generators : (Nat → Int32)) (v1 : Int32) (o : Int32 × (Nat → Int32) × Int32) (h : f_X4_adds s_count s_generators v1 = some o) (sz : Nat) : Met l yX4_adds (xW yX4_adds cX4_adds 2 (some .boolean)) { frames := 0, cells := 0, slots := 0, locals := 0 } (xPre dC dI (xT cI cZ cB cO) [.ref s_h, .int v1] (wS cI cZ cB cO s_h s_p s_n s_count s_generators) sz) (xQi dC dI (xT cI cZ cB cO) o.2.2 (wS cI cZ cB cO s_h s_p s_n s_count s_generators) (wS cI cZ cB cO s_h s_p s_n o.1 o.2.1) sz) 0 0 (va_A (wS cI cZ cB cO s_h s_p s_n s_count s_generators) sz) := by
  refine x_met (by decide) (Nat.le_of_ble_eq_true rfl) ?_
  intro p e s m args below meth c R Q A hR hsz hA hQ hin C hw ls hl
  have hx := C.1
  have hb := C.2.1
  have hown := C.2.2.2.1
  have htb := C.2.2.2.2.1
  have hl : lv_has ls 2 [(0, .ref s_h), (1, .int v1)] := hl
  refine lv_aload_n hx hb dX4_adds_0 rfl (lv_at hl 0 rfl) ?_
  refine x_get (ci := 3) C hw inX4 rfl 1 (by decide) lkF_X4_15 rfl 0 rfl rfl dX4_adds_1 ?_
  refine lv_iconst (v := (3 : Int32)) hx hb dX4_adds_4 (by decide) ?_
  refine lv_icmp_lt (tgt := 10) hx hb dX4_adds_5 (by decide) (fun b1 => ?_) (fun b1 => ?_)
  · replace h := xb_tt b1 h
    refine lv_aload_n hx hb dX4_adds_10 rfl (lv_at hl 0 rfl) ?_
    refine x_get (ci := 3) C hw inX4 rfl 2 (by decide) lkF_X4_18 rfl 0 rfl rfl dX4_adds_11 ?_
    refine lv_aload_n hx hb dX4_adds_14 rfl (lv_at hl 0 rfl) ?_
    refine x_get (ci := 3) C hw inX4 rfl 1 (by decide) lkF_X4_15 rfl 0 rfl rfl dX4_adds_15 ?_
    refine lv_iload_n hx hb dX4_adds_18 rfl (lv_at hl 1 rfl) ?_
    obtain ⟨b2, h⟩ := xk_i h
    refine x_iast C hw 1 0 rfl rfl b2 dX4_adds_19 (fun H locs hw => ?_)
    have hw : xWd (dC, dI) A s.heap H locs (wS cI cZ cB cO s_h s_p s_n s_count (upd s_generators s_count.toNatClampNeg v1)) := hw
    refine lv_aload_n hx hb dX4_adds_20 rfl (lv_at hl 0 rfl) ?_
    refine lv_dup hx hb dX4_adds_21 rfl ?_
    refine x_get (ci := 3) C hw inX4 rfl 1 (by decide) lkF_X4_15 rfl 0 rfl rfl dX4_adds_22 ?_
    refine lv_iconst (v := (1 : Int32)) hx hb dX4_adds_25 (by decide) ?_
    refine lv_iadd hx hb dX4_adds_26 ?_
    refine x_put (ci := 3) C hw inX4 tyX4 tyX4_ok nmX4 rfl 1 (by decide) lkF_X4_15 rfl rfl 0 rfl rfl rfl (Nat.le_of_ble_eq_true rfl) dX4_adds_27 (fun H locs hw => ?_)
    have hw : xWd (dC, dI) A s.heap H locs (wS cI cZ cB cO s_h s_p s_n (s_count + (1 : Int32)) (upd s_generators s_count.toNatClampNeg v1)) := hw
    refine lv_iconst (v := (1 : Int32)) hx hb dX4_adds_30 (by decide) ?_
    obtain rfl := Option.some.inj h
    exact x_retz C hQ hA hw (by decide) dX4_adds_31
  · replace h := xb_ff b1 h
    refine lv_iconst (v := (0 : Int32)) hx hb dX4_adds_8 (by decide) ?_
    obtain rfl := Option.some.inj h
    exact x_retz C hQ hA hw (by decide) dX4_adds_9
noncomputable def f_X4_loses_L1 (s_count : Int32) (z : (Nat → Int32) × Int32) : Option (((Nat → Int32) × Int32) ⊕ ((Nat → Int32))) := match z with
  | (s_generators_1, v2_2) => xb (s_count ≤ v2_2) (some (.inr s_generators_1)) (xk (vp_in v2_2 3) (xk (vp_in (v2_2 - (1 : Int32)) 3) (some (.inl ((upd s_generators_1 (v2_2 - (1 : Int32)).toNatClampNeg (s_generators_1 v2_2.toNatClampNeg)), (v2_2 + (1 : Int32)))))))
noncomputable def f_X4_loses (s_count : Int32) (s_generators : (Nat → Int32)) (v1 : Int32) : Option (Int32 × (Nat → Int32) × Int32) := xb (v1 < 0) (some (s_count, s_generators, (0 : Int32))) (xb (v1 < s_count) (xn (xL (f_X4_loses_L1 s_count) (s_generators, (v1 + (1 : Int32)))) (fun (s_generators_3 : (Nat → Int32)) => some ((s_count - (1 : Int32)), s_generators_3, (1 : Int32)))) (some (s_count, s_generators, (0 : Int32))))
set_option maxHeartbeats 4000000 in
set_option maxRecDepth 100000 in
theorem c_X4_loses (l : Launch) (dC : Nat → ClassId) (dI : Nat → Nat → Nat) (cI cZ cB cO : ClassId) (s_h : Nat) (s_p : Nat → Nat) (s_n : Int32) (s_count : Int32) (s_generators : (Nat → Int32)) (v1 : Int32) (o : Int32 × (Nat → Int32) × Int32) (h : f_X4_loses s_count s_generators v1 = some o) (sz : Nat) : Met l yX4_loses (xW yX4_loses cX4_loses 3 (some .boolean)) { frames := 0, cells := 0, slots := 0, locals := 0 } (xPre dC dI (xT cI cZ cB cO) [.ref s_h, .int v1] (wS cI cZ cB cO s_h s_p s_n s_count s_generators) sz) (xQi dC dI (xT cI cZ cB cO) o.2.2 (wS cI cZ cB cO s_h s_p s_n s_count s_generators) (wS cI cZ cB cO s_h s_p s_n o.1 o.2.1) sz) 0 0 (va_A (wS cI cZ cB cO s_h s_p s_n s_count s_generators) sz) := by
  refine x_met (by decide) (Nat.le_of_ble_eq_true rfl) ?_
  intro p e s m args below meth c R Q A hR hsz hA hQ hin C hw ls hl
  have hx := C.1
  have hb := C.2.1
  have hown := C.2.2.2.1
  have htb := C.2.2.2.2.1
  have hl : lv_has ls 3 [(0, .ref s_h), (1, .int v1)] := hl
  refine lv_iload_n hx hb dX4_loses_0 rfl (lv_at hl 1 rfl) ?_
  refine lv_if_lt (tgt := 12) hx hb dX4_loses_1 (by decide) (fun b1 => ?_) (fun b1 => ?_)
  · replace h := xb_tt b1 h
    refine lv_iconst (v := (0 : Int32)) hx hb dX4_loses_12 (by decide) ?_
    obtain rfl := Option.some.inj h
    exact x_retz C hQ hA hw (by decide) dX4_loses_13
  · replace h := xb_ff b1 h
    refine lv_iload_n hx hb dX4_loses_4 rfl (lv_at hl 1 rfl) ?_
    refine lv_aload_n hx hb dX4_loses_5 rfl (lv_at hl 0 rfl) ?_
    refine x_get (ci := 3) C hw inX4 rfl 1 (by decide) lkF_X4_15 rfl 0 rfl rfl dX4_loses_6 ?_
    refine lv_icmp_lt (tgt := 14) hx hb dX4_loses_9 (by decide) (fun b2 => ?_) (fun b2 => ?_)
    · replace h := xb_tt b2 h
      refine lv_iload_n hx hb dX4_loses_14 rfl (lv_at hl 1 rfl) ?_
      refine lv_iconst (v := (1 : Int32)) hx hb dX4_loses_15 (by decide) ?_
      refine lv_iadd hx hb dX4_loses_16 ?_
      refine lv_istore_n (lv' := [(2, .int (v1 + (1 : Int32))), (0, .ref s_h), (1, .int v1)]) hx hb dX4_loses_17 rfl hl (by decide) rfl (fun ls hl => ?_)
      obtain ⟨z, hr, h⟩ := xn_i h
      refine xL_w (fun (z : (Nat → Int32) × Int32) => ∀ (H : Heap) (locs : List Loc) (ls : Array Slot), xWd (dC, dI) A s.heap H locs (wS cI cZ cB cO s_h s_p s_n s_count z.1) → lv_has ls 3 [(0, .ref s_h), (2, .int z.2)] → W p l e R s m args below meth c H locs 0 0 Q (F0 m 18 ls [])) (fun (z : (Nat → Int32)) => ∀ (H : Heap) (locs : List Loc) (ls : Array Slot), xWd (dC, dI) A s.heap H locs (wS cI cZ cB cO s_h s_p s_n s_count z) → lv_has ls 3 [(0, .ref s_h)] → W p l e R s m args below meth c H locs 0 0 Q (F0 m 46 ls [])) ?_ hr ?_ _ _ _ hw (lv_sub hl [1, 0] rfl)
      · rintro ⟨s_generators_1, v2_2⟩ o h k H locs ls hw hl
        have hw : xWd (dC, dI) A s.heap H locs (wS cI cZ cB cO s_h s_p s_n s_count s_generators_1) := hw
        have hl : lv_has ls 3 [(0, .ref s_h), (2, .int v2_2)] := hl
        refine lv_iload_n hx hb dX4_loses_18 rfl (lv_at hl 1 rfl) ?_
        refine lv_aload_n hx hb dX4_loses_19 rfl (lv_at hl 0 rfl) ?_
        refine x_get (ci := 3) C hw inX4 rfl 1 (by decide) lkF_X4_15 rfl 0 rfl rfl dX4_loses_20 ?_
        refine lv_icmp_ge (tgt := 46) hx hb dX4_loses_23 (by decide) (fun b3 => ?_) (fun b3 => ?_)
        · replace h := xb_tt b3 h
          obtain rfl := Option.some.inj h
          exact k _ _ _ hw (lv_sub hl [0] rfl)
        · replace h := xb_ff b3 h
          refine lv_aload_n hx hb dX4_loses_26 rfl (lv_at hl 0 rfl) ?_
          refine x_get (ci := 3) C hw inX4 rfl 2 (by decide) lkF_X4_18 rfl 0 rfl rfl dX4_loses_27 ?_
          refine lv_iload_n hx hb dX4_loses_30 rfl (lv_at hl 1 rfl) ?_
          refine lv_iconst (v := (1 : Int32)) hx hb dX4_loses_31 (by decide) ?_
          refine lv_isub hx hb dX4_loses_32 ?_
          refine lv_aload_n hx hb dX4_loses_33 rfl (lv_at hl 0 rfl) ?_
          refine x_get (ci := 3) C hw inX4 rfl 2 (by decide) lkF_X4_18 rfl 0 rfl rfl dX4_loses_34 ?_
          refine lv_iload_n hx hb dX4_loses_37 rfl (lv_at hl 1 rfl) ?_
          obtain ⟨b4, h⟩ := xk_i h
          refine x_iald C hw 1 0 rfl rfl b4 dX4_loses_38 ?_
          obtain ⟨b5, h⟩ := xk_i h
          refine x_iast C hw 1 0 rfl rfl b5 dX4_loses_39 (fun H locs hw => ?_)
          have hw : xWd (dC, dI) A s.heap H locs (wS cI cZ cB cO s_h s_p s_n s_count (upd s_generators_1 (v2_2 - (1 : Int32)).toNatClampNeg (s_generators_1 v2_2.toNatClampNeg))) := hw
          refine lv_iinc (v := (v2_2 + (1 : Int32))) (lv' := [(2, .int (v2_2 + (1 : Int32))), (0, .ref s_h)]) hx hb dX4_loses_40 hl (k := 1) rfl (congrArg (fun q => v2_2 + q) (by decide)) (by decide) rfl (fun ls hl => ?_)
          refine lv_goto (tgt := 18) hx hb dX4_loses_43 (by decide) ?_
          obtain rfl := Option.some.inj h
          exact k _ _ _ hw (lv_sub hl [1, 0] rfl)
      · obtain ⟨s_generators_3, hz⟩ : ∃ q, q = z := ⟨z, rfl⟩
        subst hz
        intro H locs ls hw hl
        have hw : xWd (dC, dI) A s.heap H locs (wS cI cZ cB cO s_h s_p s_n s_count s_generators_3) := hw
        have hl : lv_has ls 3 [(0, .ref s_h)] := hl
        refine lv_aload_n hx hb dX4_loses_46 rfl (lv_at hl 0 rfl) ?_
        refine lv_dup hx hb dX4_loses_47 rfl ?_
        refine x_get (ci := 3) C hw inX4 rfl 1 (by decide) lkF_X4_15 rfl 0 rfl rfl dX4_loses_48 ?_
        refine lv_iconst (v := (1 : Int32)) hx hb dX4_loses_51 (by decide) ?_
        refine lv_isub hx hb dX4_loses_52 ?_
        refine x_put (ci := 3) C hw inX4 tyX4 tyX4_ok nmX4 rfl 1 (by decide) lkF_X4_15 rfl rfl 0 rfl rfl rfl (Nat.le_of_ble_eq_true rfl) dX4_loses_53 (fun H locs hw => ?_)
        have hw : xWd (dC, dI) A s.heap H locs (wS cI cZ cB cO s_h s_p s_n (s_count - (1 : Int32)) s_generators_3) := hw
        refine lv_iconst (v := (1 : Int32)) hx hb dX4_loses_56 (by decide) ?_
        obtain rfl := Option.some.inj h
        exact x_retz C hQ hA hw (by decide) dX4_loses_57
    · replace h := xb_ff b2 h
      refine lv_iconst (v := (0 : Int32)) hx hb dX4_loses_12 (by decide) ?_
      obtain rfl := Option.some.inj h
      exact x_retz C hQ hA hw (by decide) dX4_loses_13
noncomputable def f_X4_copy (s_n : Int32) (s_count : Int32) (s_generators : (Nat → Int32)) (f_n : Int32) (f_count : Int32) (f_generators : (Nat → Int32)) : Option (Int32 × Int32 × (Nat → Int32)) := some (f_n, f_count, (va_cpy f_generators s_generators 0 0 3))
set_option maxHeartbeats 4000000 in
set_option maxRecDepth 100000 in
theorem c_X4_copy (l : Launch) (dC : Nat → ClassId) (dI : Nat → Nat → Nat) (cI cZ cB cO : ClassId) (s_h : Nat) (s_p : Nat → Nat) (f_h : Nat) (f_p : Nat → Nat) (s_n : Int32) (s_count : Int32) (s_generators : (Nat → Int32)) (f_n : Int32) (f_count : Int32) (f_generators : (Nat → Int32)) (o : Int32 × Int32 × (Nat → Int32)) (h : f_X4_copy s_n s_count s_generators f_n f_count f_generators = some o) (sz : Nat) : Met l yX4_copy (xW yX4_copy cX4_copy 2 none) { frames := 1, cells := 0, slots := 0, locals := 40 } (xPre dC dI (xT cI cZ cB cO) [.ref s_h, .ref f_h] ((wS cI cZ cB cO s_h s_p s_n s_count s_generators) ++ (wS cI cZ cB cO f_h f_p f_n f_count f_generators)) sz) (xQv dC dI (xT cI cZ cB cO) ((wS cI cZ cB cO s_h s_p s_n s_count s_generators) ++ (wS cI cZ cB cO f_h f_p f_n f_count f_generators)) ((wS cI cZ cB cO s_h s_p o.1 o.2.1 o.2.2) ++ (wS cI cZ cB cO f_h f_p f_n f_count f_generators)) sz) 0 0 (va_A ((wS cI cZ cB cO s_h s_p s_n s_count s_generators) ++ (wS cI cZ cB cO f_h f_p f_n f_count f_generators)) sz) := by
  refine x_met (by decide) (Nat.le_of_ble_eq_true rfl) ?_
  intro p e s m args below meth c R Q A hR hsz hA hQ hin C hw ls hl
  have hx := C.1
  have hb := C.2.1
  have hown := C.2.2.2.1
  have htb := C.2.2.2.2.1
  have hl : lv_has ls 2 [(0, .ref s_h), (1, .ref f_h)] := hl
  refine lv_aload_n hx hb dX4_copy_0 rfl (lv_at hl 0 rfl) ?_
  refine lv_aload_n hx hb dX4_copy_1 rfl (lv_at hl 1 rfl) ?_
  refine x_get (ci := 3) C hw inX4 rfl 0 (by decide) lkF_X4_9 rfl 2 rfl rfl dX4_copy_2 ?_
  refine x_put (ci := 3) C hw inX4 tyX4 tyX4_ok nmX4 rfl 0 (by decide) lkF_X4_9 rfl rfl 0 rfl rfl rfl (Nat.le_of_ble_eq_true rfl) dX4_copy_5 (fun H locs hw => ?_)
  have hw : xWd (dC, dI) A s.heap H locs ((wS cI cZ cB cO s_h s_p f_n s_count s_generators) ++ (wS cI cZ cB cO f_h f_p f_n f_count f_generators)) := hw
  refine lv_aload_n hx hb dX4_copy_8 rfl (lv_at hl 0 rfl) ?_
  refine lv_aload_n hx hb dX4_copy_9 rfl (lv_at hl 1 rfl) ?_
  refine x_get (ci := 3) C hw inX4 rfl 1 (by decide) lkF_X4_15 rfl 2 rfl rfl dX4_copy_10 ?_
  refine x_put (ci := 3) C hw inX4 tyX4 tyX4_ok nmX4 rfl 1 (by decide) lkF_X4_15 rfl rfl 0 rfl rfl rfl (Nat.le_of_ble_eq_true rfl) dX4_copy_13 (fun H locs hw => ?_)
  have hw : xWd (dC, dI) A s.heap H locs ((wS cI cZ cB cO s_h s_p f_n f_count s_generators) ++ (wS cI cZ cB cO f_h f_p f_n f_count f_generators)) := hw
  refine lv_aload_n hx hb dX4_copy_16 rfl (lv_at hl 1 rfl) ?_
  refine x_get (ci := 3) C hw inX4 rfl 2 (by decide) lkF_X4_18 rfl 2 rfl rfl dX4_copy_17 ?_
  refine lv_iconst (v := (0 : Int32)) hx hb dX4_copy_20 (by decide) ?_
  refine lv_aload_n hx hb dX4_copy_21 rfl (lv_at hl 0 rfl) ?_
  refine x_get (ci := 3) C hw inX4 rfl 2 (by decide) lkF_X4_18 rfl 0 rfl rfl dX4_copy_22 ?_
  refine lv_iconst (v := (0 : Int32)) hx hb dX4_copy_25 (by decide) ?_
  refine lv_iconst (v := (3 : Int32)) hx hb dX4_copy_26 (by decide) ?_
  refine x_copy (k := 3) C hw 3 1 rfl rfl rfl (by decide) (by decide) (by decide) (by decide) (by decide) (by decide) (Nat.le_of_ble_eq_true rfl) (Nat.le_of_ble_eq_true rfl) lkM_X4_25 (by rw [hR]; exact Nat.le_of_ble_eq_true rfl) (by rw [hR]; exact Nat.le_of_ble_eq_true rfl) hl.1 dX4_copy_27 (fun H locs hw => ?_)
  have hw : xWd (dC, dI) A s.heap H locs ((wS cI cZ cB cO s_h s_p f_n f_count (va_cpy f_generators s_generators 0 0 3)) ++ (wS cI cZ cB cO f_h f_p f_n f_count f_generators)) := hw
  obtain rfl := Option.some.inj h
  exact x_retv C hQ hA hw dX4_copy_30
noncomputable def f_X6_add (t_length : Int32) (t_bytes : (Nat → Int32)) (v1 : Int32) : Option (Int32 × (Nat → Int32)) := xb ((80 : Int32) ≤ t_length) (some (t_length, t_bytes)) (xk (vp_in t_length 80) (some ((t_length + (1 : Int32)), (upd t_bytes t_length.toNatClampNeg ((v1).toInt8.toInt32)))))
set_option maxHeartbeats 4000000 in
set_option maxRecDepth 100000 in
theorem c_X6_add (l : Launch) (dC : Nat → ClassId) (dI : Nat → Nat → Nat) (cI cZ cB cO : ClassId) (t_h : Nat) (t_p : Nat → Nat) (t_length : Int32) (t_bytes : (Nat → Int32)) (v1 : Int32) (o : Int32 × (Nat → Int32)) (h : f_X6_add t_length t_bytes v1 = some o) (sz : Nat) : Met l yX6_add (xW yX6_add cX6_add 2 none) { frames := 0, cells := 0, slots := 0, locals := 0 } (xPre dC dI (xT cI cZ cB cO) [.ref t_h, .int v1] (wT cI cZ cB cO t_h t_p t_length t_bytes) sz) (xQv dC dI (xT cI cZ cB cO) (wT cI cZ cB cO t_h t_p t_length t_bytes) (wT cI cZ cB cO t_h t_p o.1 o.2) sz) 0 0 (va_A (wT cI cZ cB cO t_h t_p t_length t_bytes) sz) := by
  refine x_met (by decide) (Nat.le_of_ble_eq_true rfl) ?_
  intro p e s m args below meth c R Q A hR hsz hA hQ hin C hw ls hl
  have hx := C.1
  have hb := C.2.1
  have hown := C.2.2.2.1
  have htb := C.2.2.2.2.1
  have hl : lv_has ls 2 [(0, .ref t_h), (1, .int v1)] := hl
  refine lv_aload_n hx hb dX6_add_0 rfl (lv_at hl 0 rfl) ?_
  refine x_get (ci := 5) C hw inX6 rfl 0 (by decide) lkF_X6_9 rfl 0 rfl rfl dX6_add_1 ?_
  refine lv_bipush (v := (80 : Int32)) hx hb dX6_add_4 (by decide) ?_
  refine lv_icmp_ge (tgt := 30) hx hb dX6_add_6 (by decide) (fun b1 => ?_) (fun b1 => ?_)
  · replace h := xb_tt b1 h
    obtain rfl := Option.some.inj h
    exact x_retv C hQ hA hw dX6_add_30
  · replace h := xb_ff b1 h
    refine lv_aload_n hx hb dX6_add_9 rfl (lv_at hl 0 rfl) ?_
    refine x_get (ci := 5) C hw inX6 rfl 1 (by decide) lkF_X6_15 rfl 0 rfl rfl dX6_add_10 ?_
    refine lv_aload_n hx hb dX6_add_13 rfl (lv_at hl 0 rfl) ?_
    refine x_get (ci := 5) C hw inX6 rfl 0 (by decide) lkF_X6_9 rfl 0 rfl rfl dX6_add_14 ?_
    refine lv_iload_n hx hb dX6_add_17 rfl (lv_at hl 1 rfl) ?_
    refine lv_i2b hx hb dX6_add_18 rfl ?_
    obtain ⟨b2, h⟩ := xk_i h
    refine x_bast C hw 1 2 rfl rfl (pk_vb _) b2 dX6_add_19 (fun H locs hw => ?_)
    have hw : xWd (dC, dI) A s.heap H locs (wT cI cZ cB cO t_h t_p t_length (upd t_bytes t_length.toNatClampNeg ((v1).toInt8.toInt32))) := hw
    refine lv_aload_n hx hb dX6_add_20 rfl (lv_at hl 0 rfl) ?_
    refine lv_dup hx hb dX6_add_21 rfl ?_
    refine x_get (ci := 5) C hw inX6 rfl 0 (by decide) lkF_X6_9 rfl 0 rfl rfl dX6_add_22 ?_
    refine lv_iconst (v := (1 : Int32)) hx hb dX6_add_25 (by decide) ?_
    refine lv_iadd hx hb dX6_add_26 ?_
    refine x_put (ci := 5) C hw inX6 tyX6 tyX6_ok nmX6 rfl 0 (by decide) lkF_X6_9 rfl rfl 0 rfl rfl rfl (Nat.le_of_ble_eq_true rfl) dX6_add_27 (fun H locs hw => ?_)
    have hw : xWd (dC, dI) A s.heap H locs (wT cI cZ cB cO t_h t_p (t_length + (1 : Int32)) (upd t_bytes t_length.toNatClampNeg ((v1).toInt8.toInt32))) := hw
    obtain rfl := Option.some.inj h
    exact x_retv C hQ hA hw dX6_add_30
noncomputable def f_X6_at (t_length : Int32) (t_bytes : (Nat → Int32)) (v1 : Int32) : Option (Int32) := xb (v1 < 0) (some (-1 : Int32)) (xb (t_length ≤ v1) (some (-1 : Int32)) (xk (vp_in v1 80) (some (t_bytes v1.toNatClampNeg))))
set_option maxHeartbeats 4000000 in
set_option maxRecDepth 100000 in
theorem c_X6_at (l : Launch) (dC : Nat → ClassId) (dI : Nat → Nat → Nat) (cI cZ cB cO : ClassId) (t_h : Nat) (t_p : Nat → Nat) (t_length : Int32) (t_bytes : (Nat → Int32)) (v1 : Int32) (o : Int32) (h : f_X6_at t_length t_bytes v1 = some o) (sz : Nat) : Met l yX6_at (xW yX6_at cX6_at 2 (some .int)) { frames := 0, cells := 0, slots := 0, locals := 0 } (xPre dC dI (xT cI cZ cB cO) [.ref t_h, .int v1] (wT cI cZ cB cO t_h t_p t_length t_bytes) sz) (xQi dC dI (xT cI cZ cB cO) o (wT cI cZ cB cO t_h t_p t_length t_bytes) (wT cI cZ cB cO t_h t_p t_length t_bytes) sz) 0 0 (va_A (wT cI cZ cB cO t_h t_p t_length t_bytes) sz) := by
  refine x_met (by decide) (Nat.le_of_ble_eq_true rfl) ?_
  intro p e s m args below meth c R Q A hR hsz hA hQ hin C hw ls hl
  have hx := C.1
  have hb := C.2.1
  have hown := C.2.2.2.1
  have htb := C.2.2.2.2.1
  have hl : lv_has ls 2 [(0, .ref t_h), (1, .int v1)] := hl
  refine lv_iload_n hx hb dX6_at_0 rfl (lv_at hl 1 rfl) ?_
  refine lv_if_lt (tgt := 21) hx hb dX6_at_1 (by decide) (fun b1 => ?_) (fun b1 => ?_)
  · replace h := xb_tt b1 h
    refine lv_iconst (v := (-1 : Int32)) hx hb dX6_at_21 (by decide) ?_
    obtain rfl := Option.some.inj h
    exact x_reti C hQ hA hw dX6_at_22
  · replace h := xb_ff b1 h
    refine lv_iload_n hx hb dX6_at_4 rfl (lv_at hl 1 rfl) ?_
    refine lv_aload_n hx hb dX6_at_5 rfl (lv_at hl 0 rfl) ?_
    refine x_get (ci := 5) C hw inX6 rfl 0 (by decide) lkF_X6_9 rfl 0 rfl rfl dX6_at_6 ?_
    refine lv_icmp_ge (tgt := 21) hx hb dX6_at_9 (by decide) (fun b2 => ?_) (fun b2 => ?_)
    · replace h := xb_tt b2 h
      refine lv_iconst (v := (-1 : Int32)) hx hb dX6_at_21 (by decide) ?_
      obtain rfl := Option.some.inj h
      exact x_reti C hQ hA hw dX6_at_22
    · replace h := xb_ff b2 h
      refine lv_aload_n hx hb dX6_at_12 rfl (lv_at hl 0 rfl) ?_
      refine x_get (ci := 5) C hw inX6 rfl 1 (by decide) lkF_X6_15 rfl 0 rfl rfl dX6_at_13 ?_
      refine lv_iload_n hx hb dX6_at_16 rfl (lv_at hl 1 rfl) ?_
      obtain ⟨b3, h⟩ := xk_i h
      refine x_bald C hw 1 2 rfl rfl b3 dX6_at_17 ?_
      refine lv_goto (tgt := 22) hx hb dX6_at_18 (by decide) ?_
      obtain rfl := Option.some.inj h
      exact x_reti C hQ hA hw dX6_at_22
end
section
theorem dX1_howMany_0 : decode cX1_howMany 0 = .ok (.aload_n 0, 1) := by decide +kernel
theorem dX1_howMany_1 : decode cX1_howMany 1 = .ok (.getfield 25, 3) := by decide +kernel
theorem dX1_howMany_4 : decode cX1_howMany 4 = .ok (.iconst 0, 1) := by decide +kernel
theorem dX1_howMany_5 : decode cX1_howMany 5 = .ok (.iaload, 1) := by decide +kernel
theorem dX1_howMany_6 : decode cX1_howMany 6 = .ok (.ireturn, 1) := by decide +kernel
theorem dX1_chain_0 : decode cX1_chain 0 = .ok (.iload_n 1, 1) := by decide +kernel
theorem dX1_chain_1 : decode cX1_chain 1 = .ok (.ifCond .lt 18, 3) := by decide +kernel
theorem dX1_chain_4 : decode cX1_chain 4 = .ok (.iload_n 1, 1) := by decide +kernel
theorem dX1_chain_5 : decode cX1_chain 5 = .ok (.bipush 8, 2) := by decide +kernel
theorem dX1_chain_7 : decode cX1_chain 7 = .ok (.if_icmp .ge 12, 3) := by decide +kernel
theorem dX1_chain_10 : decode cX1_chain 10 = .ok (.aload_n 0, 1) := by decide +kernel
theorem dX1_chain_11 : decode cX1_chain 11 = .ok (.getfield 22, 3) := by decide +kernel
theorem dX1_chain_14 : decode cX1_chain 14 = .ok (.iload_n 1, 1) := by decide +kernel
theorem dX1_chain_15 : decode cX1_chain 15 = .ok (.iaload, 1) := by decide +kernel
theorem dX1_chain_16 : decode cX1_chain 16 = .ok (.goto 4, 3) := by decide +kernel
theorem dX1_chain_19 : decode cX1_chain 19 = .ok (.iconst 0, 1) := by decide +kernel
theorem dX1_chain_20 : decode cX1_chain 20 = .ok (.ireturn, 1) := by decide +kernel
theorem dX1_step_0 : decode cX1_step 0 = .ok (.aload_n 0, 1) := by decide +kernel
theorem dX1_step_1 : decode cX1_step 1 = .ok (.getfield 15, 3) := by decide +kernel
theorem dX1_step_4 : decode cX1_step 4 = .ok (.bipush 8, 2) := by decide +kernel
theorem dX1_step_6 : decode cX1_step 6 = .ok (.iload_n 1, 1) := by decide +kernel
theorem dX1_step_7 : decode cX1_step 7 = .ok (.bipush 7, 2) := by decide +kernel
theorem dX1_step_9 : decode cX1_step 9 = .ok (.iand, 1) := by decide +kernel
theorem dX1_step_10 : decode cX1_step 10 = .ok (.imul, 1) := by decide +kernel
theorem dX1_step_11 : decode cX1_step 11 = .ok (.iload_n 2, 1) := by decide +kernel
theorem dX1_step_12 : decode cX1_step 12 = .ok (.bipush 7, 2) := by decide +kernel
theorem dX1_step_14 : decode cX1_step 14 = .ok (.iand, 1) := by decide +kernel
theorem dX1_step_15 : decode cX1_step 15 = .ok (.iadd, 1) := by decide +kernel
theorem dX1_step_16 : decode cX1_step 16 = .ok (.iaload, 1) := by decide +kernel
theorem dX1_step_17 : decode cX1_step 17 = .ok (.ireturn, 1) := by decide +kernel
theorem dX1_addStep_0 : decode cX1_addStep 0 = .ok (.aload_n 0, 1) := by decide +kernel
theorem dX1_addStep_1 : decode cX1_addStep 1 = .ok (.getfield 34, 3) := by decide +kernel
theorem dX1_addStep_4 : decode cX1_addStep 4 = .ok (.bipush 28, 2) := by decide +kernel
theorem dX1_addStep_6 : decode cX1_addStep 6 = .ok (.if_icmp .ge 72, 3) := by decide +kernel
theorem dX1_addStep_9 : decode cX1_addStep 9 = .ok (.aload_n 0, 1) := by decide +kernel
theorem dX1_addStep_10 : decode cX1_addStep 10 = .ok (.getfield 22, 3) := by decide +kernel
theorem dX1_addStep_13 : decode cX1_addStep 13 = .ok (.iload_n 1, 1) := by decide +kernel
theorem dX1_addStep_14 : decode cX1_addStep 14 = .ok (.dup2, 1) := by decide +kernel
theorem dX1_addStep_15 : decode cX1_addStep 15 = .ok (.iaload, 1) := by decide +kernel
theorem dX1_addStep_16 : decode cX1_addStep 16 = .ok (.iconst 1, 1) := by decide +kernel
theorem dX1_addStep_17 : decode cX1_addStep 17 = .ok (.iload_n 2, 1) := by decide +kernel
theorem dX1_addStep_18 : decode cX1_addStep 18 = .ok (.ishl, 1) := by decide +kernel
theorem dX1_addStep_19 : decode cX1_addStep 19 = .ok (.ior, 1) := by decide +kernel
theorem dX1_addStep_20 : decode cX1_addStep 20 = .ok (.iastore, 1) := by decide +kernel
theorem dX1_addStep_21 : decode cX1_addStep 21 = .ok (.aload_n 0, 1) := by decide +kernel
theorem dX1_addStep_22 : decode cX1_addStep 22 = .ok (.getfield 15, 3) := by decide +kernel
theorem dX1_addStep_25 : decode cX1_addStep 25 = .ok (.bipush 8, 2) := by decide +kernel
theorem dX1_addStep_27 : decode cX1_addStep 27 = .ok (.iload_n 1, 1) := by decide +kernel
theorem dX1_addStep_28 : decode cX1_addStep 28 = .ok (.imul, 1) := by decide +kernel
theorem dX1_addStep_29 : decode cX1_addStep 29 = .ok (.iload_n 2, 1) := by decide +kernel
theorem dX1_addStep_30 : decode cX1_addStep 30 = .ok (.iadd, 1) := by decide +kernel
theorem dX1_addStep_31 : decode cX1_addStep 31 = .ok (.iload_n 3, 1) := by decide +kernel
theorem dX1_addStep_32 : decode cX1_addStep 32 = .ok (.iastore, 1) := by decide +kernel
theorem dX1_addStep_33 : decode cX1_addStep 33 = .ok (.aload_n 0, 1) := by decide +kernel
theorem dX1_addStep_34 : decode cX1_addStep 34 = .ok (.getfield 19, 3) := by decide +kernel
theorem dX1_addStep_37 : decode cX1_addStep 37 = .ok (.bipush 8, 2) := by decide +kernel
theorem dX1_addStep_39 : decode cX1_addStep 39 = .ok (.iload_n 1, 1) := by decide +kernel
theorem dX1_addStep_40 : decode cX1_addStep 40 = .ok (.imul, 1) := by decide +kernel
theorem dX1_addStep_41 : decode cX1_addStep 41 = .ok (.iload_n 2, 1) := by decide +kernel
theorem dX1_addStep_42 : decode cX1_addStep 42 = .ok (.iadd, 1) := by decide +kernel
theorem dX1_addStep_43 : decode cX1_addStep 43 = .ok (.iload_n 3, 1) := by decide +kernel
theorem dX1_addStep_44 : decode cX1_addStep 44 = .ok (.invokestatic 73, 3) := by decide +kernel
theorem dX1_addStep_47 : decode cX1_addStep 47 = .ok (.iastore, 1) := by decide +kernel
theorem dX1_addStep_48 : decode cX1_addStep 48 = .ok (.aload_n 0, 1) := by decide +kernel
theorem dX1_addStep_49 : decode cX1_addStep 49 = .ok (.getfield 28, 3) := by decide +kernel
theorem dX1_addStep_52 : decode cX1_addStep 52 = .ok (.aload_n 0, 1) := by decide +kernel
theorem dX1_addStep_53 : decode cX1_addStep 53 = .ok (.getfield 34, 3) := by decide +kernel
theorem dX1_addStep_56 : decode cX1_addStep 56 = .ok (.iload_n 3, 1) := by decide +kernel
theorem dX1_addStep_57 : decode cX1_addStep 57 = .ok (.iastore, 1) := by decide +kernel
theorem dX1_addStep_58 : decode cX1_addStep 58 = .ok (.aload_n 0, 1) := by decide +kernel
theorem dX1_addStep_59 : decode cX1_addStep 59 = .ok (.getfield 31, 3) := by decide +kernel
theorem dX1_addStep_62 : decode cX1_addStep 62 = .ok (.aload_n 0, 1) := by decide +kernel
theorem dX1_addStep_63 : decode cX1_addStep 63 = .ok (.getfield 34, 3) := by decide +kernel
theorem dX1_addStep_66 : decode cX1_addStep 66 = .ok (.iload_n 1, 1) := by decide +kernel
theorem dX1_addStep_67 : decode cX1_addStep 67 = .ok (.iastore, 1) := by decide +kernel
theorem dX1_addStep_68 : decode cX1_addStep 68 = .ok (.aload_n 0, 1) := by decide +kernel
theorem dX1_addStep_69 : decode cX1_addStep 69 = .ok (.dup, 1) := by decide +kernel
theorem dX1_addStep_70 : decode cX1_addStep 70 = .ok (.getfield 34, 3) := by decide +kernel
theorem dX1_addStep_73 : decode cX1_addStep 73 = .ok (.iconst 1, 1) := by decide +kernel
theorem dX1_addStep_74 : decode cX1_addStep 74 = .ok (.iadd, 1) := by decide +kernel
theorem dX1_addStep_75 : decode cX1_addStep 75 = .ok (.putfield 34, 3) := by decide +kernel
theorem dX1_addStep_78 : decode cX1_addStep 78 = .ok (.return_, 1) := by decide +kernel
theorem dX1_take_0 : decode cX1_take 0 = .ok (.iload_n 1, 1) := by decide +kernel
theorem dX1_take_1 : decode cX1_take 1 = .ok (.istore_n 2, 1) := by decide +kernel
theorem dX1_take_2 : decode cX1_take 2 = .ok (.iconst 0, 1) := by decide +kernel
theorem dX1_take_3 : decode cX1_take 3 = .ok (.istore_n 3, 1) := by decide +kernel
theorem dX1_take_4 : decode cX1_take 4 = .ok (.iload_n 3, 1) := by decide +kernel
theorem dX1_take_5 : decode cX1_take 5 = .ok (.bipush 8, 2) := by decide +kernel
theorem dX1_take_7 : decode cX1_take 7 = .ok (.if_icmp .ge 68, 3) := by decide +kernel
theorem dX1_take_10 : decode cX1_take 10 = .ok (.iload_n 2, 1) := by decide +kernel
theorem dX1_take_11 : decode cX1_take 11 = .ok (.ldc 42, 2) := by decide +kernel
theorem dX1_take_13 : decode cX1_take 13 = .ok (.if_icmp .eq 62, 3) := by decide +kernel
theorem dX1_take_16 : decode cX1_take 16 = .ok (.iload_n 2, 1) := by decide +kernel
theorem dX1_take_17 : decode cX1_take 17 = .ok (.iload_n 3, 1) := by decide +kernel
theorem dX1_take_18 : decode cX1_take 18 = .ok (.invokestatic 62, 3) := by decide +kernel
theorem dX1_take_21 : decode cX1_take 21 = .ok (.istore 4, 2) := by decide +kernel
theorem dX1_take_23 : decode cX1_take 23 = .ok (.aload_n 0, 1) := by decide +kernel
theorem dX1_take_24 : decode cX1_take 24 = .ok (.getfield 22, 3) := by decide +kernel
theorem dX1_take_27 : decode cX1_take 27 = .ok (.iload_n 3, 1) := by decide +kernel
theorem dX1_take_28 : decode cX1_take 28 = .ok (.iaload, 1) := by decide +kernel
theorem dX1_take_29 : decode cX1_take 29 = .ok (.iload 4, 2) := by decide +kernel
theorem dX1_take_31 : decode cX1_take 31 = .ok (.ishr, 1) := by decide +kernel
theorem dX1_take_32 : decode cX1_take 32 = .ok (.iconst 1, 1) := by decide +kernel
theorem dX1_take_33 : decode cX1_take 33 = .ok (.iand, 1) := by decide +kernel
theorem dX1_take_34 : decode cX1_take 34 = .ok (.ifCond .ne 12, 3) := by decide +kernel
theorem dX1_take_37 : decode cX1_take 37 = .ok (.aload_n 0, 1) := by decide +kernel
theorem dX1_take_38 : decode cX1_take 38 = .ok (.iload_n 3, 1) := by decide +kernel
theorem dX1_take_39 : decode cX1_take 39 = .ok (.iload 4, 2) := by decide +kernel
theorem dX1_take_41 : decode cX1_take 41 = .ok (.iload_n 2, 1) := by decide +kernel
theorem dX1_take_42 : decode cX1_take 42 = .ok (.invokevirtual 66, 3) := by decide +kernel
theorem dX1_take_45 : decode cX1_take 45 = .ok (.return_, 1) := by decide +kernel
theorem dX1_take_46 : decode cX1_take 46 = .ok (.iload 4, 2) := by decide +kernel
theorem dX1_take_48 : decode cX1_take 48 = .ok (.iload_n 3, 1) := by decide +kernel
theorem dX1_take_49 : decode cX1_take 49 = .ok (.if_icmp .eq 20, 3) := by decide +kernel
theorem dX1_take_52 : decode cX1_take 52 = .ok (.iload_n 2, 1) := by decide +kernel
theorem dX1_take_53 : decode cX1_take 53 = .ok (.aload_n 0, 1) := by decide +kernel
theorem dX1_take_54 : decode cX1_take 54 = .ok (.getfield 19, 3) := by decide +kernel
theorem dX1_take_57 : decode cX1_take 57 = .ok (.bipush 8, 2) := by decide +kernel
theorem dX1_take_59 : decode cX1_take 59 = .ok (.iload_n 3, 1) := by decide +kernel
theorem dX1_take_60 : decode cX1_take 60 = .ok (.imul, 1) := by decide +kernel
theorem dX1_take_61 : decode cX1_take 61 = .ok (.iload 4, 2) := by decide +kernel
theorem dX1_take_63 : decode cX1_take 63 = .ok (.iadd, 1) := by decide +kernel
theorem dX1_take_64 : decode cX1_take 64 = .ok (.iaload, 1) := by decide +kernel
theorem dX1_take_65 : decode cX1_take 65 = .ok (.invokestatic 70, 3) := by decide +kernel
theorem dX1_take_68 : decode cX1_take 68 = .ok (.istore_n 2, 1) := by decide +kernel
theorem dX1_take_69 : decode cX1_take 69 = .ok (.iinc 3 1, 3) := by decide +kernel
theorem dX1_take_72 : decode cX1_take 72 = .ok (.goto (-68), 3) := by decide +kernel
theorem dX1_take_75 : decode cX1_take 75 = .ok (.return_, 1) := by decide +kernel
theorem dX1_closeSteps_0 : decode cX1_closeSteps 0 = .ok (.iconst 0, 1) := by decide +kernel
theorem dX1_closeSteps_1 : decode cX1_closeSteps 1 = .ok (.istore_n 1, 1) := by decide +kernel
theorem dX1_closeSteps_2 : decode cX1_closeSteps 2 = .ok (.iload_n 1, 1) := by decide +kernel
theorem dX1_closeSteps_3 : decode cX1_closeSteps 3 = .ok (.aload_n 0, 1) := by decide +kernel
theorem dX1_closeSteps_4 : decode cX1_closeSteps 4 = .ok (.getfield 34, 3) := by decide +kernel
theorem dX1_closeSteps_7 : decode cX1_closeSteps 7 = .ok (.if_icmp .ge 96, 3) := by decide +kernel
theorem dX1_closeSteps_10 : decode cX1_closeSteps 10 = .ok (.iload_n 1, 1) := by decide +kernel
theorem dX1_closeSteps_11 : decode cX1_closeSteps 11 = .ok (.bipush 28, 2) := by decide +kernel
theorem dX1_closeSteps_13 : decode cX1_closeSteps 13 = .ok (.if_icmp .ge 90, 3) := by decide +kernel
theorem dX1_closeSteps_16 : decode cX1_closeSteps 16 = .ok (.iconst 0, 1) := by decide +kernel
theorem dX1_closeSteps_17 : decode cX1_closeSteps 17 = .ok (.istore_n 2, 1) := by decide +kernel
theorem dX1_closeSteps_18 : decode cX1_closeSteps 18 = .ok (.iload_n 2, 1) := by decide +kernel
theorem dX1_closeSteps_19 : decode cX1_closeSteps 19 = .ok (.iload_n 1, 1) := by decide +kernel
theorem dX1_closeSteps_20 : decode cX1_closeSteps 20 = .ok (.if_icmp .gt 77, 3) := by decide +kernel
theorem dX1_closeSteps_23 : decode cX1_closeSteps 23 = .ok (.aload_n 0, 1) := by decide +kernel
theorem dX1_closeSteps_24 : decode cX1_closeSteps 24 = .ok (.getfield 31, 3) := by decide +kernel
theorem dX1_closeSteps_27 : decode cX1_closeSteps 27 = .ok (.iload_n 2, 1) := by decide +kernel
theorem dX1_closeSteps_28 : decode cX1_closeSteps 28 = .ok (.iaload, 1) := by decide +kernel
theorem dX1_closeSteps_29 : decode cX1_closeSteps 29 = .ok (.aload_n 0, 1) := by decide +kernel
theorem dX1_closeSteps_30 : decode cX1_closeSteps 30 = .ok (.getfield 31, 3) := by decide +kernel
theorem dX1_closeSteps_33 : decode cX1_closeSteps 33 = .ok (.iload_n 1, 1) := by decide +kernel
theorem dX1_closeSteps_34 : decode cX1_closeSteps 34 = .ok (.iaload, 1) := by decide +kernel
theorem dX1_closeSteps_35 : decode cX1_closeSteps 35 = .ok (.if_icmp .gt 22, 3) := by decide +kernel
theorem dX1_closeSteps_38 : decode cX1_closeSteps 38 = .ok (.aload_n 0, 1) := by decide +kernel
theorem dX1_closeSteps_39 : decode cX1_closeSteps 39 = .ok (.aload_n 0, 1) := by decide +kernel
theorem dX1_closeSteps_40 : decode cX1_closeSteps 40 = .ok (.getfield 28, 3) := by decide +kernel
theorem dX1_closeSteps_43 : decode cX1_closeSteps 43 = .ok (.iload_n 2, 1) := by decide +kernel
theorem dX1_closeSteps_44 : decode cX1_closeSteps 44 = .ok (.iaload, 1) := by decide +kernel
theorem dX1_closeSteps_45 : decode cX1_closeSteps 45 = .ok (.aload_n 0, 1) := by decide +kernel
theorem dX1_closeSteps_46 : decode cX1_closeSteps 46 = .ok (.getfield 28, 3) := by decide +kernel
theorem dX1_closeSteps_49 : decode cX1_closeSteps 49 = .ok (.iload_n 1, 1) := by decide +kernel
theorem dX1_closeSteps_50 : decode cX1_closeSteps 50 = .ok (.iaload, 1) := by decide +kernel
theorem dX1_closeSteps_51 : decode cX1_closeSteps 51 = .ok (.invokestatic 70, 3) := by decide +kernel
theorem dX1_closeSteps_54 : decode cX1_closeSteps 54 = .ok (.invokevirtual 50, 3) := by decide +kernel
theorem dX1_closeSteps_57 : decode cX1_closeSteps 57 = .ok (.aload_n 0, 1) := by decide +kernel
theorem dX1_closeSteps_58 : decode cX1_closeSteps 58 = .ok (.getfield 31, 3) := by decide +kernel
theorem dX1_closeSteps_61 : decode cX1_closeSteps 61 = .ok (.iload_n 1, 1) := by decide +kernel
theorem dX1_closeSteps_62 : decode cX1_closeSteps 62 = .ok (.iaload, 1) := by decide +kernel
theorem dX1_closeSteps_63 : decode cX1_closeSteps 63 = .ok (.aload_n 0, 1) := by decide +kernel
theorem dX1_closeSteps_64 : decode cX1_closeSteps 64 = .ok (.getfield 31, 3) := by decide +kernel
theorem dX1_closeSteps_67 : decode cX1_closeSteps 67 = .ok (.iload_n 2, 1) := by decide +kernel
theorem dX1_closeSteps_68 : decode cX1_closeSteps 68 = .ok (.iaload, 1) := by decide +kernel
theorem dX1_closeSteps_69 : decode cX1_closeSteps 69 = .ok (.if_icmp .gt 22, 3) := by decide +kernel
theorem dX1_closeSteps_72 : decode cX1_closeSteps 72 = .ok (.aload_n 0, 1) := by decide +kernel
theorem dX1_closeSteps_73 : decode cX1_closeSteps 73 = .ok (.aload_n 0, 1) := by decide +kernel
theorem dX1_closeSteps_74 : decode cX1_closeSteps 74 = .ok (.getfield 28, 3) := by decide +kernel
theorem dX1_closeSteps_77 : decode cX1_closeSteps 77 = .ok (.iload_n 1, 1) := by decide +kernel
theorem dX1_closeSteps_78 : decode cX1_closeSteps 78 = .ok (.iaload, 1) := by decide +kernel
theorem dX1_closeSteps_79 : decode cX1_closeSteps 79 = .ok (.aload_n 0, 1) := by decide +kernel
theorem dX1_closeSteps_80 : decode cX1_closeSteps 80 = .ok (.getfield 28, 3) := by decide +kernel
theorem dX1_closeSteps_83 : decode cX1_closeSteps 83 = .ok (.iload_n 2, 1) := by decide +kernel
theorem dX1_closeSteps_84 : decode cX1_closeSteps 84 = .ok (.iaload, 1) := by decide +kernel
theorem dX1_closeSteps_85 : decode cX1_closeSteps 85 = .ok (.invokestatic 70, 3) := by decide +kernel
theorem dX1_closeSteps_88 : decode cX1_closeSteps 88 = .ok (.invokevirtual 50, 3) := by decide +kernel
theorem dX1_closeSteps_91 : decode cX1_closeSteps 91 = .ok (.iinc 2 1, 3) := by decide +kernel
theorem dX1_closeSteps_94 : decode cX1_closeSteps 94 = .ok (.goto (-76), 3) := by decide +kernel
theorem dX1_closeSteps_97 : decode cX1_closeSteps 97 = .ok (.iinc 1 1, 3) := by decide +kernel
theorem dX1_closeSteps_100 : decode cX1_closeSteps 100 = .ok (.goto (-98), 3) := by decide +kernel
theorem dX1_closeSteps_103 : decode cX1_closeSteps 103 = .ok (.return_, 1) := by decide +kernel
theorem dX1_make_0 : decode cX1_make 0 = .ok (.aload_n 0, 1) := by decide +kernel
theorem dX1_make_1 : decode cX1_make 1 = .ok (.aload_n 1, 1) := by decide +kernel
theorem dX1_make_2 : decode cX1_make 2 = .ok (.getfield 37, 3) := by decide +kernel
theorem dX1_make_5 : decode cX1_make 5 = .ok (.putfield 9, 3) := by decide +kernel
theorem dX1_make_8 : decode cX1_make 8 = .ok (.aload_n 0, 1) := by decide +kernel
theorem dX1_make_9 : decode cX1_make 9 = .ok (.iconst 0, 1) := by decide +kernel
theorem dX1_make_10 : decode cX1_make 10 = .ok (.putfield 34, 3) := by decide +kernel
theorem dX1_make_13 : decode cX1_make 13 = .ok (.iconst 0, 1) := by decide +kernel
theorem dX1_make_14 : decode cX1_make 14 = .ok (.istore_n 2, 1) := by decide +kernel
theorem dX1_make_15 : decode cX1_make 15 = .ok (.iload_n 2, 1) := by decide +kernel
theorem dX1_make_16 : decode cX1_make 16 = .ok (.bipush 8, 2) := by decide +kernel
theorem dX1_make_18 : decode cX1_make 18 = .ok (.if_icmp .ge 31, 3) := by decide +kernel
theorem dX1_make_21 : decode cX1_make 21 = .ok (.aload_n 0, 1) := by decide +kernel
theorem dX1_make_22 : decode cX1_make 22 = .ok (.getfield 22, 3) := by decide +kernel
theorem dX1_make_25 : decode cX1_make 25 = .ok (.iload_n 2, 1) := by decide +kernel
theorem dX1_make_26 : decode cX1_make 26 = .ok (.iconst 1, 1) := by decide +kernel
theorem dX1_make_27 : decode cX1_make 27 = .ok (.iload_n 2, 1) := by decide +kernel
theorem dX1_make_28 : decode cX1_make 28 = .ok (.ishl, 1) := by decide +kernel
theorem dX1_make_29 : decode cX1_make 29 = .ok (.iastore, 1) := by decide +kernel
theorem dX1_make_30 : decode cX1_make 30 = .ok (.aload_n 0, 1) := by decide +kernel
theorem dX1_make_31 : decode cX1_make 31 = .ok (.getfield 15, 3) := by decide +kernel
theorem dX1_make_34 : decode cX1_make 34 = .ok (.bipush 8, 2) := by decide +kernel
theorem dX1_make_36 : decode cX1_make 36 = .ok (.iload_n 2, 1) := by decide +kernel
theorem dX1_make_37 : decode cX1_make 37 = .ok (.imul, 1) := by decide +kernel
theorem dX1_make_38 : decode cX1_make 38 = .ok (.iload_n 2, 1) := by decide +kernel
theorem dX1_make_39 : decode cX1_make 39 = .ok (.iadd, 1) := by decide +kernel
theorem dX1_make_40 : decode cX1_make 40 = .ok (.ldc 42, 2) := by decide +kernel
theorem dX1_make_42 : decode cX1_make 42 = .ok (.iastore, 1) := by decide +kernel
theorem dX1_make_43 : decode cX1_make 43 = .ok (.iinc 2 1, 3) := by decide +kernel
theorem dX1_make_46 : decode cX1_make 46 = .ok (.goto (-31), 3) := by decide +kernel
theorem dX1_make_49 : decode cX1_make 49 = .ok (.iconst 0, 1) := by decide +kernel
theorem dX1_make_50 : decode cX1_make 50 = .ok (.istore_n 2, 1) := by decide +kernel
theorem dX1_make_51 : decode cX1_make 51 = .ok (.iload_n 2, 1) := by decide +kernel
theorem dX1_make_52 : decode cX1_make 52 = .ok (.aload_n 1, 1) := by decide +kernel
theorem dX1_make_53 : decode cX1_make 53 = .ok (.getfield 43, 3) := by decide +kernel
theorem dX1_make_56 : decode cX1_make 56 = .ok (.if_icmp .ge 18, 3) := by decide +kernel
theorem dX1_make_59 : decode cX1_make 59 = .ok (.aload_n 0, 1) := by decide +kernel
theorem dX1_make_60 : decode cX1_make 60 = .ok (.aload_n 1, 1) := by decide +kernel
theorem dX1_make_61 : decode cX1_make 61 = .ok (.iload_n 2, 1) := by decide +kernel
theorem dX1_make_62 : decode cX1_make 62 = .ok (.invokevirtual 46, 3) := by decide +kernel
theorem dX1_make_65 : decode cX1_make 65 = .ok (.invokevirtual 50, 3) := by decide +kernel
theorem dX1_make_68 : decode cX1_make 68 = .ok (.iinc 2 1, 3) := by decide +kernel
theorem dX1_make_71 : decode cX1_make 71 = .ok (.goto (-20), 3) := by decide +kernel
theorem dX1_make_74 : decode cX1_make 74 = .ok (.aload_n 0, 1) := by decide +kernel
theorem dX1_make_75 : decode cX1_make 75 = .ok (.invokevirtual 54, 3) := by decide +kernel
theorem dX1_make_78 : decode cX1_make 78 = .ok (.aload_n 0, 1) := by decide +kernel
theorem dX1_make_79 : decode cX1_make 79 = .ok (.getfield 25, 3) := by decide +kernel
theorem dX1_make_82 : decode cX1_make 82 = .ok (.bipush 8, 2) := by decide +kernel
theorem dX1_make_84 : decode cX1_make 84 = .ok (.iconst 1, 1) := by decide +kernel
theorem dX1_make_85 : decode cX1_make 85 = .ok (.iastore, 1) := by decide +kernel
theorem dX1_make_86 : decode cX1_make 86 = .ok (.bipush 7, 2) := by decide +kernel
theorem dX1_make_88 : decode cX1_make 88 = .ok (.istore_n 2, 1) := by decide +kernel
theorem dX1_make_89 : decode cX1_make 89 = .ok (.iload_n 2, 1) := by decide +kernel
theorem dX1_make_90 : decode cX1_make 90 = .ok (.ifCond .lt 33, 3) := by decide +kernel
theorem dX1_make_93 : decode cX1_make 93 = .ok (.aload_n 0, 1) := by decide +kernel
theorem dX1_make_94 : decode cX1_make 94 = .ok (.getfield 25, 3) := by decide +kernel
theorem dX1_make_97 : decode cX1_make 97 = .ok (.iload_n 2, 1) := by decide +kernel
theorem dX1_make_98 : decode cX1_make 98 = .ok (.aload_n 0, 1) := by decide +kernel
theorem dX1_make_99 : decode cX1_make 99 = .ok (.getfield 25, 3) := by decide +kernel
theorem dX1_make_102 : decode cX1_make 102 = .ok (.iload_n 2, 1) := by decide +kernel
theorem dX1_make_103 : decode cX1_make 103 = .ok (.iconst 1, 1) := by decide +kernel
theorem dX1_make_104 : decode cX1_make 104 = .ok (.iadd, 1) := by decide +kernel
theorem dX1_make_105 : decode cX1_make 105 = .ok (.iaload, 1) := by decide +kernel
theorem dX1_make_106 : decode cX1_make 106 = .ok (.aload_n 0, 1) := by decide +kernel
theorem dX1_make_107 : decode cX1_make 107 = .ok (.getfield 22, 3) := by decide +kernel
theorem dX1_make_110 : decode cX1_make 110 = .ok (.iload_n 2, 1) := by decide +kernel
theorem dX1_make_111 : decode cX1_make 111 = .ok (.iaload, 1) := by decide +kernel
theorem dX1_make_112 : decode cX1_make 112 = .ok (.invokestatic 57, 3) := by decide +kernel
theorem dX1_make_115 : decode cX1_make 115 = .ok (.imul, 1) := by decide +kernel
theorem dX1_make_116 : decode cX1_make 116 = .ok (.iastore, 1) := by decide +kernel
theorem dX1_make_117 : decode cX1_make 117 = .ok (.iinc 2 (-1), 3) := by decide +kernel
theorem dX1_make_120 : decode cX1_make 120 = .ok (.goto (-31), 3) := by decide +kernel
theorem dX1_make_123 : decode cX1_make 123 = .ok (.return_, 1) := by decide +kernel
theorem dX1_choices_0 : decode cX1_choices 0 = .ok (.aload_n 0, 1) := by decide +kernel
theorem dX1_choices_1 : decode cX1_choices 1 = .ok (.iload_n 2, 1) := by decide +kernel
theorem dX1_choices_2 : decode cX1_choices 2 = .ok (.invokevirtual 76, 3) := by decide +kernel
theorem dX1_choices_5 : decode cX1_choices 5 = .ok (.iload_n 1, 1) := by decide +kernel
theorem dX1_choices_6 : decode cX1_choices 6 = .ok (.invokestatic 79, 3) := by decide +kernel
theorem dX1_choices_9 : decode cX1_choices 9 = .ok (.ireturn, 1) := by decide +kernel
theorem dX1_goOn_0 : decode cX1_goOn 0 = .ok (.aload_n 0, 1) := by decide +kernel
theorem dX1_goOn_1 : decode cX1_goOn 1 = .ok (.iload_n 2, 1) := by decide +kernel
theorem dX1_goOn_2 : decode cX1_goOn 2 = .ok (.iload_n 1, 1) := by decide +kernel
theorem dX1_goOn_3 : decode cX1_goOn 3 = .ok (.invokestatic 73, 3) := by decide +kernel
theorem dX1_goOn_6 : decode cX1_goOn 6 = .ok (.iload_n 3, 1) := by decide +kernel
theorem dX1_goOn_7 : decode cX1_goOn 7 = .ok (.invokestatic 62, 3) := by decide +kernel
theorem dX1_goOn_10 : decode cX1_goOn 10 = .ok (.invokevirtual 82, 3) := by decide +kernel
theorem dX1_goOn_13 : decode cX1_goOn 13 = .ok (.iload_n 1, 1) := by decide +kernel
theorem dX1_goOn_14 : decode cX1_goOn 14 = .ok (.invokestatic 70, 3) := by decide +kernel
theorem dX1_goOn_17 : decode cX1_goOn 17 = .ok (.ireturn, 1) := by decide +kernel
theorem dX1_rank_0 : decode cX1_rank 0 = .ok (.ldc 42, 2) := by decide +kernel
theorem dX1_rank_2 : decode cX1_rank 2 = .ok (.istore_n 2, 1) := by decide +kernel
theorem dX1_rank_3 : decode cX1_rank 3 = .ok (.iconst 0, 1) := by decide +kernel
theorem dX1_rank_4 : decode cX1_rank 4 = .ok (.istore_n 3, 1) := by decide +kernel
theorem dX1_rank_5 : decode cX1_rank 5 = .ok (.iconst 0, 1) := by decide +kernel
theorem dX1_rank_6 : decode cX1_rank 6 = .ok (.istore 4, 2) := by decide +kernel
theorem dX1_rank_8 : decode cX1_rank 8 = .ok (.iload 4, 2) := by decide +kernel
theorem dX1_rank_10 : decode cX1_rank 10 = .ok (.aload_n 0, 1) := by decide +kernel
theorem dX1_rank_11 : decode cX1_rank 11 = .ok (.getfield 9, 3) := by decide +kernel
theorem dX1_rank_14 : decode cX1_rank 14 = .ok (.if_icmp .ge 80, 3) := by decide +kernel
theorem dX1_rank_17 : decode cX1_rank 17 = .ok (.iload 4, 2) := by decide +kernel
theorem dX1_rank_19 : decode cX1_rank 19 = .ok (.bipush 8, 2) := by decide +kernel
theorem dX1_rank_21 : decode cX1_rank 21 = .ok (.if_icmp .ge 73, 3) := by decide +kernel
theorem dX1_rank_24 : decode cX1_rank 24 = .ok (.iload_n 1, 1) := by decide +kernel
theorem dX1_rank_25 : decode cX1_rank 25 = .ok (.iload 4, 2) := by decide +kernel
theorem dX1_rank_27 : decode cX1_rank 27 = .ok (.invokestatic 62, 3) := by decide +kernel
theorem dX1_rank_30 : decode cX1_rank 30 = .ok (.istore 5, 2) := by decide +kernel
theorem dX1_rank_32 : decode cX1_rank 32 = .ok (.aload_n 0, 1) := by decide +kernel
theorem dX1_rank_33 : decode cX1_rank 33 = .ok (.iload_n 2, 1) := by decide +kernel
theorem dX1_rank_34 : decode cX1_rank 34 = .ok (.iload 4, 2) := by decide +kernel
theorem dX1_rank_36 : decode cX1_rank 36 = .ok (.invokevirtual 85, 3) := by decide +kernel
theorem dX1_rank_39 : decode cX1_rank 39 = .ok (.istore 6, 2) := by decide +kernel
theorem dX1_rank_41 : decode cX1_rank 41 = .ok (.iload 6, 2) := by decide +kernel
theorem dX1_rank_43 : decode cX1_rank 43 = .ok (.iload 5, 2) := by decide +kernel
theorem dX1_rank_45 : decode cX1_rank 45 = .ok (.ishr, 1) := by decide +kernel
theorem dX1_rank_46 : decode cX1_rank 46 = .ok (.iconst 1, 1) := by decide +kernel
theorem dX1_rank_47 : decode cX1_rank 47 = .ok (.iand, 1) := by decide +kernel
theorem dX1_rank_48 : decode cX1_rank 48 = .ok (.ifCond .ne 5, 3) := by decide +kernel
theorem dX1_rank_51 : decode cX1_rank 51 = .ok (.iconst (-1), 1) := by decide +kernel
theorem dX1_rank_52 : decode cX1_rank 52 = .ok (.ireturn, 1) := by decide +kernel
theorem dX1_rank_53 : decode cX1_rank 53 = .ok (.iload_n 3, 1) := by decide +kernel
theorem dX1_rank_54 : decode cX1_rank 54 = .ok (.iload 6, 2) := by decide +kernel
theorem dX1_rank_56 : decode cX1_rank 56 = .ok (.iconst 1, 1) := by decide +kernel
theorem dX1_rank_57 : decode cX1_rank 57 = .ok (.iload 5, 2) := by decide +kernel
theorem dX1_rank_59 : decode cX1_rank 59 = .ok (.ishl, 1) := by decide +kernel
theorem dX1_rank_60 : decode cX1_rank 60 = .ok (.iconst 1, 1) := by decide +kernel
theorem dX1_rank_61 : decode cX1_rank 61 = .ok (.isub, 1) := by decide +kernel
theorem dX1_rank_62 : decode cX1_rank 62 = .ok (.iand, 1) := by decide +kernel
theorem dX1_rank_63 : decode cX1_rank 63 = .ok (.invokestatic 57, 3) := by decide +kernel
theorem dX1_rank_66 : decode cX1_rank 66 = .ok (.aload_n 0, 1) := by decide +kernel
theorem dX1_rank_67 : decode cX1_rank 67 = .ok (.getfield 25, 3) := by decide +kernel
theorem dX1_rank_70 : decode cX1_rank 70 = .ok (.iload 4, 2) := by decide +kernel
theorem dX1_rank_72 : decode cX1_rank 72 = .ok (.iconst 1, 1) := by decide +kernel
theorem dX1_rank_73 : decode cX1_rank 73 = .ok (.iadd, 1) := by decide +kernel
theorem dX1_rank_74 : decode cX1_rank 74 = .ok (.iaload, 1) := by decide +kernel
theorem dX1_rank_75 : decode cX1_rank 75 = .ok (.imul, 1) := by decide +kernel
theorem dX1_rank_76 : decode cX1_rank 76 = .ok (.iadd, 1) := by decide +kernel
theorem dX1_rank_77 : decode cX1_rank 77 = .ok (.istore_n 3, 1) := by decide +kernel
theorem dX1_rank_78 : decode cX1_rank 78 = .ok (.aload_n 0, 1) := by decide +kernel
theorem dX1_rank_79 : decode cX1_rank 79 = .ok (.iload_n 2, 1) := by decide +kernel
theorem dX1_rank_80 : decode cX1_rank 80 = .ok (.iload 4, 2) := by decide +kernel
theorem dX1_rank_82 : decode cX1_rank 82 = .ok (.iload 5, 2) := by decide +kernel
theorem dX1_rank_84 : decode cX1_rank 84 = .ok (.invokevirtual 88, 3) := by decide +kernel
theorem dX1_rank_87 : decode cX1_rank 87 = .ok (.istore_n 2, 1) := by decide +kernel
theorem dX1_rank_88 : decode cX1_rank 88 = .ok (.iinc 4 1, 3) := by decide +kernel
theorem dX1_rank_91 : decode cX1_rank 91 = .ok (.goto (-83), 3) := by decide +kernel
theorem dX1_rank_94 : decode cX1_rank 94 = .ok (.iload_n 3, 1) := by decide +kernel
theorem dX1_rank_95 : decode cX1_rank 95 = .ok (.ireturn, 1) := by decide +kernel
theorem dX1_withRank_0 : decode cX1_withRank 0 = .ok (.ldc 42, 2) := by decide +kernel
theorem dX1_withRank_2 : decode cX1_withRank 2 = .ok (.istore_n 2, 1) := by decide +kernel
theorem dX1_withRank_3 : decode cX1_withRank 3 = .ok (.iload_n 1, 1) := by decide +kernel
theorem dX1_withRank_4 : decode cX1_withRank 4 = .ok (.istore_n 3, 1) := by decide +kernel
theorem dX1_withRank_5 : decode cX1_withRank 5 = .ok (.iconst 0, 1) := by decide +kernel
theorem dX1_withRank_6 : decode cX1_withRank 6 = .ok (.istore 4, 2) := by decide +kernel
theorem dX1_withRank_8 : decode cX1_withRank 8 = .ok (.iload 4, 2) := by decide +kernel
theorem dX1_withRank_10 : decode cX1_withRank 10 = .ok (.aload_n 0, 1) := by decide +kernel
theorem dX1_withRank_11 : decode cX1_withRank 11 = .ok (.getfield 9, 3) := by decide +kernel
theorem dX1_withRank_14 : decode cX1_withRank 14 = .ok (.if_icmp .ge 94, 3) := by decide +kernel
theorem dX1_withRank_17 : decode cX1_withRank 17 = .ok (.iload 4, 2) := by decide +kernel
theorem dX1_withRank_19 : decode cX1_withRank 19 = .ok (.bipush 8, 2) := by decide +kernel
theorem dX1_withRank_21 : decode cX1_withRank 21 = .ok (.if_icmp .ge 87, 3) := by decide +kernel
theorem dX1_withRank_24 : decode cX1_withRank 24 = .ok (.aload_n 0, 1) := by decide +kernel
theorem dX1_withRank_25 : decode cX1_withRank 25 = .ok (.iload_n 2, 1) := by decide +kernel
theorem dX1_withRank_26 : decode cX1_withRank 26 = .ok (.iload 4, 2) := by decide +kernel
theorem dX1_withRank_28 : decode cX1_withRank 28 = .ok (.invokevirtual 85, 3) := by decide +kernel
theorem dX1_withRank_31 : decode cX1_withRank 31 = .ok (.istore 5, 2) := by decide +kernel
theorem dX1_withRank_33 : decode cX1_withRank 33 = .ok (.iconst 0, 1) := by decide +kernel
theorem dX1_withRank_34 : decode cX1_withRank 34 = .ok (.istore 6, 2) := by decide +kernel
theorem dX1_withRank_36 : decode cX1_withRank 36 = .ok (.iload 6, 2) := by decide +kernel
theorem dX1_withRank_38 : decode cX1_withRank 38 = .ok (.bipush 7, 2) := by decide +kernel
theorem dX1_withRank_40 : decode cX1_withRank 40 = .ok (.if_icmp .ge 52, 3) := by decide +kernel
theorem dX1_withRank_43 : decode cX1_withRank 43 = .ok (.iload 5, 2) := by decide +kernel
theorem dX1_withRank_45 : decode cX1_withRank 45 = .ok (.iload 6, 2) := by decide +kernel
theorem dX1_withRank_47 : decode cX1_withRank 47 = .ok (.ishr, 1) := by decide +kernel
theorem dX1_withRank_48 : decode cX1_withRank 48 = .ok (.iconst 1, 1) := by decide +kernel
theorem dX1_withRank_49 : decode cX1_withRank 49 = .ok (.iand, 1) := by decide +kernel
theorem dX1_withRank_50 : decode cX1_withRank 50 = .ok (.ifCond .eq 16, 3) := by decide +kernel
theorem dX1_withRank_53 : decode cX1_withRank 53 = .ok (.iload_n 3, 1) := by decide +kernel
theorem dX1_withRank_54 : decode cX1_withRank 54 = .ok (.aload_n 0, 1) := by decide +kernel
theorem dX1_withRank_55 : decode cX1_withRank 55 = .ok (.getfield 25, 3) := by decide +kernel
theorem dX1_withRank_58 : decode cX1_withRank 58 = .ok (.iload 4, 2) := by decide +kernel
theorem dX1_withRank_60 : decode cX1_withRank 60 = .ok (.iconst 1, 1) := by decide +kernel
theorem dX1_withRank_61 : decode cX1_withRank 61 = .ok (.iadd, 1) := by decide +kernel
theorem dX1_withRank_62 : decode cX1_withRank 62 = .ok (.iaload, 1) := by decide +kernel
theorem dX1_withRank_63 : decode cX1_withRank 63 = .ok (.if_icmp .lt 29, 3) := by decide +kernel
theorem dX1_withRank_66 : decode cX1_withRank 66 = .ok (.iload_n 3, 1) := by decide +kernel
theorem dX1_withRank_67 : decode cX1_withRank 67 = .ok (.iload 5, 2) := by decide +kernel
theorem dX1_withRank_69 : decode cX1_withRank 69 = .ok (.iload 6, 2) := by decide +kernel
theorem dX1_withRank_71 : decode cX1_withRank 71 = .ok (.ishr, 1) := by decide +kernel
theorem dX1_withRank_72 : decode cX1_withRank 72 = .ok (.iconst 1, 1) := by decide +kernel
theorem dX1_withRank_73 : decode cX1_withRank 73 = .ok (.iand, 1) := by decide +kernel
theorem dX1_withRank_74 : decode cX1_withRank 74 = .ok (.aload_n 0, 1) := by decide +kernel
theorem dX1_withRank_75 : decode cX1_withRank 75 = .ok (.getfield 25, 3) := by decide +kernel
theorem dX1_withRank_78 : decode cX1_withRank 78 = .ok (.iload 4, 2) := by decide +kernel
theorem dX1_withRank_80 : decode cX1_withRank 80 = .ok (.iconst 1, 1) := by decide +kernel
theorem dX1_withRank_81 : decode cX1_withRank 81 = .ok (.iadd, 1) := by decide +kernel
theorem dX1_withRank_82 : decode cX1_withRank 82 = .ok (.iaload, 1) := by decide +kernel
theorem dX1_withRank_83 : decode cX1_withRank 83 = .ok (.imul, 1) := by decide +kernel
theorem dX1_withRank_84 : decode cX1_withRank 84 = .ok (.isub, 1) := by decide +kernel
theorem dX1_withRank_85 : decode cX1_withRank 85 = .ok (.istore_n 3, 1) := by decide +kernel
theorem dX1_withRank_86 : decode cX1_withRank 86 = .ok (.iinc 6 1, 3) := by decide +kernel
theorem dX1_withRank_89 : decode cX1_withRank 89 = .ok (.goto (-53), 3) := by decide +kernel
theorem dX1_withRank_92 : decode cX1_withRank 92 = .ok (.aload_n 0, 1) := by decide +kernel
theorem dX1_withRank_93 : decode cX1_withRank 93 = .ok (.iload_n 2, 1) := by decide +kernel
theorem dX1_withRank_94 : decode cX1_withRank 94 = .ok (.iload 4, 2) := by decide +kernel
theorem dX1_withRank_96 : decode cX1_withRank 96 = .ok (.iload 6, 2) := by decide +kernel
theorem dX1_withRank_98 : decode cX1_withRank 98 = .ok (.invokevirtual 88, 3) := by decide +kernel
theorem dX1_withRank_101 : decode cX1_withRank 101 = .ok (.istore_n 2, 1) := by decide +kernel
theorem dX1_withRank_102 : decode cX1_withRank 102 = .ok (.iinc 4 1, 3) := by decide +kernel
theorem dX1_withRank_105 : decode cX1_withRank 105 = .ok (.goto (-97), 3) := by decide +kernel
theorem dX1_withRank_108 : decode cX1_withRank 108 = .ok (.iload_n 2, 1) := by decide +kernel
theorem dX1_withRank_109 : decode cX1_withRank 109 = .ok (.ireturn, 1) := by decide +kernel
theorem gc_X1_73 : GoodIn xtb (va_wsS RX1 73 yX2_inverse (xW yX2_inverse cX2_inverse 3 (some .int))) := x_goodS lkM_X1_73 wT_X2_inverse wN_X2 wC_X2_inverse
theorem gc_X1_62 : GoodIn xtb (va_wsS RX1 62 yX2_at (xW yX2_at cX2_at 2 (some .int))) := x_goodS lkM_X1_62 wT_X2_at wN_X2 wC_X2_at
theorem gc_X1_66 : GoodIn xtb (wsV RX1 66 yX1_addStep.cls yX1_addStep (xW yX1_addStep cX1_addStep 4 none)) := x_good lkM_X1_66 wI_X1_addStep wS_X1_addStep wN_X1 wC_X1_addStep
theorem gc_X1_70 : GoodIn xtb (va_wsS RX1 70 yX2_then (xW yX2_then cX2_then 4 (some .int))) := x_goodS lkM_X1_70 wT_X2_then wN_X2 wC_X2_then
theorem gc_X1_50 : GoodIn xtb (wsV RX1 50 yX1_take.cls yX1_take (xW yX1_take cX1_take 5 none)) := x_good lkM_X1_50 wI_X1_take wS_X1_take wN_X1 wC_X1_take
theorem gc_X1_46 : GoodIn xtb (wsV RX1 46 yX4_generator.cls yX4_generator (xW yX4_generator cX4_generator 2 (some .int))) := x_good lkM_X1_46 wI_X4_generator wS_X4_generator wN_X4 wC_X4_generator
theorem gc_X1_54 : GoodIn xtb (wsV RX1 54 yX1_closeSteps.cls yX1_closeSteps (xW yX1_closeSteps cX1_closeSteps 3 none)) := x_good lkM_X1_54 wI_X1_closeSteps wS_X1_closeSteps wN_X1 wC_X1_closeSteps
theorem gc_X1_57 : GoodIn xtb (va_wsS RX1 57 yJ6_bitCount_0f7a4 (xW yJ6_bitCount_0f7a4 cJ6_bitCount_0f7a4 1 (some .int))) := x_goodS lkM_X1_57 wT_J6_bitCount_0f7a4 wN_J6 wC_J6_bitCount_0f7a4
theorem gc_X1_76 : GoodIn xtb (wsV RX1 76 yX1_chain.cls yX1_chain (xW yX1_chain cX1_chain 2 (some .int))) := x_good lkM_X1_76 wI_X1_chain wS_X1_chain wN_X1 wC_X1_chain
theorem gc_X1_79 : GoodIn xtb (va_wsS RX1 79 yX2_carry (xW yX2_carry cX2_carry 5 (some .int))) := x_goodS lkM_X1_79 wT_X2_carry wN_X2 wC_X2_carry
theorem gc_X1_82 : GoodIn xtb (wsV RX1 82 yX1_step.cls yX1_step (xW yX1_step cX1_step 3 (some .int))) := x_good lkM_X1_82 wI_X1_step wS_X1_step wN_X1 wC_X1_step
theorem gc_X1_85 : GoodIn xtb (wsV RX1 85 yX1_choices.cls yX1_choices (xW yX1_choices cX1_choices 3 (some .int))) := x_good lkM_X1_85 wI_X1_choices wS_X1_choices wN_X1 wC_X1_choices
theorem gc_X1_88 : GoodIn xtb (wsV RX1 88 yX1_goOn.cls yX1_goOn (xW yX1_goOn cX1_goOn 4 (some .int))) := x_good lkM_X1_88 wI_X1_goOn wS_X1_goOn wN_X1 wC_X1_goOn
theorem ds_X1_howMany : xDs yX1_howMany 0 := by decide +kernel
theorem ds_X1_chain : xDs yX1_chain 1 := by decide +kernel
theorem ds_X1_step : xDs yX1_step 2 := by decide +kernel
theorem ds_X1_addStep : xDs yX1_addStep 3 := by decide +kernel
theorem ds_X1_take : xDs yX1_take 1 := by decide +kernel
theorem ds_X1_closeSteps : xDs yX1_closeSteps 0 := by decide +kernel
theorem ds_X1_make : xDs yX1_make 1 := by decide +kernel
theorem ds_X1_choices : xDs yX1_choices 2 := by decide +kernel
theorem ds_X1_goOn : xDs yX1_goOn 3 := by decide +kernel
theorem ds_X1_rank : xDs yX1_rank 1 := by decide +kernel
theorem ds_X1_withRank : xDs yX1_withRank 1 := by decide +kernel
noncomputable def f_X1_howMany (e_leaving : (Nat → Int32)) : Option (Int32) := some (e_leaving 0)
set_option maxHeartbeats 4000000 in
set_option maxRecDepth 100000 in
theorem c_X1_howMany (l : Launch) (dC : Nat → ClassId) (dI : Nat → Nat → Nat) (cI cZ cB cO : ClassId) (e_h : Nat) (e_p : Nat → Nat) (e_n : Int32) (e_steps : (Nat → Int32)) (e_undoing : (Nat → Int32)) (e_chains : (Nat → Int32)) (e_leaving : (Nat → Int32)) (e_found : (Nat → Int32)) (e_foundAt : (Nat → Int32)) (e_foundCount : Int32) (o : Int32) (h : f_X1_howMany e_leaving = some o) (sz : Nat) : Met l yX1_howMany (xW yX1_howMany cX1_howMany 1 (some .int)) { frames := 0, cells := 0, slots := 0, locals := 0 } (xPre dC dI (xT cI cZ cB cO) [.ref e_h] (wE cI cZ cB cO e_h e_p e_n e_steps e_undoing e_chains e_leaving e_found e_foundAt e_foundCount) sz) (xQi dC dI (xT cI cZ cB cO) o (wE cI cZ cB cO e_h e_p e_n e_steps e_undoing e_chains e_leaving e_found e_foundAt e_foundCount) (wE cI cZ cB cO e_h e_p e_n e_steps e_undoing e_chains e_leaving e_found e_foundAt e_foundCount) sz) 0 0 (va_A (wE cI cZ cB cO e_h e_p e_n e_steps e_undoing e_chains e_leaving e_found e_foundAt e_foundCount) sz) := by
  refine x_met (by decide) (Nat.le_of_ble_eq_true rfl) ?_
  intro p e s m args below meth c R Q A hR hsz hA hQ hin C hw ls hl
  have hx := C.1
  have hb := C.2.1
  have hown := C.2.2.2.1
  have htb := C.2.2.2.2.1
  have hl : lv_has ls 1 [(0, .ref e_h)] := hl
  refine lv_aload_n hx hb dX1_howMany_0 rfl (lv_at hl 0 rfl) ?_
  refine x_get (ci := 1) C hw inX1 rfl 4 (by decide) lkF_X1_25 rfl 0 rfl rfl dX1_howMany_1 ?_
  refine lv_iconst (v := (0 : Int32)) hx hb dX1_howMany_4 (by decide) ?_
  refine x_ialk C hw 4 0 rfl rfl (k := 0) (by decide) (vp_in_iff.mpr (by decide)) dX1_howMany_5 ?_
  obtain rfl := Option.some.inj h
  exact x_reti C hQ hA hw dX1_howMany_6
noncomputable def f_X1_chain (e_chains : (Nat → Int32)) (v1 : Int32) : Option (Int32) := xb (v1 < 0) (some (0 : Int32)) (xb ((8 : Int32) ≤ v1) (some (0 : Int32)) (xk (vp_in v1 8) (some (e_chains v1.toNatClampNeg))))
set_option maxHeartbeats 4000000 in
set_option maxRecDepth 100000 in
theorem c_X1_chain (l : Launch) (dC : Nat → ClassId) (dI : Nat → Nat → Nat) (cI cZ cB cO : ClassId) (e_h : Nat) (e_p : Nat → Nat) (e_n : Int32) (e_steps : (Nat → Int32)) (e_undoing : (Nat → Int32)) (e_chains : (Nat → Int32)) (e_leaving : (Nat → Int32)) (e_found : (Nat → Int32)) (e_foundAt : (Nat → Int32)) (e_foundCount : Int32) (v1 : Int32) (o : Int32) (h : f_X1_chain e_chains v1 = some o) (sz : Nat) : Met l yX1_chain (xW yX1_chain cX1_chain 2 (some .int)) { frames := 0, cells := 0, slots := 0, locals := 0 } (xPre dC dI (xT cI cZ cB cO) [.ref e_h, .int v1] (wE cI cZ cB cO e_h e_p e_n e_steps e_undoing e_chains e_leaving e_found e_foundAt e_foundCount) sz) (xQi dC dI (xT cI cZ cB cO) o (wE cI cZ cB cO e_h e_p e_n e_steps e_undoing e_chains e_leaving e_found e_foundAt e_foundCount) (wE cI cZ cB cO e_h e_p e_n e_steps e_undoing e_chains e_leaving e_found e_foundAt e_foundCount) sz) 0 0 (va_A (wE cI cZ cB cO e_h e_p e_n e_steps e_undoing e_chains e_leaving e_found e_foundAt e_foundCount) sz) := by
  refine x_met (by decide) (Nat.le_of_ble_eq_true rfl) ?_
  intro p e s m args below meth c R Q A hR hsz hA hQ hin C hw ls hl
  have hx := C.1
  have hb := C.2.1
  have hown := C.2.2.2.1
  have htb := C.2.2.2.2.1
  have hl : lv_has ls 2 [(0, .ref e_h), (1, .int v1)] := hl
  refine lv_iload_n hx hb dX1_chain_0 rfl (lv_at hl 1 rfl) ?_
  refine lv_if_lt (tgt := 19) hx hb dX1_chain_1 (by decide) (fun b1 => ?_) (fun b1 => ?_)
  · replace h := xb_tt b1 h
    refine lv_iconst (v := (0 : Int32)) hx hb dX1_chain_19 (by decide) ?_
    obtain rfl := Option.some.inj h
    exact x_reti C hQ hA hw dX1_chain_20
  · replace h := xb_ff b1 h
    refine lv_iload_n hx hb dX1_chain_4 rfl (lv_at hl 1 rfl) ?_
    refine lv_bipush (v := (8 : Int32)) hx hb dX1_chain_5 (by decide) ?_
    refine lv_icmp_ge (tgt := 19) hx hb dX1_chain_7 (by decide) (fun b2 => ?_) (fun b2 => ?_)
    · replace h := xb_tt b2 h
      refine lv_iconst (v := (0 : Int32)) hx hb dX1_chain_19 (by decide) ?_
      obtain rfl := Option.some.inj h
      exact x_reti C hQ hA hw dX1_chain_20
    · replace h := xb_ff b2 h
      refine lv_aload_n hx hb dX1_chain_10 rfl (lv_at hl 0 rfl) ?_
      refine x_get (ci := 1) C hw inX1 rfl 3 (by decide) lkF_X1_22 rfl 0 rfl rfl dX1_chain_11 ?_
      refine lv_iload_n hx hb dX1_chain_14 rfl (lv_at hl 1 rfl) ?_
      obtain ⟨b3, h⟩ := xk_i h
      refine x_iald C hw 3 0 rfl rfl b3 dX1_chain_15 ?_
      refine lv_goto (tgt := 20) hx hb dX1_chain_16 (by decide) ?_
      obtain rfl := Option.some.inj h
      exact x_reti C hQ hA hw dX1_chain_20
noncomputable def f_X1_step (e_steps : (Nat → Int32)) (v1 : Int32) (v2 : Int32) : Option (Int32) := xk (vp_in (((8 : Int32) * (v1 &&& (7 : Int32))) + (v2 &&& (7 : Int32))) 64) (some (e_steps (((8 : Int32) * (v1 &&& (7 : Int32))) + (v2 &&& (7 : Int32))).toNatClampNeg))
set_option maxHeartbeats 4000000 in
set_option maxRecDepth 100000 in
theorem c_X1_step (l : Launch) (dC : Nat → ClassId) (dI : Nat → Nat → Nat) (cI cZ cB cO : ClassId) (e_h : Nat) (e_p : Nat → Nat) (e_n : Int32) (e_steps : (Nat → Int32)) (e_undoing : (Nat → Int32)) (e_chains : (Nat → Int32)) (e_leaving : (Nat → Int32)) (e_found : (Nat → Int32)) (e_foundAt : (Nat → Int32)) (e_foundCount : Int32) (v1 : Int32) (v2 : Int32) (o : Int32) (h : f_X1_step e_steps v1 v2 = some o) (sz : Nat) : Met l yX1_step (xW yX1_step cX1_step 3 (some .int)) { frames := 0, cells := 0, slots := 0, locals := 0 } (xPre dC dI (xT cI cZ cB cO) [.ref e_h, .int v1, .int v2] (wE cI cZ cB cO e_h e_p e_n e_steps e_undoing e_chains e_leaving e_found e_foundAt e_foundCount) sz) (xQi dC dI (xT cI cZ cB cO) o (wE cI cZ cB cO e_h e_p e_n e_steps e_undoing e_chains e_leaving e_found e_foundAt e_foundCount) (wE cI cZ cB cO e_h e_p e_n e_steps e_undoing e_chains e_leaving e_found e_foundAt e_foundCount) sz) 0 0 (va_A (wE cI cZ cB cO e_h e_p e_n e_steps e_undoing e_chains e_leaving e_found e_foundAt e_foundCount) sz) := by
  refine x_met (by decide) (Nat.le_of_ble_eq_true rfl) ?_
  intro p e s m args below meth c R Q A hR hsz hA hQ hin C hw ls hl
  have hx := C.1
  have hb := C.2.1
  have hown := C.2.2.2.1
  have htb := C.2.2.2.2.1
  have hl : lv_has ls 3 [(0, .ref e_h), (1, .int v1), (2, .int v2)] := hl
  refine lv_aload_n hx hb dX1_step_0 rfl (lv_at hl 0 rfl) ?_
  refine x_get (ci := 1) C hw inX1 rfl 1 (by decide) lkF_X1_15 rfl 0 rfl rfl dX1_step_1 ?_
  refine lv_bipush (v := (8 : Int32)) hx hb dX1_step_4 (by decide) ?_
  refine lv_iload_n hx hb dX1_step_6 rfl (lv_at hl 1 rfl) ?_
  refine lv_bipush (v := (7 : Int32)) hx hb dX1_step_7 (by decide) ?_
  refine lv_iand hx hb dX1_step_9 ?_
  refine lv_imul hx hb dX1_step_10 ?_
  refine lv_iload_n hx hb dX1_step_11 rfl (lv_at hl 2 rfl) ?_
  refine lv_bipush (v := (7 : Int32)) hx hb dX1_step_12 (by decide) ?_
  refine lv_iand hx hb dX1_step_14 ?_
  refine lv_iadd hx hb dX1_step_15 ?_
  obtain ⟨b1, h⟩ := xk_i h
  refine x_iald C hw 1 0 rfl rfl b1 dX1_step_16 ?_
  obtain rfl := Option.some.inj h
  exact x_reti C hQ hA hw dX1_step_17
noncomputable def f_X1_addStep (e_steps : (Nat → Int32)) (e_undoing : (Nat → Int32)) (e_chains : (Nat → Int32)) (e_found : (Nat → Int32)) (e_foundAt : (Nat → Int32)) (e_foundCount : Int32) (v1 : Int32) (v2 : Int32) (v3 : Int32) : Option ((Nat → Int32) × (Nat → Int32) × (Nat → Int32) × (Nat → Int32) × (Nat → Int32) × Int32) := xb ((28 : Int32) ≤ e_foundCount) (some (e_steps, e_undoing, e_chains, e_found, e_foundAt, e_foundCount)) (xk (vp_in v1 8) (xk (vp_in (((8 : Int32) * v1) + v2) 64) (xn (f_X2_inverse v3) (fun (r_1 : Int32) => xk (vp_in e_foundCount 28) (some ((upd e_steps (((8 : Int32) * v1) + v2).toNatClampNeg v3), (upd e_undoing (((8 : Int32) * v1) + v2).toNatClampNeg r_1), (upd e_chains v1.toNatClampNeg ((e_chains v1.toNatClampNeg) ||| ((1 : Int32) <<< (v2 &&& 31)))), (upd e_found e_foundCount.toNatClampNeg v3), (upd e_foundAt e_foundCount.toNatClampNeg v1), (e_foundCount + (1 : Int32))))))))
set_option maxHeartbeats 4000000 in
set_option maxRecDepth 100000 in
theorem c_X1_addStep (l : Launch) (dC : Nat → ClassId) (dI : Nat → Nat → Nat) (cI cZ cB cO : ClassId) (e_h : Nat) (e_p : Nat → Nat) (e_n : Int32) (e_steps : (Nat → Int32)) (e_undoing : (Nat → Int32)) (e_chains : (Nat → Int32)) (e_leaving : (Nat → Int32)) (e_found : (Nat → Int32)) (e_foundAt : (Nat → Int32)) (e_foundCount : Int32) (v1 : Int32) (v2 : Int32) (v3 : Int32) (o : (Nat → Int32) × (Nat → Int32) × (Nat → Int32) × (Nat → Int32) × (Nat → Int32) × Int32) (h : f_X1_addStep e_steps e_undoing e_chains e_found e_foundAt e_foundCount v1 v2 v3 = some o) (sz : Nat) : Met l yX1_addStep (xW yX1_addStep cX1_addStep 4 none) { frames := 1, cells := 0, slots := 0, locals := 22 } (xPre dC dI (xT cI cZ cB cO) [.ref e_h, .int v1, .int v2, .int v3] (wE cI cZ cB cO e_h e_p e_n e_steps e_undoing e_chains e_leaving e_found e_foundAt e_foundCount) sz) (xQv dC dI (xT cI cZ cB cO) (wE cI cZ cB cO e_h e_p e_n e_steps e_undoing e_chains e_leaving e_found e_foundAt e_foundCount) (wE cI cZ cB cO e_h e_p e_n o.1 o.2.1 o.2.2.1 e_leaving o.2.2.2.1 o.2.2.2.2.1 o.2.2.2.2.2) sz) 0 0 (va_A (wE cI cZ cB cO e_h e_p e_n e_steps e_undoing e_chains e_leaving e_found e_foundAt e_foundCount) sz) := by
  refine x_met (by decide) (Nat.le_of_ble_eq_true rfl) ?_
  intro p e s m args below meth c R Q A hR hsz hA hQ hin C hw ls hl
  have hx := C.1
  have hb := C.2.1
  have hown := C.2.2.2.1
  have htb := C.2.2.2.2.1
  have hl : lv_has ls 4 [(0, .ref e_h), (1, .int v1), (2, .int v2), (3, .int v3)] := hl
  refine lv_aload_n hx hb dX1_addStep_0 rfl (lv_at hl 0 rfl) ?_
  refine x_get (ci := 1) C hw inX1 rfl 7 (by decide) lkF_X1_34 rfl 0 rfl rfl dX1_addStep_1 ?_
  refine lv_bipush (v := (28 : Int32)) hx hb dX1_addStep_4 (by decide) ?_
  refine lv_icmp_ge (tgt := 78) hx hb dX1_addStep_6 (by decide) (fun b1 => ?_) (fun b1 => ?_)
  · replace h := xb_tt b1 h
    obtain rfl := Option.some.inj h
    exact x_retv C hQ hA hw dX1_addStep_78
  · replace h := xb_ff b1 h
    refine lv_aload_n hx hb dX1_addStep_9 rfl (lv_at hl 0 rfl) ?_
    refine x_get (ci := 1) C hw inX1 rfl 3 (by decide) lkF_X1_22 rfl 0 rfl rfl dX1_addStep_10 ?_
    refine lv_iload_n hx hb dX1_addStep_13 rfl (lv_at hl 1 rfl) ?_
    refine lv_dup2_11 hx hb dX1_addStep_14 rfl rfl ?_
    obtain ⟨b2, h⟩ := xk_i h
    refine x_iald C hw 3 0 rfl rfl b2 dX1_addStep_15 ?_
    refine lv_iconst (v := (1 : Int32)) hx hb dX1_addStep_16 (by decide) ?_
    refine lv_iload_n hx hb dX1_addStep_17 rfl (lv_at hl 2 rfl) ?_
    refine lv_ishl hx hb dX1_addStep_18 ?_
    refine lv_ior hx hb dX1_addStep_19 ?_
    refine x_iast C hw 3 0 rfl rfl b2 dX1_addStep_20 (fun H locs hw => ?_)
    have hw : xWd (dC, dI) A s.heap H locs (wE cI cZ cB cO e_h e_p e_n e_steps e_undoing (upd e_chains v1.toNatClampNeg ((e_chains v1.toNatClampNeg) ||| ((1 : Int32) <<< (v2 &&& 31)))) e_leaving e_found e_foundAt e_foundCount) := hw
    refine lv_aload_n hx hb dX1_addStep_21 rfl (lv_at hl 0 rfl) ?_
    refine x_get (ci := 1) C hw inX1 rfl 1 (by decide) lkF_X1_15 rfl 0 rfl rfl dX1_addStep_22 ?_
    refine lv_bipush (v := (8 : Int32)) hx hb dX1_addStep_25 (by decide) ?_
    refine lv_iload_n hx hb dX1_addStep_27 rfl (lv_at hl 1 rfl) ?_
    refine lv_imul hx hb dX1_addStep_28 ?_
    refine lv_iload_n hx hb dX1_addStep_29 rfl (lv_at hl 2 rfl) ?_
    refine lv_iadd hx hb dX1_addStep_30 ?_
    refine lv_iload_n hx hb dX1_addStep_31 rfl (lv_at hl 3 rfl) ?_
    obtain ⟨b3, h⟩ := xk_i h
    refine x_iast C hw 1 0 rfl rfl b3 dX1_addStep_32 (fun H locs hw => ?_)
    have hw : xWd (dC, dI) A s.heap H locs (wE cI cZ cB cO e_h e_p e_n (upd e_steps (((8 : Int32) * v1) + v2).toNatClampNeg v3) e_undoing (upd e_chains v1.toNatClampNeg ((e_chains v1.toNatClampNeg) ||| ((1 : Int32) <<< (v2 &&& 31)))) e_leaving e_found e_foundAt e_foundCount) := hw
    refine lv_aload_n hx hb dX1_addStep_33 rfl (lv_at hl 0 rfl) ?_
    refine x_get (ci := 1) C hw inX1 rfl 2 (by decide) lkF_X1_19 rfl 0 rfl rfl dX1_addStep_34 ?_
    refine lv_bipush (v := (8 : Int32)) hx hb dX1_addStep_37 (by decide) ?_
    refine lv_iload_n hx hb dX1_addStep_39 rfl (lv_at hl 1 rfl) ?_
    refine lv_imul hx hb dX1_addStep_40 ?_
    refine lv_iload_n hx hb dX1_addStep_41 rfl (lv_at hl 2 rfl) ?_
    refine lv_iadd hx hb dX1_addStep_42 ?_
    refine lv_iload_n hx hb dX1_addStep_43 rfl (lv_at hl 3 rfl) ?_
    obtain ⟨r_1, q4, h⟩ := xn_i h
    refine x_callSi (As := [.int v3]) (rest := [.int (((8 : Int32) * v1) + v2), .ref (e_p 2)]) C hw gc_X1_73 ds_X2_inverse (by rw [hR]; exact Nat.le_of_ble_eq_true rfl) (by rw [hR]; exact Nat.le_of_ble_eq_true rfl) rfl rfl (Nat.zero_le _) (Nat.zero_le _) (c_X2_inverse l dC dI cI cZ cB cO v3 _ q4 _) [] [0, 1, 2, 3, 4, 5, 6] (by decide) rfl rfl (by decide) (by decide) rfl hl.1 rfl (Nat.le_of_ble_eq_true rfl) dX1_addStep_44 (fun H locs hw => ?_)
    have hw : xWd (dC, dI) A s.heap H locs (wE cI cZ cB cO e_h e_p e_n (upd e_steps (((8 : Int32) * v1) + v2).toNatClampNeg v3) e_undoing (upd e_chains v1.toNatClampNeg ((e_chains v1.toNatClampNeg) ||| ((1 : Int32) <<< (v2 &&& 31)))) e_leaving e_found e_foundAt e_foundCount) := hw.sub [0, 1, 2, 3, 4, 5, 6] (by decide) rfl
    refine x_iast C hw 2 0 rfl rfl b3 dX1_addStep_47 (fun H locs hw => ?_)
    have hw : xWd (dC, dI) A s.heap H locs (wE cI cZ cB cO e_h e_p e_n (upd e_steps (((8 : Int32) * v1) + v2).toNatClampNeg v3) (upd e_undoing (((8 : Int32) * v1) + v2).toNatClampNeg r_1) (upd e_chains v1.toNatClampNeg ((e_chains v1.toNatClampNeg) ||| ((1 : Int32) <<< (v2 &&& 31)))) e_leaving e_found e_foundAt e_foundCount) := hw
    refine lv_aload_n hx hb dX1_addStep_48 rfl (lv_at hl 0 rfl) ?_
    refine x_get (ci := 1) C hw inX1 rfl 5 (by decide) lkF_X1_28 rfl 0 rfl rfl dX1_addStep_49 ?_
    refine lv_aload_n hx hb dX1_addStep_52 rfl (lv_at hl 0 rfl) ?_
    refine x_get (ci := 1) C hw inX1 rfl 7 (by decide) lkF_X1_34 rfl 0 rfl rfl dX1_addStep_53 ?_
    refine lv_iload_n hx hb dX1_addStep_56 rfl (lv_at hl 3 rfl) ?_
    obtain ⟨b5, h⟩ := xk_i h
    refine x_iast C hw 5 0 rfl rfl b5 dX1_addStep_57 (fun H locs hw => ?_)
    have hw : xWd (dC, dI) A s.heap H locs (wE cI cZ cB cO e_h e_p e_n (upd e_steps (((8 : Int32) * v1) + v2).toNatClampNeg v3) (upd e_undoing (((8 : Int32) * v1) + v2).toNatClampNeg r_1) (upd e_chains v1.toNatClampNeg ((e_chains v1.toNatClampNeg) ||| ((1 : Int32) <<< (v2 &&& 31)))) e_leaving (upd e_found e_foundCount.toNatClampNeg v3) e_foundAt e_foundCount) := hw
    refine lv_aload_n hx hb dX1_addStep_58 rfl (lv_at hl 0 rfl) ?_
    refine x_get (ci := 1) C hw inX1 rfl 6 (by decide) lkF_X1_31 rfl 0 rfl rfl dX1_addStep_59 ?_
    refine lv_aload_n hx hb dX1_addStep_62 rfl (lv_at hl 0 rfl) ?_
    refine x_get (ci := 1) C hw inX1 rfl 7 (by decide) lkF_X1_34 rfl 0 rfl rfl dX1_addStep_63 ?_
    refine lv_iload_n hx hb dX1_addStep_66 rfl (lv_at hl 1 rfl) ?_
    refine x_iast C hw 6 0 rfl rfl b5 dX1_addStep_67 (fun H locs hw => ?_)
    have hw : xWd (dC, dI) A s.heap H locs (wE cI cZ cB cO e_h e_p e_n (upd e_steps (((8 : Int32) * v1) + v2).toNatClampNeg v3) (upd e_undoing (((8 : Int32) * v1) + v2).toNatClampNeg r_1) (upd e_chains v1.toNatClampNeg ((e_chains v1.toNatClampNeg) ||| ((1 : Int32) <<< (v2 &&& 31)))) e_leaving (upd e_found e_foundCount.toNatClampNeg v3) (upd e_foundAt e_foundCount.toNatClampNeg v1) e_foundCount) := hw
    refine lv_aload_n hx hb dX1_addStep_68 rfl (lv_at hl 0 rfl) ?_
    refine lv_dup hx hb dX1_addStep_69 rfl ?_
    refine x_get (ci := 1) C hw inX1 rfl 7 (by decide) lkF_X1_34 rfl 0 rfl rfl dX1_addStep_70 ?_
    refine lv_iconst (v := (1 : Int32)) hx hb dX1_addStep_73 (by decide) ?_
    refine lv_iadd hx hb dX1_addStep_74 ?_
    refine x_put (ci := 1) C hw inX1 tyX1 tyX1_ok nmX1 rfl 7 (by decide) lkF_X1_34 rfl rfl 0 rfl rfl rfl (Nat.le_of_ble_eq_true rfl) dX1_addStep_75 (fun H locs hw => ?_)
    have hw : xWd (dC, dI) A s.heap H locs (wE cI cZ cB cO e_h e_p e_n (upd e_steps (((8 : Int32) * v1) + v2).toNatClampNeg v3) (upd e_undoing (((8 : Int32) * v1) + v2).toNatClampNeg r_1) (upd e_chains v1.toNatClampNeg ((e_chains v1.toNatClampNeg) ||| ((1 : Int32) <<< (v2 &&& 31)))) e_leaving (upd e_found e_foundCount.toNatClampNeg v3) (upd e_foundAt e_foundCount.toNatClampNeg v1) (e_foundCount + (1 : Int32))) := hw
    obtain rfl := Option.some.inj h
    exact x_retv C hQ hA hw dX1_addStep_78
noncomputable def f_X1_take_L1  (z : (Nat → Int32) × (Nat → Int32) × (Nat → Int32) × (Nat → Int32) × (Nat → Int32) × Int32 × Int32 × Int32) : Option (((Nat → Int32) × (Nat → Int32) × (Nat → Int32) × (Nat → Int32) × (Nat → Int32) × Int32 × Int32 × Int32) ⊕ (((Nat → Int32) × (Nat → Int32) × (Nat → Int32) × (Nat → Int32) × (Nat → Int32) × Int32) ⊕ ((Nat → Int32) × (Nat → Int32) × (Nat → Int32) × (Nat → Int32) × (Nat → Int32) × Int32))) := match z with
  | (e_steps_1, e_undoing_2, e_chains_3, e_found_4, e_foundAt_5, e_foundCount_6, v2_7, v3_8) => xb ((8 : Int32) ≤ v3_8) (some (.inr (.inl (e_steps_1, e_undoing_2, e_chains_3, e_found_4, e_foundAt_5, e_foundCount_6)))) (xb (v2_7 = (16434824 : Int32)) (some (.inr (.inl (e_steps_1, e_undoing_2, e_chains_3, e_found_4, e_foundAt_5, e_foundCount_6)))) (xn (f_X2_at v2_7 v3_8) (fun (r_15 : Int32) => xk (vp_in v3_8 8) (xb ((((e_chains_3 v3_8.toNatClampNeg) >>> (r_15 &&& 31)) &&& (1 : Int32)) = 0) (xn (f_X1_addStep e_steps_1 e_undoing_2 e_chains_3 e_found_4 e_foundAt_5 e_foundCount_6 v3_8 r_15 v2_7) (fun (z : (Nat → Int32) × (Nat → Int32) × (Nat → Int32) × (Nat → Int32) × (Nat → Int32) × Int32) => match z with | (e_steps_17, e_undoing_18, e_chains_19, e_found_20, e_foundAt_21, e_foundCount_22) => some (.inr (.inr (e_steps_17, e_undoing_18, e_chains_19, e_found_20, e_foundAt_21, e_foundCount_22))))) (xb (r_15 = v3_8) (some (.inl (e_steps_1, e_undoing_2, e_chains_3, e_found_4, e_foundAt_5, e_foundCount_6, v2_7, (v3_8 + (1 : Int32))))) (xk (vp_in (((8 : Int32) * v3_8) + r_15) 64) (xn (f_X2_then v2_7 (e_undoing_2 (((8 : Int32) * v3_8) + r_15).toNatClampNeg)) (fun (r_16 : Int32) => some (.inl (e_steps_1, e_undoing_2, e_chains_3, e_found_4, e_foundAt_5, e_foundCount_6, r_16, (v3_8 + (1 : Int32))))))))))))
noncomputable def f_X1_take (e_steps : (Nat → Int32)) (e_undoing : (Nat → Int32)) (e_chains : (Nat → Int32)) (e_found : (Nat → Int32)) (e_foundAt : (Nat → Int32)) (e_foundCount : Int32) (v1 : Int32) : Option ((Nat → Int32) × (Nat → Int32) × (Nat → Int32) × (Nat → Int32) × (Nat → Int32) × Int32) := xn (xL f_X1_take_L1 (e_steps, e_undoing, e_chains, e_found, e_foundAt, e_foundCount, v1, (0 : Int32))) (fun (x : ((Nat → Int32) × (Nat → Int32) × (Nat → Int32) × (Nat → Int32) × (Nat → Int32) × Int32) ⊕ ((Nat → Int32) × (Nat → Int32) × (Nat → Int32) × (Nat → Int32) × (Nat → Int32) × Int32)) => match x with | .inl z => (fun (z : (Nat → Int32) × (Nat → Int32) × (Nat → Int32) × (Nat → Int32) × (Nat → Int32) × Int32) => match z with | (e_steps_9, e_undoing_10, e_chains_11, e_found_12, e_foundAt_13, e_foundCount_14) => some (e_steps_9, e_undoing_10, e_chains_11, e_found_12, e_foundAt_13, e_foundCount_14)) z | .inr z => some z)
set_option maxHeartbeats 4000000 in
set_option maxRecDepth 100000 in
theorem c_X1_take (l : Launch) (dC : Nat → ClassId) (dI : Nat → Nat → Nat) (cI cZ cB cO : ClassId) (e_h : Nat) (e_p : Nat → Nat) (e_n : Int32) (e_steps : (Nat → Int32)) (e_undoing : (Nat → Int32)) (e_chains : (Nat → Int32)) (e_leaving : (Nat → Int32)) (e_found : (Nat → Int32)) (e_foundAt : (Nat → Int32)) (e_foundCount : Int32) (v1 : Int32) (o : (Nat → Int32) × (Nat → Int32) × (Nat → Int32) × (Nat → Int32) × (Nat → Int32) × Int32) (h : f_X1_take e_steps e_undoing e_chains e_found e_foundAt e_foundCount v1 = some o) (sz : Nat) : Met l yX1_take (xW yX1_take cX1_take 5 none) { frames := 2, cells := 0, slots := 0, locals := 45 } (xPre dC dI (xT cI cZ cB cO) [.ref e_h, .int v1] (wE cI cZ cB cO e_h e_p e_n e_steps e_undoing e_chains e_leaving e_found e_foundAt e_foundCount) sz) (xQv dC dI (xT cI cZ cB cO) (wE cI cZ cB cO e_h e_p e_n e_steps e_undoing e_chains e_leaving e_found e_foundAt e_foundCount) (wE cI cZ cB cO e_h e_p e_n o.1 o.2.1 o.2.2.1 e_leaving o.2.2.2.1 o.2.2.2.2.1 o.2.2.2.2.2) sz) 0 0 (va_A (wE cI cZ cB cO e_h e_p e_n e_steps e_undoing e_chains e_leaving e_found e_foundAt e_foundCount) sz) := by
  refine x_met (by decide) (Nat.le_of_ble_eq_true rfl) ?_
  intro p e s m args below meth c R Q A hR hsz hA hQ hin C hw ls hl
  have hx := C.1
  have hb := C.2.1
  have hown := C.2.2.2.1
  have htb := C.2.2.2.2.1
  have hl : lv_has ls 5 [(0, .ref e_h), (1, .int v1)] := hl
  refine lv_iload_n hx hb dX1_take_0 rfl (lv_at hl 1 rfl) ?_
  refine lv_istore_n (lv' := [(2, .int v1), (0, .ref e_h), (1, .int v1)]) hx hb dX1_take_1 rfl hl (by decide) rfl (fun ls hl => ?_)
  refine lv_iconst (v := (0 : Int32)) hx hb dX1_take_2 (by decide) ?_
  refine lv_istore_n (lv' := [(3, .int (0 : Int32)), (2, .int v1), (0, .ref e_h), (1, .int v1)]) hx hb dX1_take_3 rfl hl (by decide) rfl (fun ls hl => ?_)
  obtain ⟨z, hr, h⟩ := xn_i h
  refine xL_w (fun (z : (Nat → Int32) × (Nat → Int32) × (Nat → Int32) × (Nat → Int32) × (Nat → Int32) × Int32 × Int32 × Int32) => ∀ (H : Heap) (locs : List Loc) (ls : Array Slot), xWd (dC, dI) A s.heap H locs (wE cI cZ cB cO e_h e_p e_n z.1 z.2.1 z.2.2.1 e_leaving z.2.2.2.1 z.2.2.2.2.1 z.2.2.2.2.2.1) → lv_has ls 5 [(0, .ref e_h), (2, .int z.2.2.2.2.2.2.1), (3, .int z.2.2.2.2.2.2.2)] → W p l e R s m args below meth c H locs 0 0 Q (F0 m 4 ls [])) (Sum.elim (fun (z : (Nat → Int32) × (Nat → Int32) × (Nat → Int32) × (Nat → Int32) × (Nat → Int32) × Int32) => ∀ (H : Heap) (locs : List Loc) (ls : Array Slot), xWd (dC, dI) A s.heap H locs (wE cI cZ cB cO e_h e_p e_n z.1 z.2.1 z.2.2.1 e_leaving z.2.2.2.1 z.2.2.2.2.1 z.2.2.2.2.2) → lv_has ls 5 [] → W p l e R s m args below meth c H locs 0 0 Q (F0 m 75 ls [])) (fun (z : (Nat → Int32) × (Nat → Int32) × (Nat → Int32) × (Nat → Int32) × (Nat → Int32) × Int32) => ∀ (H : Heap) (locs : List Loc), xWd (dC, dI) A s.heap H locs (wE cI cZ cB cO e_h e_p e_n z.1 z.2.1 z.2.2.1 e_leaving z.2.2.2.1 z.2.2.2.2.1 z.2.2.2.2.2) → ∀ (pc : Nat) (ls : Array Slot), decode cX1_take pc = .ok (.return_, 1) → W p l e R s m args below meth c H locs 0 0 Q (F0 m pc ls []))) ?_ hr ?_ _ _ _ hw (lv_sub hl [2, 1, 0] rfl)
  · rintro ⟨e_steps_1, e_undoing_2, e_chains_3, e_found_4, e_foundAt_5, e_foundCount_6, v2_7, v3_8⟩ o h k H locs ls hw hl
    have hw : xWd (dC, dI) A s.heap H locs (wE cI cZ cB cO e_h e_p e_n e_steps_1 e_undoing_2 e_chains_3 e_leaving e_found_4 e_foundAt_5 e_foundCount_6) := hw
    have hl : lv_has ls 5 [(0, .ref e_h), (2, .int v2_7), (3, .int v3_8)] := hl
    refine lv_iload_n hx hb dX1_take_4 rfl (lv_at hl 2 rfl) ?_
    refine lv_bipush (v := (8 : Int32)) hx hb dX1_take_5 (by decide) ?_
    refine lv_icmp_ge (tgt := 75) hx hb dX1_take_7 (by decide) (fun b1 => ?_) (fun b1 => ?_)
    · replace h := xb_tt b1 h
      obtain rfl := Option.some.inj h
      exact k _ _ _ hw (lv_sub hl [] rfl)
    · replace h := xb_ff b1 h
      refine lv_iload_n hx hb dX1_take_10 rfl (lv_at hl 1 rfl) ?_
      refine lv_ldc hx hb hown (htb _ kI_X1_42) dX1_take_11 ?_
      refine lv_icmp_eq (tgt := 75) hx hb dX1_take_13 (by decide) (fun b2 => ?_) (fun b2 => ?_)
      · replace h := xb_tt b2 h
        obtain rfl := Option.some.inj h
        exact k _ _ _ hw (lv_sub hl [] rfl)
      · replace h := xb_ff b2 h
        refine lv_iload_n hx hb dX1_take_16 rfl (lv_at hl 1 rfl) ?_
        refine lv_iload_n hx hb dX1_take_17 rfl (lv_at hl 2 rfl) ?_
        obtain ⟨r_15, q3, h⟩ := xn_i h
        refine x_callSi (As := [.int v2_7, .int v3_8]) (rest := []) C hw gc_X1_62 ds_X2_at (by rw [hR]; exact Nat.le_of_ble_eq_true rfl) (by rw [hR]; exact Nat.le_of_ble_eq_true rfl) rfl rfl (Nat.zero_le _) (Nat.zero_le _) (c_X2_at l dC dI cI cZ cB cO v2_7 v3_8 _ q3 _) [] [0, 1, 2, 3, 4, 5, 6] (by decide) rfl rfl (by decide) (by decide) rfl hl.1 rfl (Nat.le_of_ble_eq_true rfl) dX1_take_18 (fun H locs hw => ?_)
        have hw : xWd (dC, dI) A s.heap H locs (wE cI cZ cB cO e_h e_p e_n e_steps_1 e_undoing_2 e_chains_3 e_leaving e_found_4 e_foundAt_5 e_foundCount_6) := hw.sub [0, 1, 2, 3, 4, 5, 6] (by decide) rfl
        refine lv_istore (lv' := [(4, .int r_15), (0, .ref e_h), (2, .int v2_7), (3, .int v3_8)]) hx hb dX1_take_21 hl (by decide) rfl (fun ls hl => ?_)
        refine lv_aload_n hx hb dX1_take_23 rfl (lv_at hl 1 rfl) ?_
        refine x_get (ci := 1) C hw inX1 rfl 3 (by decide) lkF_X1_22 rfl 0 rfl rfl dX1_take_24 ?_
        refine lv_iload_n hx hb dX1_take_27 rfl (lv_at hl 3 rfl) ?_
        obtain ⟨b4, h⟩ := xk_i h
        refine x_iald C hw 3 0 rfl rfl b4 dX1_take_28 ?_
        refine lv_iload hx hb dX1_take_29 (lv_at hl 0 rfl) ?_
        refine lv_ishr hx hb dX1_take_31 ?_
        refine lv_iconst (v := (1 : Int32)) hx hb dX1_take_32 (by decide) ?_
        refine lv_iand hx hb dX1_take_33 ?_
        refine lv_if_ne (tgt := 46) hx hb dX1_take_34 (by decide) (fun b5 => ?_) (fun b5 => ?_)
        · replace h := xb_ff b5 h
          refine lv_iload hx hb dX1_take_46 (lv_at hl 0 rfl) ?_
          refine lv_iload_n hx hb dX1_take_48 rfl (lv_at hl 3 rfl) ?_
          refine lv_icmp_eq (tgt := 69) hx hb dX1_take_49 (by decide) (fun b6 => ?_) (fun b6 => ?_)
          · replace h := xb_tt b6 h
            refine lv_iinc (v := (v3_8 + (1 : Int32))) (lv' := [(3, .int (v3_8 + (1 : Int32))), (4, .int r_15), (0, .ref e_h), (2, .int v2_7)]) hx hb dX1_take_69 hl (k := 3) rfl (congrArg (fun q => v3_8 + q) (by decide)) (by decide) rfl (fun ls hl => ?_)
            refine lv_goto (tgt := 4) hx hb dX1_take_72 (by decide) ?_
            obtain rfl := Option.some.inj h
            exact k _ _ _ hw (lv_sub hl [2, 3, 0] rfl)
          · replace h := xb_ff b6 h
            refine lv_iload_n hx hb dX1_take_52 rfl (lv_at hl 2 rfl) ?_
            refine lv_aload_n hx hb dX1_take_53 rfl (lv_at hl 1 rfl) ?_
            refine x_get (ci := 1) C hw inX1 rfl 2 (by decide) lkF_X1_19 rfl 0 rfl rfl dX1_take_54 ?_
            refine lv_bipush (v := (8 : Int32)) hx hb dX1_take_57 (by decide) ?_
            refine lv_iload_n hx hb dX1_take_59 rfl (lv_at hl 3 rfl) ?_
            refine lv_imul hx hb dX1_take_60 ?_
            refine lv_iload hx hb dX1_take_61 (lv_at hl 0 rfl) ?_
            refine lv_iadd hx hb dX1_take_63 ?_
            obtain ⟨b7, h⟩ := xk_i h
            refine x_iald C hw 2 0 rfl rfl b7 dX1_take_64 ?_
            obtain ⟨r_16, q8, h⟩ := xn_i h
            refine x_callSi (As := [.int v2_7, .int (e_undoing_2 (((8 : Int32) * v3_8) + r_15).toNatClampNeg)]) (rest := []) C hw gc_X1_70 ds_X2_then (by rw [hR]; exact Nat.le_of_ble_eq_true rfl) (by rw [hR]; exact Nat.le_of_ble_eq_true rfl) rfl rfl (Nat.zero_le _) (Nat.zero_le _) (c_X2_then l dC dI cI cZ cB cO v2_7 (e_undoing_2 (((8 : Int32) * v3_8) + r_15).toNatClampNeg) _ q8 _) [] [0, 1, 2, 3, 4, 5, 6] (by decide) rfl rfl (by decide) (by decide) rfl hl.1 rfl (Nat.le_of_ble_eq_true rfl) dX1_take_65 (fun H locs hw => ?_)
            have hw : xWd (dC, dI) A s.heap H locs (wE cI cZ cB cO e_h e_p e_n e_steps_1 e_undoing_2 e_chains_3 e_leaving e_found_4 e_foundAt_5 e_foundCount_6) := hw.sub [0, 1, 2, 3, 4, 5, 6] (by decide) rfl
            refine lv_istore_n (lv' := [(2, .int r_16), (4, .int r_15), (0, .ref e_h), (3, .int v3_8)]) hx hb dX1_take_68 rfl hl (by decide) rfl (fun ls hl => ?_)
            refine lv_iinc (v := (v3_8 + (1 : Int32))) (lv' := [(3, .int (v3_8 + (1 : Int32))), (2, .int r_16), (4, .int r_15), (0, .ref e_h)]) hx hb dX1_take_69 hl (k := 3) rfl (congrArg (fun q => v3_8 + q) (by decide)) (by decide) rfl (fun ls hl => ?_)
            refine lv_goto (tgt := 4) hx hb dX1_take_72 (by decide) ?_
            obtain rfl := Option.some.inj h
            exact k _ _ _ hw (lv_sub hl [3, 1, 0] rfl)
        · replace h := xb_tt b5 h
          refine lv_aload_n hx hb dX1_take_37 rfl (lv_at hl 1 rfl) ?_
          refine lv_iload_n hx hb dX1_take_38 rfl (lv_at hl 3 rfl) ?_
          refine lv_iload hx hb dX1_take_39 (lv_at hl 0 rfl) ?_
          refine lv_iload_n hx hb dX1_take_41 rfl (lv_at hl 2 rfl) ?_
          obtain ⟨⟨e_steps_17, e_undoing_18, e_chains_19, e_found_20, e_foundAt_21, e_foundCount_22⟩, q9, h⟩ := xn_i h
          refine x_callVv (As := [.int v3_8, .int r_15, .int v2_7]) (rest := []) C hw gc_X1_66 ⟨rfl, rfl, ds_X1_addStep, (by rw [hR]; exact Nat.le_of_ble_eq_true rfl), (by rw [hR]; exact Nat.le_of_ble_eq_true rfl), Nat.zero_le _, Nat.zero_le _⟩ (c_X1_addStep l dC dI cI cZ cB cO e_h e_p e_n e_steps_1 e_undoing_2 e_chains_3 e_leaving e_found_4 e_foundAt_5 e_foundCount_6 v3_8 r_15 v2_7 _ q9 _) [0, 1, 2, 3, 4, 5, 6] [] (by decide) rfl rfl (by decide) (by decide) rfl rfl rfl hl.1 rfl (Nat.le_of_ble_eq_true rfl) dX1_take_42 (fun H locs hw => ?_)
          have hw : xWd (dC, dI) A s.heap H locs (wE cI cZ cB cO e_h e_p e_n e_steps_17 e_undoing_18 e_chains_19 e_leaving e_found_20 e_foundAt_21 e_foundCount_22) := hw
          obtain rfl := Option.some.inj h
          exact k _ _ hw _ _ dX1_take_45
  · rcases z with z | z
    · obtain ⟨e_steps_9, e_undoing_10, e_chains_11, e_found_12, e_foundAt_13, e_foundCount_14⟩ := z
      intro H locs ls hw hl
      have hw : xWd (dC, dI) A s.heap H locs (wE cI cZ cB cO e_h e_p e_n e_steps_9 e_undoing_10 e_chains_11 e_leaving e_found_12 e_foundAt_13 e_foundCount_14) := hw
      have hl : lv_has ls 5 [] := hl
      obtain rfl := Option.some.inj h
      exact x_retv C hQ hA hw dX1_take_75
    · obtain rfl := Option.some.inj h
      intro H locs hw pc ls hd
      exact x_retv C hQ hA hw hd
noncomputable def f_X1_closeSteps_L2 (v1_7 : Int32) (z : (Nat → Int32) × (Nat → Int32) × (Nat → Int32) × (Nat → Int32) × (Nat → Int32) × Int32 × Int32) : Option (((Nat → Int32) × (Nat → Int32) × (Nat → Int32) × (Nat → Int32) × (Nat → Int32) × Int32 × Int32) ⊕ ((Nat → Int32) × (Nat → Int32) × (Nat → Int32) × (Nat → Int32) × (Nat → Int32) × Int32)) := match z with
  | (e_steps_14, e_undoing_15, e_chains_16, e_found_17, e_foundAt_18, e_foundCount_19, v2_20) => xb (v1_7 < v2_20) (some (.inr (e_steps_14, e_undoing_15, e_chains_16, e_found_17, e_foundAt_18, e_foundCount_19))) (xk (vp_in v2_20 28) (xk (vp_in v1_7 28) (xn (xb ((e_foundAt_18 v1_7.toNatClampNeg) < (e_foundAt_18 v2_20.toNatClampNeg)) (some (e_steps_14, e_undoing_15, e_chains_16, e_found_17, e_foundAt_18, e_foundCount_19)) (xn (f_X2_then (e_found_17 v2_20.toNatClampNeg) (e_found_17 v1_7.toNatClampNeg)) (fun (r_33 : Int32) => xn (f_X1_take e_steps_14 e_undoing_15 e_chains_16 e_found_17 e_foundAt_18 e_foundCount_19 r_33) (fun (z : (Nat → Int32) × (Nat → Int32) × (Nat → Int32) × (Nat → Int32) × (Nat → Int32) × Int32) => match z with | (e_steps_34, e_undoing_35, e_chains_36, e_found_37, e_foundAt_38, e_foundCount_39) => some (e_steps_34, e_undoing_35, e_chains_36, e_found_37, e_foundAt_38, e_foundCount_39))))) (fun (z : (Nat → Int32) × (Nat → Int32) × (Nat → Int32) × (Nat → Int32) × (Nat → Int32) × Int32) => match z with | (e_steps_27, e_undoing_28, e_chains_29, e_found_30, e_foundAt_31, e_foundCount_32) => xb ((e_foundAt_31 v2_20.toNatClampNeg) < (e_foundAt_31 v1_7.toNatClampNeg)) (some (.inl (e_steps_27, e_undoing_28, e_chains_29, e_found_30, e_foundAt_31, e_foundCount_32, (v2_20 + (1 : Int32))))) (xn (f_X2_then (e_found_30 v1_7.toNatClampNeg) (e_found_30 v2_20.toNatClampNeg)) (fun (r_40 : Int32) => xn (f_X1_take e_steps_27 e_undoing_28 e_chains_29 e_found_30 e_foundAt_31 e_foundCount_32 r_40) (fun (z : (Nat → Int32) × (Nat → Int32) × (Nat → Int32) × (Nat → Int32) × (Nat → Int32) × Int32) => match z with | (e_steps_41, e_undoing_42, e_chains_43, e_found_44, e_foundAt_45, e_foundCount_46) => some (.inl (e_steps_41, e_undoing_42, e_chains_43, e_found_44, e_foundAt_45, e_foundCount_46, (v2_20 + (1 : Int32)))))))))))
noncomputable def f_X1_closeSteps_L1  (z : (Nat → Int32) × (Nat → Int32) × (Nat → Int32) × (Nat → Int32) × (Nat → Int32) × Int32 × Int32) : Option (((Nat → Int32) × (Nat → Int32) × (Nat → Int32) × (Nat → Int32) × (Nat → Int32) × Int32 × Int32) ⊕ ((Nat → Int32) × (Nat → Int32) × (Nat → Int32) × (Nat → Int32) × (Nat → Int32) × Int32)) := match z with
  | (e_steps_1, e_undoing_2, e_chains_3, e_found_4, e_foundAt_5, e_foundCount_6, v1_7) => xb (e_foundCount_6 ≤ v1_7) (some (.inr (e_steps_1, e_undoing_2, e_chains_3, e_found_4, e_foundAt_5, e_foundCount_6))) (xb ((28 : Int32) ≤ v1_7) (some (.inr (e_steps_1, e_undoing_2, e_chains_3, e_found_4, e_foundAt_5, e_foundCount_6))) (xn (xL (f_X1_closeSteps_L2 v1_7) (e_steps_1, e_undoing_2, e_chains_3, e_found_4, e_foundAt_5, e_foundCount_6, (0 : Int32))) (fun (z : (Nat → Int32) × (Nat → Int32) × (Nat → Int32) × (Nat → Int32) × (Nat → Int32) × Int32) => match z with | (e_steps_21, e_undoing_22, e_chains_23, e_found_24, e_foundAt_25, e_foundCount_26) => some (.inl (e_steps_21, e_undoing_22, e_chains_23, e_found_24, e_foundAt_25, e_foundCount_26, (v1_7 + (1 : Int32)))))))
noncomputable def f_X1_closeSteps (e_steps : (Nat → Int32)) (e_undoing : (Nat → Int32)) (e_chains : (Nat → Int32)) (e_found : (Nat → Int32)) (e_foundAt : (Nat → Int32)) (e_foundCount : Int32) : Option ((Nat → Int32) × (Nat → Int32) × (Nat → Int32) × (Nat → Int32) × (Nat → Int32) × Int32) := xn (xL f_X1_closeSteps_L1 (e_steps, e_undoing, e_chains, e_found, e_foundAt, e_foundCount, (0 : Int32))) (fun (z : (Nat → Int32) × (Nat → Int32) × (Nat → Int32) × (Nat → Int32) × (Nat → Int32) × Int32) => match z with | (e_steps_8, e_undoing_9, e_chains_10, e_found_11, e_foundAt_12, e_foundCount_13) => some (e_steps_8, e_undoing_9, e_chains_10, e_found_11, e_foundAt_12, e_foundCount_13))
set_option maxHeartbeats 4000000 in
set_option maxRecDepth 100000 in
theorem c_X1_closeSteps (l : Launch) (dC : Nat → ClassId) (dI : Nat → Nat → Nat) (cI cZ cB cO : ClassId) (e_h : Nat) (e_p : Nat → Nat) (e_n : Int32) (e_steps : (Nat → Int32)) (e_undoing : (Nat → Int32)) (e_chains : (Nat → Int32)) (e_leaving : (Nat → Int32)) (e_found : (Nat → Int32)) (e_foundAt : (Nat → Int32)) (e_foundCount : Int32) (o : (Nat → Int32) × (Nat → Int32) × (Nat → Int32) × (Nat → Int32) × (Nat → Int32) × Int32) (h : f_X1_closeSteps e_steps e_undoing e_chains e_found e_foundAt e_foundCount = some o) (sz : Nat) : Met l yX1_closeSteps (xW yX1_closeSteps cX1_closeSteps 3 none) { frames := 3, cells := 0, slots := 0, locals := 69 } (xPre dC dI (xT cI cZ cB cO) [.ref e_h] (wE cI cZ cB cO e_h e_p e_n e_steps e_undoing e_chains e_leaving e_found e_foundAt e_foundCount) sz) (xQv dC dI (xT cI cZ cB cO) (wE cI cZ cB cO e_h e_p e_n e_steps e_undoing e_chains e_leaving e_found e_foundAt e_foundCount) (wE cI cZ cB cO e_h e_p e_n o.1 o.2.1 o.2.2.1 e_leaving o.2.2.2.1 o.2.2.2.2.1 o.2.2.2.2.2) sz) 0 0 (va_A (wE cI cZ cB cO e_h e_p e_n e_steps e_undoing e_chains e_leaving e_found e_foundAt e_foundCount) sz) := by
  refine x_met (by decide) (Nat.le_of_ble_eq_true rfl) ?_
  intro p e s m args below meth c R Q A hR hsz hA hQ hin C hw ls hl
  have hx := C.1
  have hb := C.2.1
  have hown := C.2.2.2.1
  have htb := C.2.2.2.2.1
  have hl : lv_has ls 3 [(0, .ref e_h)] := hl
  refine lv_iconst (v := (0 : Int32)) hx hb dX1_closeSteps_0 (by decide) ?_
  refine lv_istore_n (lv' := [(1, .int (0 : Int32)), (0, .ref e_h)]) hx hb dX1_closeSteps_1 rfl hl (by decide) rfl (fun ls hl => ?_)
  obtain ⟨z, hr, h⟩ := xn_i h
  refine xL_w (fun (z : (Nat → Int32) × (Nat → Int32) × (Nat → Int32) × (Nat → Int32) × (Nat → Int32) × Int32 × Int32) => ∀ (H : Heap) (locs : List Loc) (ls : Array Slot), xWd (dC, dI) A s.heap H locs (wE cI cZ cB cO e_h e_p e_n z.1 z.2.1 z.2.2.1 e_leaving z.2.2.2.1 z.2.2.2.2.1 z.2.2.2.2.2.1) → lv_has ls 3 [(0, .ref e_h), (1, .int z.2.2.2.2.2.2)] → W p l e R s m args below meth c H locs 0 0 Q (F0 m 2 ls [])) (fun (z : (Nat → Int32) × (Nat → Int32) × (Nat → Int32) × (Nat → Int32) × (Nat → Int32) × Int32) => ∀ (H : Heap) (locs : List Loc) (ls : Array Slot), xWd (dC, dI) A s.heap H locs (wE cI cZ cB cO e_h e_p e_n z.1 z.2.1 z.2.2.1 e_leaving z.2.2.2.1 z.2.2.2.2.1 z.2.2.2.2.2) → lv_has ls 3 [] → W p l e R s m args below meth c H locs 0 0 Q (F0 m 103 ls [])) ?_ hr ?_ _ _ _ hw (lv_sub hl [1, 0] rfl)
  · rintro ⟨e_steps_1, e_undoing_2, e_chains_3, e_found_4, e_foundAt_5, e_foundCount_6, v1_7⟩ o h k H locs ls hw hl
    have hw : xWd (dC, dI) A s.heap H locs (wE cI cZ cB cO e_h e_p e_n e_steps_1 e_undoing_2 e_chains_3 e_leaving e_found_4 e_foundAt_5 e_foundCount_6) := hw
    have hl : lv_has ls 3 [(0, .ref e_h), (1, .int v1_7)] := hl
    refine lv_iload_n hx hb dX1_closeSteps_2 rfl (lv_at hl 1 rfl) ?_
    refine lv_aload_n hx hb dX1_closeSteps_3 rfl (lv_at hl 0 rfl) ?_
    refine x_get (ci := 1) C hw inX1 rfl 7 (by decide) lkF_X1_34 rfl 0 rfl rfl dX1_closeSteps_4 ?_
    refine lv_icmp_ge (tgt := 103) hx hb dX1_closeSteps_7 (by decide) (fun b1 => ?_) (fun b1 => ?_)
    · replace h := xb_tt b1 h
      obtain rfl := Option.some.inj h
      exact k _ _ _ hw (lv_sub hl [] rfl)
    · replace h := xb_ff b1 h
      refine lv_iload_n hx hb dX1_closeSteps_10 rfl (lv_at hl 1 rfl) ?_
      refine lv_bipush (v := (28 : Int32)) hx hb dX1_closeSteps_11 (by decide) ?_
      refine lv_icmp_ge (tgt := 103) hx hb dX1_closeSteps_13 (by decide) (fun b2 => ?_) (fun b2 => ?_)
      · replace h := xb_tt b2 h
        obtain rfl := Option.some.inj h
        exact k _ _ _ hw (lv_sub hl [] rfl)
      · replace h := xb_ff b2 h
        refine lv_iconst (v := (0 : Int32)) hx hb dX1_closeSteps_16 (by decide) ?_
        refine lv_istore_n (lv' := [(2, .int (0 : Int32)), (0, .ref e_h), (1, .int v1_7)]) hx hb dX1_closeSteps_17 rfl hl (by decide) rfl (fun ls hl => ?_)
        obtain ⟨z, hr, h⟩ := xn_i h
        refine xL_w (fun (z : (Nat → Int32) × (Nat → Int32) × (Nat → Int32) × (Nat → Int32) × (Nat → Int32) × Int32 × Int32) => ∀ (H : Heap) (locs : List Loc) (ls : Array Slot), xWd (dC, dI) A s.heap H locs (wE cI cZ cB cO e_h e_p e_n z.1 z.2.1 z.2.2.1 e_leaving z.2.2.2.1 z.2.2.2.2.1 z.2.2.2.2.2.1) → lv_has ls 3 [(0, .ref e_h), (1, .int v1_7), (2, .int z.2.2.2.2.2.2)] → W p l e R s m args below meth c H locs 0 0 Q (F0 m 18 ls [])) (fun (z : (Nat → Int32) × (Nat → Int32) × (Nat → Int32) × (Nat → Int32) × (Nat → Int32) × Int32) => ∀ (H : Heap) (locs : List Loc) (ls : Array Slot), xWd (dC, dI) A s.heap H locs (wE cI cZ cB cO e_h e_p e_n z.1 z.2.1 z.2.2.1 e_leaving z.2.2.2.1 z.2.2.2.2.1 z.2.2.2.2.2) → lv_has ls 3 [(0, .ref e_h), (1, .int v1_7)] → W p l e R s m args below meth c H locs 0 0 Q (F0 m 97 ls [])) ?_ hr ?_ _ _ _ hw (lv_sub hl [1, 2, 0] rfl)
        · rintro ⟨e_steps_14, e_undoing_15, e_chains_16, e_found_17, e_foundAt_18, e_foundCount_19, v2_20⟩ o h k H locs ls hw hl
          have hw : xWd (dC, dI) A s.heap H locs (wE cI cZ cB cO e_h e_p e_n e_steps_14 e_undoing_15 e_chains_16 e_leaving e_found_17 e_foundAt_18 e_foundCount_19) := hw
          have hl : lv_has ls 3 [(0, .ref e_h), (1, .int v1_7), (2, .int v2_20)] := hl
          refine lv_iload_n hx hb dX1_closeSteps_18 rfl (lv_at hl 2 rfl) ?_
          refine lv_iload_n hx hb dX1_closeSteps_19 rfl (lv_at hl 1 rfl) ?_
          refine lv_icmp_gt (tgt := 97) hx hb dX1_closeSteps_20 (by decide) (fun b3 => ?_) (fun b3 => ?_)
          · replace h := xb_tt b3 h
            obtain rfl := Option.some.inj h
            exact k _ _ _ hw (lv_sub hl [0, 1] rfl)
          · replace h := xb_ff b3 h
            refine lv_aload_n hx hb dX1_closeSteps_23 rfl (lv_at hl 0 rfl) ?_
            refine x_get (ci := 1) C hw inX1 rfl 6 (by decide) lkF_X1_31 rfl 0 rfl rfl dX1_closeSteps_24 ?_
            refine lv_iload_n hx hb dX1_closeSteps_27 rfl (lv_at hl 2 rfl) ?_
            obtain ⟨b4, h⟩ := xk_i h
            refine x_iald C hw 6 0 rfl rfl b4 dX1_closeSteps_28 ?_
            refine lv_aload_n hx hb dX1_closeSteps_29 rfl (lv_at hl 0 rfl) ?_
            refine x_get (ci := 1) C hw inX1 rfl 6 (by decide) lkF_X1_31 rfl 0 rfl rfl dX1_closeSteps_30 ?_
            refine lv_iload_n hx hb dX1_closeSteps_33 rfl (lv_at hl 1 rfl) ?_
            obtain ⟨b5, h⟩ := xk_i h
            refine x_iald C hw 6 0 rfl rfl b5 dX1_closeSteps_34 ?_
            obtain ⟨z, hj, h⟩ := xn_i h
            have k : ∀ (H : Heap) (locs : List Loc) (ls : Array Slot), xWd (dC, dI) A s.heap H locs (wE cI cZ cB cO e_h e_p e_n z.1 z.2.1 z.2.2.1 e_leaving z.2.2.2.1 z.2.2.2.2.1 z.2.2.2.2.2) → lv_has ls 3 [(0, .ref e_h), (1, .int v1_7), (2, .int v2_20)] → W p l e R s m args below meth c H locs 0 0 Q (F0 m 57 ls []) := by
              obtain ⟨e_steps_27, e_undoing_28, e_chains_29, e_found_30, e_foundAt_31, e_foundCount_32⟩ := z
              intro H locs ls hw hl
              have hw : xWd (dC, dI) A s.heap H locs (wE cI cZ cB cO e_h e_p e_n e_steps_27 e_undoing_28 e_chains_29 e_leaving e_found_30 e_foundAt_31 e_foundCount_32) := hw
              have hl : lv_has ls 3 [(0, .ref e_h), (1, .int v1_7), (2, .int v2_20)] := hl
              show W p l e R s m args below meth c H locs 0 0 Q (F0 m 57 ls [])
              refine lv_aload_n hx hb dX1_closeSteps_57 rfl (lv_at hl 0 rfl) ?_
              refine x_get (ci := 1) C hw inX1 rfl 6 (by decide) lkF_X1_31 rfl 0 rfl rfl dX1_closeSteps_58 ?_
              refine lv_iload_n hx hb dX1_closeSteps_61 rfl (lv_at hl 1 rfl) ?_
              refine x_iald C hw 6 0 rfl rfl b5 dX1_closeSteps_62 ?_
              refine lv_aload_n hx hb dX1_closeSteps_63 rfl (lv_at hl 0 rfl) ?_
              refine x_get (ci := 1) C hw inX1 rfl 6 (by decide) lkF_X1_31 rfl 0 rfl rfl dX1_closeSteps_64 ?_
              refine lv_iload_n hx hb dX1_closeSteps_67 rfl (lv_at hl 2 rfl) ?_
              refine x_iald C hw 6 0 rfl rfl b4 dX1_closeSteps_68 ?_
              refine lv_icmp_gt (tgt := 91) hx hb dX1_closeSteps_69 (by decide) (fun b9 => ?_) (fun b9 => ?_)
              · replace h := xb_tt b9 h
                refine lv_iinc (v := (v2_20 + (1 : Int32))) (lv' := [(2, .int (v2_20 + (1 : Int32))), (0, .ref e_h), (1, .int v1_7)]) hx hb dX1_closeSteps_91 hl (k := 2) rfl (congrArg (fun q => v2_20 + q) (by decide)) (by decide) rfl (fun ls hl => ?_)
                refine lv_goto (tgt := 18) hx hb dX1_closeSteps_94 (by decide) ?_
                obtain rfl := Option.some.inj h
                exact k _ _ _ hw (lv_sub hl [1, 2, 0] rfl)
              · replace h := xb_ff b9 h
                refine lv_aload_n hx hb dX1_closeSteps_72 rfl (lv_at hl 0 rfl) ?_
                refine lv_aload_n hx hb dX1_closeSteps_73 rfl (lv_at hl 0 rfl) ?_
                refine x_get (ci := 1) C hw inX1 rfl 5 (by decide) lkF_X1_28 rfl 0 rfl rfl dX1_closeSteps_74 ?_
                refine lv_iload_n hx hb dX1_closeSteps_77 rfl (lv_at hl 1 rfl) ?_
                refine x_iald C hw 5 0 rfl rfl b5 dX1_closeSteps_78 ?_
                refine lv_aload_n hx hb dX1_closeSteps_79 rfl (lv_at hl 0 rfl) ?_
                refine x_get (ci := 1) C hw inX1 rfl 5 (by decide) lkF_X1_28 rfl 0 rfl rfl dX1_closeSteps_80 ?_
                refine lv_iload_n hx hb dX1_closeSteps_83 rfl (lv_at hl 2 rfl) ?_
                refine x_iald C hw 5 0 rfl rfl b4 dX1_closeSteps_84 ?_
                obtain ⟨r_40, q10, h⟩ := xn_i h
                refine x_callSi (As := [.int (e_found_30 v1_7.toNatClampNeg), .int (e_found_30 v2_20.toNatClampNeg)]) (rest := [.ref e_h]) C hw gc_X1_70 ds_X2_then (by rw [hR]; exact Nat.le_of_ble_eq_true rfl) (by rw [hR]; exact Nat.le_of_ble_eq_true rfl) rfl rfl (Nat.zero_le _) (Nat.zero_le _) (c_X2_then l dC dI cI cZ cB cO (e_found_30 v1_7.toNatClampNeg) (e_found_30 v2_20.toNatClampNeg) _ q10 _) [] [0, 1, 2, 3, 4, 5, 6] (by decide) rfl rfl (by decide) (by decide) rfl hl.1 rfl (Nat.le_of_ble_eq_true rfl) dX1_closeSteps_85 (fun H locs hw => ?_)
                have hw : xWd (dC, dI) A s.heap H locs (wE cI cZ cB cO e_h e_p e_n e_steps_27 e_undoing_28 e_chains_29 e_leaving e_found_30 e_foundAt_31 e_foundCount_32) := hw.sub [0, 1, 2, 3, 4, 5, 6] (by decide) rfl
                obtain ⟨⟨e_steps_41, e_undoing_42, e_chains_43, e_found_44, e_foundAt_45, e_foundCount_46⟩, q11, h⟩ := xn_i h
                refine x_callVv (As := [.int r_40]) (rest := []) C hw gc_X1_50 ⟨rfl, rfl, ds_X1_take, (by rw [hR]; exact Nat.le_of_ble_eq_true rfl), (by rw [hR]; exact Nat.le_of_ble_eq_true rfl), Nat.zero_le _, Nat.zero_le _⟩ (c_X1_take l dC dI cI cZ cB cO e_h e_p e_n e_steps_27 e_undoing_28 e_chains_29 e_leaving e_found_30 e_foundAt_31 e_foundCount_32 r_40 _ q11 _) [0, 1, 2, 3, 4, 5, 6] [] (by decide) rfl rfl (by decide) (by decide) rfl rfl rfl hl.1 rfl (Nat.le_of_ble_eq_true rfl) dX1_closeSteps_88 (fun H locs hw => ?_)
                have hw : xWd (dC, dI) A s.heap H locs (wE cI cZ cB cO e_h e_p e_n e_steps_41 e_undoing_42 e_chains_43 e_leaving e_found_44 e_foundAt_45 e_foundCount_46) := hw
                refine lv_iinc (v := (v2_20 + (1 : Int32))) (lv' := [(2, .int (v2_20 + (1 : Int32))), (0, .ref e_h), (1, .int v1_7)]) hx hb dX1_closeSteps_91 hl (k := 2) rfl (congrArg (fun q => v2_20 + q) (by decide)) (by decide) rfl (fun ls hl => ?_)
                refine lv_goto (tgt := 18) hx hb dX1_closeSteps_94 (by decide) ?_
                obtain rfl := Option.some.inj h
                exact k _ _ _ hw (lv_sub hl [1, 2, 0] rfl)
            clear h
            have h := hj
            clear hj
            refine lv_icmp_gt (tgt := 57) hx hb dX1_closeSteps_35 (by decide) (fun b6 => ?_) (fun b6 => ?_)
            · replace h := xb_tt b6 h
              obtain rfl := Option.some.inj h
              exact k _ _ _ hw (lv_sub hl [0, 1, 2] rfl)
            · replace h := xb_ff b6 h
              refine lv_aload_n hx hb dX1_closeSteps_38 rfl (lv_at hl 0 rfl) ?_
              refine lv_aload_n hx hb dX1_closeSteps_39 rfl (lv_at hl 0 rfl) ?_
              refine x_get (ci := 1) C hw inX1 rfl 5 (by decide) lkF_X1_28 rfl 0 rfl rfl dX1_closeSteps_40 ?_
              refine lv_iload_n hx hb dX1_closeSteps_43 rfl (lv_at hl 2 rfl) ?_
              refine x_iald C hw 5 0 rfl rfl b4 dX1_closeSteps_44 ?_
              refine lv_aload_n hx hb dX1_closeSteps_45 rfl (lv_at hl 0 rfl) ?_
              refine x_get (ci := 1) C hw inX1 rfl 5 (by decide) lkF_X1_28 rfl 0 rfl rfl dX1_closeSteps_46 ?_
              refine lv_iload_n hx hb dX1_closeSteps_49 rfl (lv_at hl 1 rfl) ?_
              refine x_iald C hw 5 0 rfl rfl b5 dX1_closeSteps_50 ?_
              obtain ⟨r_33, q7, h⟩ := xn_i h
              refine x_callSi (As := [.int (e_found_17 v2_20.toNatClampNeg), .int (e_found_17 v1_7.toNatClampNeg)]) (rest := [.ref e_h]) C hw gc_X1_70 ds_X2_then (by rw [hR]; exact Nat.le_of_ble_eq_true rfl) (by rw [hR]; exact Nat.le_of_ble_eq_true rfl) rfl rfl (Nat.zero_le _) (Nat.zero_le _) (c_X2_then l dC dI cI cZ cB cO (e_found_17 v2_20.toNatClampNeg) (e_found_17 v1_7.toNatClampNeg) _ q7 _) [] [0, 1, 2, 3, 4, 5, 6] (by decide) rfl rfl (by decide) (by decide) rfl hl.1 rfl (Nat.le_of_ble_eq_true rfl) dX1_closeSteps_51 (fun H locs hw => ?_)
              have hw : xWd (dC, dI) A s.heap H locs (wE cI cZ cB cO e_h e_p e_n e_steps_14 e_undoing_15 e_chains_16 e_leaving e_found_17 e_foundAt_18 e_foundCount_19) := hw.sub [0, 1, 2, 3, 4, 5, 6] (by decide) rfl
              obtain ⟨⟨e_steps_34, e_undoing_35, e_chains_36, e_found_37, e_foundAt_38, e_foundCount_39⟩, q8, h⟩ := xn_i h
              refine x_callVv (As := [.int r_33]) (rest := []) C hw gc_X1_50 ⟨rfl, rfl, ds_X1_take, (by rw [hR]; exact Nat.le_of_ble_eq_true rfl), (by rw [hR]; exact Nat.le_of_ble_eq_true rfl), Nat.zero_le _, Nat.zero_le _⟩ (c_X1_take l dC dI cI cZ cB cO e_h e_p e_n e_steps_14 e_undoing_15 e_chains_16 e_leaving e_found_17 e_foundAt_18 e_foundCount_19 r_33 _ q8 _) [0, 1, 2, 3, 4, 5, 6] [] (by decide) rfl rfl (by decide) (by decide) rfl rfl rfl hl.1 rfl (Nat.le_of_ble_eq_true rfl) dX1_closeSteps_54 (fun H locs hw => ?_)
              have hw : xWd (dC, dI) A s.heap H locs (wE cI cZ cB cO e_h e_p e_n e_steps_34 e_undoing_35 e_chains_36 e_leaving e_found_37 e_foundAt_38 e_foundCount_39) := hw
              obtain rfl := Option.some.inj h
              exact k _ _ _ hw (lv_sub hl [0, 1, 2] rfl)
        · obtain ⟨e_steps_21, e_undoing_22, e_chains_23, e_found_24, e_foundAt_25, e_foundCount_26⟩ := z
          intro H locs ls hw hl
          have hw : xWd (dC, dI) A s.heap H locs (wE cI cZ cB cO e_h e_p e_n e_steps_21 e_undoing_22 e_chains_23 e_leaving e_found_24 e_foundAt_25 e_foundCount_26) := hw
          have hl : lv_has ls 3 [(0, .ref e_h), (1, .int v1_7)] := hl
          refine lv_iinc (v := (v1_7 + (1 : Int32))) (lv' := [(1, .int (v1_7 + (1 : Int32))), (0, .ref e_h)]) hx hb dX1_closeSteps_97 hl (k := 1) rfl (congrArg (fun q => v1_7 + q) (by decide)) (by decide) rfl (fun ls hl => ?_)
          refine lv_goto (tgt := 2) hx hb dX1_closeSteps_100 (by decide) ?_
          obtain rfl := Option.some.inj h
          exact k _ _ _ hw (lv_sub hl [1, 0] rfl)
  · obtain ⟨e_steps_8, e_undoing_9, e_chains_10, e_found_11, e_foundAt_12, e_foundCount_13⟩ := z
    intro H locs ls hw hl
    have hw : xWd (dC, dI) A s.heap H locs (wE cI cZ cB cO e_h e_p e_n e_steps_8 e_undoing_9 e_chains_10 e_leaving e_found_11 e_foundAt_12 e_foundCount_13) := hw
    have hl : lv_has ls 3 [] := hl
    obtain rfl := Option.some.inj h
    exact x_retv C hQ hA hw dX1_closeSteps_103
noncomputable def f_X1_make_L3 (e_chains_28 : (Nat → Int32)) (z : (Nat → Int32) × Int32) : Option (((Nat → Int32) × Int32) ⊕ ((Nat → Int32))) := match z with
  | (e_leaving_32, v2_33) => xb (v2_33 < 0) (some (.inr e_leaving_32)) (xk (vp_in (v2_33 + (1 : Int32)) 9) (xk (vp_in v2_33 8) (xn (f_J6_bitCount_0f7a4 (e_chains_28 v2_33.toNatClampNeg)) (fun (r_35 : Int32) => xk (vp_in v2_33 9) (some (.inl ((upd e_leaving_32 v2_33.toNatClampNeg ((e_leaving_32 (v2_33 + (1 : Int32)).toNatClampNeg) * r_35)), (v2_33 + (-1 : Int32)))))))))
noncomputable def f_X1_make_L2 (s_count : Int32) (s_generators : (Nat → Int32)) (z : (Nat → Int32) × (Nat → Int32) × (Nat → Int32) × (Nat → Int32) × (Nat → Int32) × Int32 × Int32) : Option (((Nat → Int32) × (Nat → Int32) × (Nat → Int32) × (Nat → Int32) × (Nat → Int32) × Int32 × Int32) ⊕ ((Nat → Int32) × (Nat → Int32) × (Nat → Int32) × (Nat → Int32) × (Nat → Int32) × Int32)) := match z with
  | (e_steps_6, e_undoing_7, e_chains_8, e_found_9, e_foundAt_10, e_foundCount_11, v2_12) => xb (s_count ≤ v2_12) (some (.inr (e_steps_6, e_undoing_7, e_chains_8, e_found_9, e_foundAt_10, e_foundCount_11))) (xn (f_X4_generator s_count s_generators v2_12) (fun (r_19 : Int32) => xn (f_X1_take e_steps_6 e_undoing_7 e_chains_8 e_found_9 e_foundAt_10 e_foundCount_11 r_19) (fun (z : (Nat → Int32) × (Nat → Int32) × (Nat → Int32) × (Nat → Int32) × (Nat → Int32) × Int32) => match z with | (e_steps_20, e_undoing_21, e_chains_22, e_found_23, e_foundAt_24, e_foundCount_25) => some (.inl (e_steps_20, e_undoing_21, e_chains_22, e_found_23, e_foundAt_24, e_foundCount_25, (v2_12 + (1 : Int32)))))))
noncomputable def f_X1_make_L1  (z : (Nat → Int32) × (Nat → Int32) × Int32) : Option (((Nat → Int32) × (Nat → Int32) × Int32) ⊕ ((Nat → Int32) × (Nat → Int32))) := match z with
  | (e_steps_1, e_chains_2, v2_3) => xb ((8 : Int32) ≤ v2_3) (some (.inr (e_steps_1, e_chains_2))) (xk (vp_in v2_3 8) (xk (vp_in (((8 : Int32) * v2_3) + v2_3) 64) (some (.inl ((upd e_steps_1 (((8 : Int32) * v2_3) + v2_3).toNatClampNeg (16434824 : Int32)), (upd e_chains_2 v2_3.toNatClampNeg ((1 : Int32) <<< (v2_3 &&& 31))), (v2_3 + (1 : Int32)))))))
noncomputable def f_X1_make (e_n : Int32) (e_steps : (Nat → Int32)) (e_undoing : (Nat → Int32)) (e_chains : (Nat → Int32)) (e_leaving : (Nat → Int32)) (e_found : (Nat → Int32)) (e_foundAt : (Nat → Int32)) (e_foundCount : Int32) (s_n : Int32) (s_count : Int32) (s_generators : (Nat → Int32)) : Option (Int32 × (Nat → Int32) × (Nat → Int32) × (Nat → Int32) × (Nat → Int32) × (Nat → Int32) × (Nat → Int32) × Int32) := xn (xL f_X1_make_L1 (e_steps, e_chains, (0 : Int32))) (fun (z : (Nat → Int32) × (Nat → Int32)) => match z with | (e_steps_4, e_chains_5) => xn (xL (f_X1_make_L2 s_count s_generators) (e_steps_4, e_undoing, e_chains_5, e_found, e_foundAt, (0 : Int32), (0 : Int32))) (fun (z : (Nat → Int32) × (Nat → Int32) × (Nat → Int32) × (Nat → Int32) × (Nat → Int32) × Int32) => match z with | (e_steps_13, e_undoing_14, e_chains_15, e_found_16, e_foundAt_17, e_foundCount_18) => xn (f_X1_closeSteps e_steps_13 e_undoing_14 e_chains_15 e_found_16 e_foundAt_17 e_foundCount_18) (fun (z : (Nat → Int32) × (Nat → Int32) × (Nat → Int32) × (Nat → Int32) × (Nat → Int32) × Int32) => match z with | (e_steps_26, e_undoing_27, e_chains_28, e_found_29, e_foundAt_30, e_foundCount_31) => xn (xL (f_X1_make_L3 e_chains_28) ((upd e_leaving 8 (1 : Int32)), (7 : Int32))) (fun (e_leaving_34 : (Nat → Int32)) => some (s_n, e_steps_26, e_undoing_27, e_chains_28, e_leaving_34, e_found_29, e_foundAt_30, e_foundCount_31)))))
set_option maxHeartbeats 4000000 in
set_option maxRecDepth 100000 in
theorem c_X1_make (l : Launch) (dC : Nat → ClassId) (dI : Nat → Nat → Nat) (cI cZ cB cO : ClassId) (e_h : Nat) (e_p : Nat → Nat) (s_h : Nat) (s_p : Nat → Nat) (e_n : Int32) (e_steps : (Nat → Int32)) (e_undoing : (Nat → Int32)) (e_chains : (Nat → Int32)) (e_leaving : (Nat → Int32)) (e_found : (Nat → Int32)) (e_foundAt : (Nat → Int32)) (e_foundCount : Int32) (s_n : Int32) (s_count : Int32) (s_generators : (Nat → Int32)) (o : Int32 × (Nat → Int32) × (Nat → Int32) × (Nat → Int32) × (Nat → Int32) × (Nat → Int32) × (Nat → Int32) × Int32) (h : f_X1_make e_n e_steps e_undoing e_chains e_leaving e_found e_foundAt e_foundCount s_n s_count s_generators = some o) (sz : Nat) : Met l yX1_make (xW yX1_make cX1_make 3 none) { frames := 4, cells := 0, slots := 0, locals := 91 } (xPre dC dI (xT cI cZ cB cO) [.ref e_h, .ref s_h] ((wE cI cZ cB cO e_h e_p e_n e_steps e_undoing e_chains e_leaving e_found e_foundAt e_foundCount) ++ (wS cI cZ cB cO s_h s_p s_n s_count s_generators)) sz) (xQv dC dI (xT cI cZ cB cO) ((wE cI cZ cB cO e_h e_p e_n e_steps e_undoing e_chains e_leaving e_found e_foundAt e_foundCount) ++ (wS cI cZ cB cO s_h s_p s_n s_count s_generators)) ((wE cI cZ cB cO e_h e_p o.1 o.2.1 o.2.2.1 o.2.2.2.1 o.2.2.2.2.1 o.2.2.2.2.2.1 o.2.2.2.2.2.2.1 o.2.2.2.2.2.2.2) ++ (wS cI cZ cB cO s_h s_p s_n s_count s_generators)) sz) 0 0 (va_A ((wE cI cZ cB cO e_h e_p e_n e_steps e_undoing e_chains e_leaving e_found e_foundAt e_foundCount) ++ (wS cI cZ cB cO s_h s_p s_n s_count s_generators)) sz) := by
  refine x_met (by decide) (Nat.le_of_ble_eq_true rfl) ?_
  intro p e s m args below meth c R Q A hR hsz hA hQ hin C hw ls hl
  have hx := C.1
  have hb := C.2.1
  have hown := C.2.2.2.1
  have htb := C.2.2.2.2.1
  have hl : lv_has ls 3 [(0, .ref e_h), (1, .ref s_h)] := hl
  refine lv_aload_n hx hb dX1_make_0 rfl (lv_at hl 0 rfl) ?_
  refine lv_aload_n hx hb dX1_make_1 rfl (lv_at hl 1 rfl) ?_
  refine x_get (ci := 3) C hw inX4 rfl 0 (by decide) lkF_X1_37 rfl 7 rfl rfl dX1_make_2 ?_
  refine x_put (ci := 1) C hw inX1 tyX1 tyX1_ok nmX1 rfl 0 (by decide) lkF_X1_9 rfl rfl 0 rfl rfl rfl (Nat.le_of_ble_eq_true rfl) dX1_make_5 (fun H locs hw => ?_)
  have hw : xWd (dC, dI) A s.heap H locs ((wE cI cZ cB cO e_h e_p s_n e_steps e_undoing e_chains e_leaving e_found e_foundAt e_foundCount) ++ (wS cI cZ cB cO s_h s_p s_n s_count s_generators)) := hw
  refine lv_aload_n hx hb dX1_make_8 rfl (lv_at hl 0 rfl) ?_
  refine lv_iconst (v := (0 : Int32)) hx hb dX1_make_9 (by decide) ?_
  refine x_put (ci := 1) C hw inX1 tyX1 tyX1_ok nmX1 rfl 7 (by decide) lkF_X1_34 rfl rfl 0 rfl rfl rfl (Nat.le_of_ble_eq_true rfl) dX1_make_10 (fun H locs hw => ?_)
  have hw : xWd (dC, dI) A s.heap H locs ((wE cI cZ cB cO e_h e_p s_n e_steps e_undoing e_chains e_leaving e_found e_foundAt (0 : Int32)) ++ (wS cI cZ cB cO s_h s_p s_n s_count s_generators)) := hw
  refine lv_iconst (v := (0 : Int32)) hx hb dX1_make_13 (by decide) ?_
  refine lv_istore_n (lv' := [(2, .int (0 : Int32)), (0, .ref e_h), (1, .ref s_h)]) hx hb dX1_make_14 rfl hl (by decide) rfl (fun ls hl => ?_)
  obtain ⟨z, hr, h⟩ := xn_i h
  refine xL_w (fun (z : (Nat → Int32) × (Nat → Int32) × Int32) => ∀ (H : Heap) (locs : List Loc) (ls : Array Slot), xWd (dC, dI) A s.heap H locs ((wE cI cZ cB cO e_h e_p s_n z.1 e_undoing z.2.1 e_leaving e_found e_foundAt (0 : Int32)) ++ (wS cI cZ cB cO s_h s_p s_n s_count s_generators)) → lv_has ls 3 [(0, .ref e_h), (1, .ref s_h), (2, .int z.2.2)] → W p l e R s m args below meth c H locs 0 0 Q (F0 m 15 ls [])) (fun (z : (Nat → Int32) × (Nat → Int32)) => ∀ (H : Heap) (locs : List Loc) (ls : Array Slot), xWd (dC, dI) A s.heap H locs ((wE cI cZ cB cO e_h e_p s_n z.1 e_undoing z.2 e_leaving e_found e_foundAt (0 : Int32)) ++ (wS cI cZ cB cO s_h s_p s_n s_count s_generators)) → lv_has ls 3 [(0, .ref e_h), (1, .ref s_h)] → W p l e R s m args below meth c H locs 0 0 Q (F0 m 49 ls [])) ?_ hr ?_ _ _ _ hw (lv_sub hl [1, 2, 0] rfl)
  · rintro ⟨e_steps_1, e_chains_2, v2_3⟩ o h k H locs ls hw hl
    have hw : xWd (dC, dI) A s.heap H locs ((wE cI cZ cB cO e_h e_p s_n e_steps_1 e_undoing e_chains_2 e_leaving e_found e_foundAt (0 : Int32)) ++ (wS cI cZ cB cO s_h s_p s_n s_count s_generators)) := hw
    have hl : lv_has ls 3 [(0, .ref e_h), (1, .ref s_h), (2, .int v2_3)] := hl
    refine lv_iload_n hx hb dX1_make_15 rfl (lv_at hl 2 rfl) ?_
    refine lv_bipush (v := (8 : Int32)) hx hb dX1_make_16 (by decide) ?_
    refine lv_icmp_ge (tgt := 49) hx hb dX1_make_18 (by decide) (fun b1 => ?_) (fun b1 => ?_)
    · replace h := xb_tt b1 h
      obtain rfl := Option.some.inj h
      exact k _ _ _ hw (lv_sub hl [0, 1] rfl)
    · replace h := xb_ff b1 h
      refine lv_aload_n hx hb dX1_make_21 rfl (lv_at hl 0 rfl) ?_
      refine x_get (ci := 1) C hw inX1 rfl 3 (by decide) lkF_X1_22 rfl 0 rfl rfl dX1_make_22 ?_
      refine lv_iload_n hx hb dX1_make_25 rfl (lv_at hl 2 rfl) ?_
      refine lv_iconst (v := (1 : Int32)) hx hb dX1_make_26 (by decide) ?_
      refine lv_iload_n hx hb dX1_make_27 rfl (lv_at hl 2 rfl) ?_
      refine lv_ishl hx hb dX1_make_28 ?_
      obtain ⟨b2, h⟩ := xk_i h
      refine x_iast C hw 3 0 rfl rfl b2 dX1_make_29 (fun H locs hw => ?_)
      have hw : xWd (dC, dI) A s.heap H locs ((wE cI cZ cB cO e_h e_p s_n e_steps_1 e_undoing (upd e_chains_2 v2_3.toNatClampNeg ((1 : Int32) <<< (v2_3 &&& 31))) e_leaving e_found e_foundAt (0 : Int32)) ++ (wS cI cZ cB cO s_h s_p s_n s_count s_generators)) := hw
      refine lv_aload_n hx hb dX1_make_30 rfl (lv_at hl 0 rfl) ?_
      refine x_get (ci := 1) C hw inX1 rfl 1 (by decide) lkF_X1_15 rfl 0 rfl rfl dX1_make_31 ?_
      refine lv_bipush (v := (8 : Int32)) hx hb dX1_make_34 (by decide) ?_
      refine lv_iload_n hx hb dX1_make_36 rfl (lv_at hl 2 rfl) ?_
      refine lv_imul hx hb dX1_make_37 ?_
      refine lv_iload_n hx hb dX1_make_38 rfl (lv_at hl 2 rfl) ?_
      refine lv_iadd hx hb dX1_make_39 ?_
      refine lv_ldc hx hb hown (htb _ kI_X1_42) dX1_make_40 ?_
      obtain ⟨b3, h⟩ := xk_i h
      refine x_iast C hw 1 0 rfl rfl b3 dX1_make_42 (fun H locs hw => ?_)
      have hw : xWd (dC, dI) A s.heap H locs ((wE cI cZ cB cO e_h e_p s_n (upd e_steps_1 (((8 : Int32) * v2_3) + v2_3).toNatClampNeg (16434824 : Int32)) e_undoing (upd e_chains_2 v2_3.toNatClampNeg ((1 : Int32) <<< (v2_3 &&& 31))) e_leaving e_found e_foundAt (0 : Int32)) ++ (wS cI cZ cB cO s_h s_p s_n s_count s_generators)) := hw
      refine lv_iinc (v := (v2_3 + (1 : Int32))) (lv' := [(2, .int (v2_3 + (1 : Int32))), (0, .ref e_h), (1, .ref s_h)]) hx hb dX1_make_43 hl (k := 2) rfl (congrArg (fun q => v2_3 + q) (by decide)) (by decide) rfl (fun ls hl => ?_)
      refine lv_goto (tgt := 15) hx hb dX1_make_46 (by decide) ?_
      obtain rfl := Option.some.inj h
      exact k _ _ _ hw (lv_sub hl [1, 2, 0] rfl)
  · obtain ⟨e_steps_4, e_chains_5⟩ := z
    intro H locs ls hw hl
    have hw : xWd (dC, dI) A s.heap H locs ((wE cI cZ cB cO e_h e_p s_n e_steps_4 e_undoing e_chains_5 e_leaving e_found e_foundAt (0 : Int32)) ++ (wS cI cZ cB cO s_h s_p s_n s_count s_generators)) := hw
    have hl : lv_has ls 3 [(0, .ref e_h), (1, .ref s_h)] := hl
    refine lv_iconst (v := (0 : Int32)) hx hb dX1_make_49 (by decide) ?_
    refine lv_istore_n (lv' := [(2, .int (0 : Int32)), (0, .ref e_h), (1, .ref s_h)]) hx hb dX1_make_50 rfl hl (by decide) rfl (fun ls hl => ?_)
    obtain ⟨z, hr, h⟩ := xn_i h
    refine xL_w (fun (z : (Nat → Int32) × (Nat → Int32) × (Nat → Int32) × (Nat → Int32) × (Nat → Int32) × Int32 × Int32) => ∀ (H : Heap) (locs : List Loc) (ls : Array Slot), xWd (dC, dI) A s.heap H locs ((wE cI cZ cB cO e_h e_p s_n z.1 z.2.1 z.2.2.1 e_leaving z.2.2.2.1 z.2.2.2.2.1 z.2.2.2.2.2.1) ++ (wS cI cZ cB cO s_h s_p s_n s_count s_generators)) → lv_has ls 3 [(0, .ref e_h), (1, .ref s_h), (2, .int z.2.2.2.2.2.2)] → W p l e R s m args below meth c H locs 0 0 Q (F0 m 51 ls [])) (fun (z : (Nat → Int32) × (Nat → Int32) × (Nat → Int32) × (Nat → Int32) × (Nat → Int32) × Int32) => ∀ (H : Heap) (locs : List Loc) (ls : Array Slot), xWd (dC, dI) A s.heap H locs ((wE cI cZ cB cO e_h e_p s_n z.1 z.2.1 z.2.2.1 e_leaving z.2.2.2.1 z.2.2.2.2.1 z.2.2.2.2.2) ++ (wS cI cZ cB cO s_h s_p s_n s_count s_generators)) → lv_has ls 3 [(0, .ref e_h)] → W p l e R s m args below meth c H locs 0 0 Q (F0 m 74 ls [])) ?_ hr ?_ _ _ _ hw (lv_sub hl [1, 2, 0] rfl)
    · rintro ⟨e_steps_6, e_undoing_7, e_chains_8, e_found_9, e_foundAt_10, e_foundCount_11, v2_12⟩ o h k H locs ls hw hl
      have hw : xWd (dC, dI) A s.heap H locs ((wE cI cZ cB cO e_h e_p s_n e_steps_6 e_undoing_7 e_chains_8 e_leaving e_found_9 e_foundAt_10 e_foundCount_11) ++ (wS cI cZ cB cO s_h s_p s_n s_count s_generators)) := hw
      have hl : lv_has ls 3 [(0, .ref e_h), (1, .ref s_h), (2, .int v2_12)] := hl
      refine lv_iload_n hx hb dX1_make_51 rfl (lv_at hl 2 rfl) ?_
      refine lv_aload_n hx hb dX1_make_52 rfl (lv_at hl 1 rfl) ?_
      refine x_get (ci := 3) C hw inX4 rfl 1 (by decide) lkF_X1_43 rfl 7 rfl rfl dX1_make_53 ?_
      refine lv_icmp_ge (tgt := 74) hx hb dX1_make_56 (by decide) (fun b4 => ?_) (fun b4 => ?_)
      · replace h := xb_tt b4 h
        obtain rfl := Option.some.inj h
        exact k _ _ _ hw (lv_sub hl [0] rfl)
      · replace h := xb_ff b4 h
        refine lv_aload_n hx hb dX1_make_59 rfl (lv_at hl 0 rfl) ?_
        refine lv_aload_n hx hb dX1_make_60 rfl (lv_at hl 1 rfl) ?_
        refine lv_iload_n hx hb dX1_make_61 rfl (lv_at hl 2 rfl) ?_
        obtain ⟨r_19, q5, h⟩ := xn_i h
        refine x_callVi (As := [.int v2_12]) (rest := [.ref e_h]) C hw gc_X1_46 ⟨rfl, rfl, ds_X4_generator, (by rw [hR]; exact Nat.le_of_ble_eq_true rfl), (by rw [hR]; exact Nat.le_of_ble_eq_true rfl), Nat.zero_le _, Nat.zero_le _⟩ (c_X4_generator l dC dI cI cZ cB cO s_h s_p s_n s_count s_generators v2_12 _ q5 _) [7, 8] [0, 1, 2, 3, 4, 5, 6] (by decide) rfl rfl (by decide) (by decide) rfl rfl rfl hl.1 rfl (Nat.le_of_ble_eq_true rfl) dX1_make_62 (fun H locs hw => ?_)
        have hw : xWd (dC, dI) A s.heap H locs ((wE cI cZ cB cO e_h e_p s_n e_steps_6 e_undoing_7 e_chains_8 e_leaving e_found_9 e_foundAt_10 e_foundCount_11) ++ (wS cI cZ cB cO s_h s_p s_n s_count s_generators)) := hw
        obtain ⟨⟨e_steps_20, e_undoing_21, e_chains_22, e_found_23, e_foundAt_24, e_foundCount_25⟩, q6, h⟩ := xn_i h
        refine x_callVv (As := [.int r_19]) (rest := []) C hw gc_X1_50 ⟨rfl, rfl, ds_X1_take, (by rw [hR]; exact Nat.le_of_ble_eq_true rfl), (by rw [hR]; exact Nat.le_of_ble_eq_true rfl), Nat.zero_le _, Nat.zero_le _⟩ (c_X1_take l dC dI cI cZ cB cO e_h e_p s_n e_steps_6 e_undoing_7 e_chains_8 e_leaving e_found_9 e_foundAt_10 e_foundCount_11 r_19 _ q6 _) [0, 1, 2, 3, 4, 5, 6] [7, 8] (by decide) rfl rfl (by decide) (by decide) rfl rfl rfl hl.1 rfl (Nat.le_of_ble_eq_true rfl) dX1_make_65 (fun H locs hw => ?_)
        have hw : xWd (dC, dI) A s.heap H locs ((wE cI cZ cB cO e_h e_p s_n e_steps_20 e_undoing_21 e_chains_22 e_leaving e_found_23 e_foundAt_24 e_foundCount_25) ++ (wS cI cZ cB cO s_h s_p s_n s_count s_generators)) := hw.sub [2, 3, 4, 5, 6, 7, 8, 0, 1] (by decide) rfl
        refine lv_iinc (v := (v2_12 + (1 : Int32))) (lv' := [(2, .int (v2_12 + (1 : Int32))), (0, .ref e_h), (1, .ref s_h)]) hx hb dX1_make_68 hl (k := 2) rfl (congrArg (fun q => v2_12 + q) (by decide)) (by decide) rfl (fun ls hl => ?_)
        refine lv_goto (tgt := 51) hx hb dX1_make_71 (by decide) ?_
        obtain rfl := Option.some.inj h
        exact k _ _ _ hw (lv_sub hl [1, 2, 0] rfl)
    · obtain ⟨e_steps_13, e_undoing_14, e_chains_15, e_found_16, e_foundAt_17, e_foundCount_18⟩ := z
      intro H locs ls hw hl
      have hw : xWd (dC, dI) A s.heap H locs ((wE cI cZ cB cO e_h e_p s_n e_steps_13 e_undoing_14 e_chains_15 e_leaving e_found_16 e_foundAt_17 e_foundCount_18) ++ (wS cI cZ cB cO s_h s_p s_n s_count s_generators)) := hw
      have hl : lv_has ls 3 [(0, .ref e_h)] := hl
      refine lv_aload_n hx hb dX1_make_74 rfl (lv_at hl 0 rfl) ?_
      obtain ⟨⟨e_steps_26, e_undoing_27, e_chains_28, e_found_29, e_foundAt_30, e_foundCount_31⟩, q7, h⟩ := xn_i h
      refine x_callVv (As := []) (rest := []) C hw gc_X1_54 ⟨rfl, rfl, ds_X1_closeSteps, (by rw [hR]; exact Nat.le_of_ble_eq_true rfl), (by rw [hR]; exact Nat.le_of_ble_eq_true rfl), Nat.zero_le _, Nat.zero_le _⟩ (c_X1_closeSteps l dC dI cI cZ cB cO e_h e_p s_n e_steps_13 e_undoing_14 e_chains_15 e_leaving e_found_16 e_foundAt_17 e_foundCount_18 _ q7 _) [0, 1, 2, 3, 4, 5, 6] [7, 8] (by decide) rfl rfl (by decide) (by decide) rfl rfl rfl hl.1 rfl (Nat.le_of_ble_eq_true rfl) dX1_make_75 (fun H locs hw => ?_)
      have hw : xWd (dC, dI) A s.heap H locs ((wE cI cZ cB cO e_h e_p s_n e_steps_26 e_undoing_27 e_chains_28 e_leaving e_found_29 e_foundAt_30 e_foundCount_31) ++ (wS cI cZ cB cO s_h s_p s_n s_count s_generators)) := hw.sub [2, 3, 4, 5, 6, 7, 8, 0, 1] (by decide) rfl
      refine lv_aload_n hx hb dX1_make_78 rfl (lv_at hl 0 rfl) ?_
      refine x_get (ci := 1) C hw inX1 rfl 4 (by decide) lkF_X1_25 rfl 0 rfl rfl dX1_make_79 ?_
      refine lv_bipush (v := (8 : Int32)) hx hb dX1_make_82 (by decide) ?_
      refine lv_iconst (v := (1 : Int32)) hx hb dX1_make_84 (by decide) ?_
      refine x_iask C hw 4 0 rfl rfl (k := 8) (by decide) (vp_in_iff.mpr (by decide)) dX1_make_85 (fun H locs hw => ?_)
      have hw : xWd (dC, dI) A s.heap H locs ((wE cI cZ cB cO e_h e_p s_n e_steps_26 e_undoing_27 e_chains_28 (upd e_leaving 8 (1 : Int32)) e_found_29 e_foundAt_30 e_foundCount_31) ++ (wS cI cZ cB cO s_h s_p s_n s_count s_generators)) := hw
      refine lv_bipush (v := (7 : Int32)) hx hb dX1_make_86 (by decide) ?_
      refine lv_istore_n (lv' := [(2, .int (7 : Int32)), (0, .ref e_h)]) hx hb dX1_make_88 rfl hl (by decide) rfl (fun ls hl => ?_)
      obtain ⟨z, hr, h⟩ := xn_i h
      refine xL_w (fun (z : (Nat → Int32) × Int32) => ∀ (H : Heap) (locs : List Loc) (ls : Array Slot), xWd (dC, dI) A s.heap H locs ((wE cI cZ cB cO e_h e_p s_n e_steps_26 e_undoing_27 e_chains_28 z.1 e_found_29 e_foundAt_30 e_foundCount_31) ++ (wS cI cZ cB cO s_h s_p s_n s_count s_generators)) → lv_has ls 3 [(0, .ref e_h), (2, .int z.2)] → W p l e R s m args below meth c H locs 0 0 Q (F0 m 89 ls [])) (fun (z : (Nat → Int32)) => ∀ (H : Heap) (locs : List Loc) (ls : Array Slot), xWd (dC, dI) A s.heap H locs ((wE cI cZ cB cO e_h e_p s_n e_steps_26 e_undoing_27 e_chains_28 z e_found_29 e_foundAt_30 e_foundCount_31) ++ (wS cI cZ cB cO s_h s_p s_n s_count s_generators)) → lv_has ls 3 [] → W p l e R s m args below meth c H locs 0 0 Q (F0 m 123 ls [])) ?_ hr ?_ _ _ _ hw (lv_sub hl [1, 0] rfl)
      · rintro ⟨e_leaving_32, v2_33⟩ o h k H locs ls hw hl
        have hw : xWd (dC, dI) A s.heap H locs ((wE cI cZ cB cO e_h e_p s_n e_steps_26 e_undoing_27 e_chains_28 e_leaving_32 e_found_29 e_foundAt_30 e_foundCount_31) ++ (wS cI cZ cB cO s_h s_p s_n s_count s_generators)) := hw
        have hl : lv_has ls 3 [(0, .ref e_h), (2, .int v2_33)] := hl
        refine lv_iload_n hx hb dX1_make_89 rfl (lv_at hl 1 rfl) ?_
        refine lv_if_lt (tgt := 123) hx hb dX1_make_90 (by decide) (fun b8 => ?_) (fun b8 => ?_)
        · replace h := xb_tt b8 h
          obtain rfl := Option.some.inj h
          exact k _ _ _ hw (lv_sub hl [] rfl)
        · replace h := xb_ff b8 h
          refine lv_aload_n hx hb dX1_make_93 rfl (lv_at hl 0 rfl) ?_
          refine x_get (ci := 1) C hw inX1 rfl 4 (by decide) lkF_X1_25 rfl 0 rfl rfl dX1_make_94 ?_
          refine lv_iload_n hx hb dX1_make_97 rfl (lv_at hl 1 rfl) ?_
          refine lv_aload_n hx hb dX1_make_98 rfl (lv_at hl 0 rfl) ?_
          refine x_get (ci := 1) C hw inX1 rfl 4 (by decide) lkF_X1_25 rfl 0 rfl rfl dX1_make_99 ?_
          refine lv_iload_n hx hb dX1_make_102 rfl (lv_at hl 1 rfl) ?_
          refine lv_iconst (v := (1 : Int32)) hx hb dX1_make_103 (by decide) ?_
          refine lv_iadd hx hb dX1_make_104 ?_
          obtain ⟨b9, h⟩ := xk_i h
          refine x_iald C hw 4 0 rfl rfl b9 dX1_make_105 ?_
          refine lv_aload_n hx hb dX1_make_106 rfl (lv_at hl 0 rfl) ?_
          refine x_get (ci := 1) C hw inX1 rfl 3 (by decide) lkF_X1_22 rfl 0 rfl rfl dX1_make_107 ?_
          refine lv_iload_n hx hb dX1_make_110 rfl (lv_at hl 1 rfl) ?_
          obtain ⟨b10, h⟩ := xk_i h
          refine x_iald C hw 3 0 rfl rfl b10 dX1_make_111 ?_
          obtain ⟨r_35, q11, h⟩ := xn_i h
          refine x_callSi (As := [.int (e_chains_28 v2_33.toNatClampNeg)]) (rest := [.int (e_leaving_32 (v2_33 + (1 : Int32)).toNatClampNeg), .int v2_33, .ref (e_p 4)]) C hw gc_X1_57 ds_J6_bitCount_0f7a4 (by rw [hR]; exact Nat.le_of_ble_eq_true rfl) (by rw [hR]; exact Nat.le_of_ble_eq_true rfl) rfl rfl (Nat.zero_le _) (Nat.zero_le _) (c_J6_bitCount_0f7a4 l dC dI cI cZ cB cO (e_chains_28 v2_33.toNatClampNeg) _ q11 _) [] [0, 1, 2, 3, 4, 5, 6, 7, 8] (by decide) rfl rfl (by decide) (by decide) rfl hl.1 rfl (Nat.le_of_ble_eq_true rfl) dX1_make_112 (fun H locs hw => ?_)
          have hw : xWd (dC, dI) A s.heap H locs ((wE cI cZ cB cO e_h e_p s_n e_steps_26 e_undoing_27 e_chains_28 e_leaving_32 e_found_29 e_foundAt_30 e_foundCount_31) ++ (wS cI cZ cB cO s_h s_p s_n s_count s_generators)) := hw.sub [0, 1, 2, 3, 4, 5, 6, 7, 8] (by decide) rfl
          refine lv_imul hx hb dX1_make_115 ?_
          obtain ⟨b12, h⟩ := xk_i h
          refine x_iast C hw 4 0 rfl rfl b12 dX1_make_116 (fun H locs hw => ?_)
          have hw : xWd (dC, dI) A s.heap H locs ((wE cI cZ cB cO e_h e_p s_n e_steps_26 e_undoing_27 e_chains_28 (upd e_leaving_32 v2_33.toNatClampNeg ((e_leaving_32 (v2_33 + (1 : Int32)).toNatClampNeg) * r_35)) e_found_29 e_foundAt_30 e_foundCount_31) ++ (wS cI cZ cB cO s_h s_p s_n s_count s_generators)) := hw
          refine lv_iinc (v := (v2_33 + (-1 : Int32))) (lv' := [(2, .int (v2_33 + (-1 : Int32))), (0, .ref e_h)]) hx hb dX1_make_117 hl (k := 1) rfl (congrArg (fun q => v2_33 + q) (by decide)) (by decide) rfl (fun ls hl => ?_)
          refine lv_goto (tgt := 89) hx hb dX1_make_120 (by decide) ?_
          obtain rfl := Option.some.inj h
          exact k _ _ _ hw (lv_sub hl [1, 0] rfl)
      · obtain ⟨e_leaving_34, hz⟩ : ∃ q, q = z := ⟨z, rfl⟩
        subst hz
        intro H locs ls hw hl
        have hw : xWd (dC, dI) A s.heap H locs ((wE cI cZ cB cO e_h e_p s_n e_steps_26 e_undoing_27 e_chains_28 e_leaving_34 e_found_29 e_foundAt_30 e_foundCount_31) ++ (wS cI cZ cB cO s_h s_p s_n s_count s_generators)) := hw
        have hl : lv_has ls 3 [] := hl
        obtain rfl := Option.some.inj h
        exact x_retv C hQ hA hw dX1_make_123
noncomputable def f_X1_choices (e_chains : (Nat → Int32)) (v1 : Int32) (v2 : Int32) : Option (Int32) := xn (f_X1_chain e_chains v2) (fun (r_1 : Int32) => xn (f_X2_carry r_1 v1) (fun (r_2 : Int32) => some r_2))
set_option maxHeartbeats 4000000 in
set_option maxRecDepth 100000 in
theorem c_X1_choices (l : Launch) (dC : Nat → ClassId) (dI : Nat → Nat → Nat) (cI cZ cB cO : ClassId) (e_h : Nat) (e_p : Nat → Nat) (e_n : Int32) (e_steps : (Nat → Int32)) (e_undoing : (Nat → Int32)) (e_chains : (Nat → Int32)) (e_leaving : (Nat → Int32)) (e_found : (Nat → Int32)) (e_foundAt : (Nat → Int32)) (e_foundCount : Int32) (v1 : Int32) (v2 : Int32) (o : Int32) (h : f_X1_choices e_chains v1 v2 = some o) (sz : Nat) : Met l yX1_choices (xW yX1_choices cX1_choices 3 (some .int)) { frames := 1, cells := 0, slots := 0, locals := 24 } (xPre dC dI (xT cI cZ cB cO) [.ref e_h, .int v1, .int v2] (wE cI cZ cB cO e_h e_p e_n e_steps e_undoing e_chains e_leaving e_found e_foundAt e_foundCount) sz) (xQi dC dI (xT cI cZ cB cO) o (wE cI cZ cB cO e_h e_p e_n e_steps e_undoing e_chains e_leaving e_found e_foundAt e_foundCount) (wE cI cZ cB cO e_h e_p e_n e_steps e_undoing e_chains e_leaving e_found e_foundAt e_foundCount) sz) 0 0 (va_A (wE cI cZ cB cO e_h e_p e_n e_steps e_undoing e_chains e_leaving e_found e_foundAt e_foundCount) sz) := by
  refine x_met (by decide) (Nat.le_of_ble_eq_true rfl) ?_
  intro p e s m args below meth c R Q A hR hsz hA hQ hin C hw ls hl
  have hx := C.1
  have hb := C.2.1
  have hown := C.2.2.2.1
  have htb := C.2.2.2.2.1
  have hl : lv_has ls 3 [(0, .ref e_h), (1, .int v1), (2, .int v2)] := hl
  refine lv_aload_n hx hb dX1_choices_0 rfl (lv_at hl 0 rfl) ?_
  refine lv_iload_n hx hb dX1_choices_1 rfl (lv_at hl 2 rfl) ?_
  obtain ⟨r_1, q1, h⟩ := xn_i h
  refine x_callVi (As := [.int v2]) (rest := []) C hw gc_X1_76 ⟨rfl, rfl, ds_X1_chain, (by rw [hR]; exact Nat.le_of_ble_eq_true rfl), (by rw [hR]; exact Nat.le_of_ble_eq_true rfl), Nat.zero_le _, Nat.zero_le _⟩ (c_X1_chain l dC dI cI cZ cB cO e_h e_p e_n e_steps e_undoing e_chains e_leaving e_found e_foundAt e_foundCount v2 _ q1 _) [0, 1, 2, 3, 4, 5, 6] [] (by decide) rfl rfl (by decide) (by decide) rfl rfl rfl hl.1 rfl (Nat.le_of_ble_eq_true rfl) dX1_choices_2 (fun H locs hw => ?_)
  have hw : xWd (dC, dI) A s.heap H locs (wE cI cZ cB cO e_h e_p e_n e_steps e_undoing e_chains e_leaving e_found e_foundAt e_foundCount) := hw
  refine lv_iload_n hx hb dX1_choices_5 rfl (lv_at hl 1 rfl) ?_
  obtain ⟨r_2, q2, h⟩ := xn_i h
  refine x_callSi (As := [.int r_1, .int v1]) (rest := []) C hw gc_X1_79 ds_X2_carry (by rw [hR]; exact Nat.le_of_ble_eq_true rfl) (by rw [hR]; exact Nat.le_of_ble_eq_true rfl) rfl rfl (Nat.zero_le _) (Nat.zero_le _) (c_X2_carry l dC dI cI cZ cB cO r_1 v1 _ q2 _) [] [0, 1, 2, 3, 4, 5, 6] (by decide) rfl rfl (by decide) (by decide) rfl hl.1 rfl (Nat.le_of_ble_eq_true rfl) dX1_choices_6 (fun H locs hw => ?_)
  have hw : xWd (dC, dI) A s.heap H locs (wE cI cZ cB cO e_h e_p e_n e_steps e_undoing e_chains e_leaving e_found e_foundAt e_foundCount) := hw.sub [0, 1, 2, 3, 4, 5, 6] (by decide) rfl
  obtain rfl := Option.some.inj h
  exact x_reti C hQ hA hw dX1_choices_9
noncomputable def f_X1_goOn (e_steps : (Nat → Int32)) (v1 : Int32) (v2 : Int32) (v3 : Int32) : Option (Int32) := xn (f_X2_inverse v1) (fun (r_1 : Int32) => xn (f_X2_at r_1 v3) (fun (r_2 : Int32) => xn (f_X1_step e_steps v2 r_2) (fun (r_3 : Int32) => xn (f_X2_then r_3 v1) (fun (r_4 : Int32) => some r_4))))
set_option maxHeartbeats 4000000 in
set_option maxRecDepth 100000 in
theorem c_X1_goOn (l : Launch) (dC : Nat → ClassId) (dI : Nat → Nat → Nat) (cI cZ cB cO : ClassId) (e_h : Nat) (e_p : Nat → Nat) (e_n : Int32) (e_steps : (Nat → Int32)) (e_undoing : (Nat → Int32)) (e_chains : (Nat → Int32)) (e_leaving : (Nat → Int32)) (e_found : (Nat → Int32)) (e_foundAt : (Nat → Int32)) (e_foundCount : Int32) (v1 : Int32) (v2 : Int32) (v3 : Int32) (o : Int32) (h : f_X1_goOn e_steps v1 v2 v3 = some o) (sz : Nat) : Met l yX1_goOn (xW yX1_goOn cX1_goOn 4 (some .int)) { frames := 1, cells := 0, slots := 0, locals := 23 } (xPre dC dI (xT cI cZ cB cO) [.ref e_h, .int v1, .int v2, .int v3] (wE cI cZ cB cO e_h e_p e_n e_steps e_undoing e_chains e_leaving e_found e_foundAt e_foundCount) sz) (xQi dC dI (xT cI cZ cB cO) o (wE cI cZ cB cO e_h e_p e_n e_steps e_undoing e_chains e_leaving e_found e_foundAt e_foundCount) (wE cI cZ cB cO e_h e_p e_n e_steps e_undoing e_chains e_leaving e_found e_foundAt e_foundCount) sz) 0 0 (va_A (wE cI cZ cB cO e_h e_p e_n e_steps e_undoing e_chains e_leaving e_found e_foundAt e_foundCount) sz) := by
  refine x_met (by decide) (Nat.le_of_ble_eq_true rfl) ?_
  intro p e s m args below meth c R Q A hR hsz hA hQ hin C hw ls hl
  have hx := C.1
  have hb := C.2.1
  have hown := C.2.2.2.1
  have htb := C.2.2.2.2.1
  have hl : lv_has ls 4 [(0, .ref e_h), (1, .int v1), (2, .int v2), (3, .int v3)] := hl
  refine lv_aload_n hx hb dX1_goOn_0 rfl (lv_at hl 0 rfl) ?_
  refine lv_iload_n hx hb dX1_goOn_1 rfl (lv_at hl 2 rfl) ?_
  refine lv_iload_n hx hb dX1_goOn_2 rfl (lv_at hl 1 rfl) ?_
  obtain ⟨r_1, q1, h⟩ := xn_i h
  refine x_callSi (As := [.int v1]) (rest := [.int v2, .ref e_h]) C hw gc_X1_73 ds_X2_inverse (by rw [hR]; exact Nat.le_of_ble_eq_true rfl) (by rw [hR]; exact Nat.le_of_ble_eq_true rfl) rfl rfl (Nat.zero_le _) (Nat.zero_le _) (c_X2_inverse l dC dI cI cZ cB cO v1 _ q1 _) [] [0, 1, 2, 3, 4, 5, 6] (by decide) rfl rfl (by decide) (by decide) rfl hl.1 rfl (Nat.le_of_ble_eq_true rfl) dX1_goOn_3 (fun H locs hw => ?_)
  have hw : xWd (dC, dI) A s.heap H locs (wE cI cZ cB cO e_h e_p e_n e_steps e_undoing e_chains e_leaving e_found e_foundAt e_foundCount) := hw.sub [0, 1, 2, 3, 4, 5, 6] (by decide) rfl
  refine lv_iload_n hx hb dX1_goOn_6 rfl (lv_at hl 3 rfl) ?_
  obtain ⟨r_2, q2, h⟩ := xn_i h
  refine x_callSi (As := [.int r_1, .int v3]) (rest := [.int v2, .ref e_h]) C hw gc_X1_62 ds_X2_at (by rw [hR]; exact Nat.le_of_ble_eq_true rfl) (by rw [hR]; exact Nat.le_of_ble_eq_true rfl) rfl rfl (Nat.zero_le _) (Nat.zero_le _) (c_X2_at l dC dI cI cZ cB cO r_1 v3 _ q2 _) [] [0, 1, 2, 3, 4, 5, 6] (by decide) rfl rfl (by decide) (by decide) rfl hl.1 rfl (Nat.le_of_ble_eq_true rfl) dX1_goOn_7 (fun H locs hw => ?_)
  have hw : xWd (dC, dI) A s.heap H locs (wE cI cZ cB cO e_h e_p e_n e_steps e_undoing e_chains e_leaving e_found e_foundAt e_foundCount) := hw.sub [0, 1, 2, 3, 4, 5, 6] (by decide) rfl
  obtain ⟨r_3, q3, h⟩ := xn_i h
  refine x_callVi (As := [.int v2, .int r_2]) (rest := []) C hw gc_X1_82 ⟨rfl, rfl, ds_X1_step, (by rw [hR]; exact Nat.le_of_ble_eq_true rfl), (by rw [hR]; exact Nat.le_of_ble_eq_true rfl), Nat.zero_le _, Nat.zero_le _⟩ (c_X1_step l dC dI cI cZ cB cO e_h e_p e_n e_steps e_undoing e_chains e_leaving e_found e_foundAt e_foundCount v2 r_2 _ q3 _) [0, 1, 2, 3, 4, 5, 6] [] (by decide) rfl rfl (by decide) (by decide) rfl rfl rfl hl.1 rfl (Nat.le_of_ble_eq_true rfl) dX1_goOn_10 (fun H locs hw => ?_)
  have hw : xWd (dC, dI) A s.heap H locs (wE cI cZ cB cO e_h e_p e_n e_steps e_undoing e_chains e_leaving e_found e_foundAt e_foundCount) := hw
  refine lv_iload_n hx hb dX1_goOn_13 rfl (lv_at hl 1 rfl) ?_
  obtain ⟨r_4, q4, h⟩ := xn_i h
  refine x_callSi (As := [.int r_3, .int v1]) (rest := []) C hw gc_X1_70 ds_X2_then (by rw [hR]; exact Nat.le_of_ble_eq_true rfl) (by rw [hR]; exact Nat.le_of_ble_eq_true rfl) rfl rfl (Nat.zero_le _) (Nat.zero_le _) (c_X2_then l dC dI cI cZ cB cO r_3 v1 _ q4 _) [] [0, 1, 2, 3, 4, 5, 6] (by decide) rfl rfl (by decide) (by decide) rfl hl.1 rfl (Nat.le_of_ble_eq_true rfl) dX1_goOn_14 (fun H locs hw => ?_)
  have hw : xWd (dC, dI) A s.heap H locs (wE cI cZ cB cO e_h e_p e_n e_steps e_undoing e_chains e_leaving e_found e_foundAt e_foundCount) := hw.sub [0, 1, 2, 3, 4, 5, 6] (by decide) rfl
  obtain rfl := Option.some.inj h
  exact x_reti C hQ hA hw dX1_goOn_17
noncomputable def f_X1_rank_L1 (e_n : Int32) (v1 : Int32) (e_chains : (Nat → Int32)) (e_steps : (Nat → Int32)) (e_leaving : (Nat → Int32)) (z : Int32 × Int32 × Int32) : Option ((Int32 × Int32 × Int32) ⊕ ((Int32) ⊕ (Int32))) := match z with
  | (v2_1, v3_2, v4_3) => xb (e_n ≤ v4_3) (some (.inr (.inl v3_2))) (xb ((8 : Int32) ≤ v4_3) (some (.inr (.inl v3_2))) (xn (f_X2_at v1 v4_3) (fun (r_5 : Int32) => xn (f_X1_choices e_chains v2_1 v4_3) (fun (r_6 : Int32) => xb (((r_6 >>> (r_5 &&& 31)) &&& (1 : Int32)) = 0) (some (.inr (.inr (-1 : Int32)))) (xn (f_J6_bitCount_0f7a4 (r_6 &&& (((1 : Int32) <<< (r_5 &&& 31)) - (1 : Int32)))) (fun (r_7 : Int32) => xk (vp_in (v4_3 + (1 : Int32)) 9) (xn (f_X1_goOn e_steps v2_1 v4_3 r_5) (fun (r_8 : Int32) => some (.inl (r_8, (v3_2 + (r_7 * (e_leaving (v4_3 + (1 : Int32)).toNatClampNeg))), (v4_3 + (1 : Int32))))))))))))
noncomputable def f_X1_rank (e_n : Int32) (e_steps : (Nat → Int32)) (e_chains : (Nat → Int32)) (e_leaving : (Nat → Int32)) (v1 : Int32) : Option (Int32) := xn (xL (f_X1_rank_L1 e_n v1 e_chains e_steps e_leaving) ((16434824 : Int32), (0 : Int32), (0 : Int32))) (fun (x : (Int32) ⊕ (Int32)) => match x with | .inl z => (fun (v3_4 : Int32) => some v3_4) z | .inr z => some z)
set_option maxHeartbeats 4000000 in
set_option maxRecDepth 100000 in
theorem c_X1_rank (l : Launch) (dC : Nat → ClassId) (dI : Nat → Nat → Nat) (cI cZ cB cO : ClassId) (e_h : Nat) (e_p : Nat → Nat) (e_n : Int32) (e_steps : (Nat → Int32)) (e_undoing : (Nat → Int32)) (e_chains : (Nat → Int32)) (e_leaving : (Nat → Int32)) (e_found : (Nat → Int32)) (e_foundAt : (Nat → Int32)) (e_foundCount : Int32) (v1 : Int32) (o : Int32) (h : f_X1_rank e_n e_steps e_chains e_leaving v1 = some o) (sz : Nat) : Met l yX1_rank (xW yX1_rank cX1_rank 7 (some .int)) { frames := 2, cells := 0, slots := 0, locals := 46 } (xPre dC dI (xT cI cZ cB cO) [.ref e_h, .int v1] (wE cI cZ cB cO e_h e_p e_n e_steps e_undoing e_chains e_leaving e_found e_foundAt e_foundCount) sz) (xQi dC dI (xT cI cZ cB cO) o (wE cI cZ cB cO e_h e_p e_n e_steps e_undoing e_chains e_leaving e_found e_foundAt e_foundCount) (wE cI cZ cB cO e_h e_p e_n e_steps e_undoing e_chains e_leaving e_found e_foundAt e_foundCount) sz) 0 0 (va_A (wE cI cZ cB cO e_h e_p e_n e_steps e_undoing e_chains e_leaving e_found e_foundAt e_foundCount) sz) := by
  refine x_met (by decide) (Nat.le_of_ble_eq_true rfl) ?_
  intro p e s m args below meth c R Q A hR hsz hA hQ hin C hw ls hl
  have hx := C.1
  have hb := C.2.1
  have hown := C.2.2.2.1
  have htb := C.2.2.2.2.1
  have hl : lv_has ls 7 [(0, .ref e_h), (1, .int v1)] := hl
  refine lv_ldc hx hb hown (htb _ kI_X1_42) dX1_rank_0 ?_
  refine lv_istore_n (lv' := [(2, .int (16434824 : Int32)), (0, .ref e_h), (1, .int v1)]) hx hb dX1_rank_2 rfl hl (by decide) rfl (fun ls hl => ?_)
  refine lv_iconst (v := (0 : Int32)) hx hb dX1_rank_3 (by decide) ?_
  refine lv_istore_n (lv' := [(3, .int (0 : Int32)), (2, .int (16434824 : Int32)), (0, .ref e_h), (1, .int v1)]) hx hb dX1_rank_4 rfl hl (by decide) rfl (fun ls hl => ?_)
  refine lv_iconst (v := (0 : Int32)) hx hb dX1_rank_5 (by decide) ?_
  refine lv_istore (lv' := [(4, .int (0 : Int32)), (3, .int (0 : Int32)), (2, .int (16434824 : Int32)), (0, .ref e_h), (1, .int v1)]) hx hb dX1_rank_6 hl (by decide) rfl (fun ls hl => ?_)
  obtain ⟨z, hr, h⟩ := xn_i h
  refine xL_w (fun (z : Int32 × Int32 × Int32) => ∀ (H : Heap) (locs : List Loc) (ls : Array Slot), xWd (dC, dI) A s.heap H locs (wE cI cZ cB cO e_h e_p e_n e_steps e_undoing e_chains e_leaving e_found e_foundAt e_foundCount) → lv_has ls 7 [(0, .ref e_h), (1, .int v1), (2, .int z.1), (3, .int z.2.1), (4, .int z.2.2)] → W p l e R s m args below meth c H locs 0 0 Q (F0 m 8 ls [])) (Sum.elim (fun (z : Int32) => ∀ (H : Heap) (locs : List Loc) (ls : Array Slot), xWd (dC, dI) A s.heap H locs (wE cI cZ cB cO e_h e_p e_n e_steps e_undoing e_chains e_leaving e_found e_foundAt e_foundCount) → lv_has ls 7 [(3, .int z)] → W p l e R s m args below meth c H locs 0 0 Q (F0 m 94 ls [])) (fun (z : Int32) => ∀ (H : Heap) (locs : List Loc), xWd (dC, dI) A s.heap H locs (wE cI cZ cB cO e_h e_p e_n e_steps e_undoing e_chains e_leaving e_found e_foundAt e_foundCount) → ∀ (pc : Nat) (ls : Array Slot), decode cX1_rank pc = .ok (.ireturn, 1) → W p l e R s m args below meth c H locs 0 0 Q (F0 m pc ls [.int z]))) ?_ hr ?_ _ _ _ hw (lv_sub hl [3, 4, 2, 1, 0] rfl)
  · rintro ⟨v2_1, v3_2, v4_3⟩ o h k H locs ls hw hl
    have hw : xWd (dC, dI) A s.heap H locs (wE cI cZ cB cO e_h e_p e_n e_steps e_undoing e_chains e_leaving e_found e_foundAt e_foundCount) := hw
    have hl : lv_has ls 7 [(0, .ref e_h), (1, .int v1), (2, .int v2_1), (3, .int v3_2), (4, .int v4_3)] := hl
    refine lv_iload hx hb dX1_rank_8 (lv_at hl 4 rfl) ?_
    refine lv_aload_n hx hb dX1_rank_10 rfl (lv_at hl 0 rfl) ?_
    refine x_get (ci := 1) C hw inX1 rfl 0 (by decide) lkF_X1_9 rfl 0 rfl rfl dX1_rank_11 ?_
    refine lv_icmp_ge (tgt := 94) hx hb dX1_rank_14 (by decide) (fun b1 => ?_) (fun b1 => ?_)
    · replace h := xb_tt b1 h
      obtain rfl := Option.some.inj h
      exact k _ _ _ hw (lv_sub hl [3] rfl)
    · replace h := xb_ff b1 h
      refine lv_iload hx hb dX1_rank_17 (lv_at hl 4 rfl) ?_
      refine lv_bipush (v := (8 : Int32)) hx hb dX1_rank_19 (by decide) ?_
      refine lv_icmp_ge (tgt := 94) hx hb dX1_rank_21 (by decide) (fun b2 => ?_) (fun b2 => ?_)
      · replace h := xb_tt b2 h
        obtain rfl := Option.some.inj h
        exact k _ _ _ hw (lv_sub hl [3] rfl)
      · replace h := xb_ff b2 h
        refine lv_iload_n hx hb dX1_rank_24 rfl (lv_at hl 1 rfl) ?_
        refine lv_iload hx hb dX1_rank_25 (lv_at hl 4 rfl) ?_
        obtain ⟨r_5, q3, h⟩ := xn_i h
        refine x_callSi (As := [.int v1, .int v4_3]) (rest := []) C hw gc_X1_62 ds_X2_at (by rw [hR]; exact Nat.le_of_ble_eq_true rfl) (by rw [hR]; exact Nat.le_of_ble_eq_true rfl) rfl rfl (Nat.zero_le _) (Nat.zero_le _) (c_X2_at l dC dI cI cZ cB cO v1 v4_3 _ q3 _) [] [0, 1, 2, 3, 4, 5, 6] (by decide) rfl rfl (by decide) (by decide) rfl hl.1 rfl (Nat.le_of_ble_eq_true rfl) dX1_rank_27 (fun H locs hw => ?_)
        have hw : xWd (dC, dI) A s.heap H locs (wE cI cZ cB cO e_h e_p e_n e_steps e_undoing e_chains e_leaving e_found e_foundAt e_foundCount) := hw.sub [0, 1, 2, 3, 4, 5, 6] (by decide) rfl
        refine lv_istore (lv' := [(5, .int r_5), (0, .ref e_h), (1, .int v1), (2, .int v2_1), (3, .int v3_2), (4, .int v4_3)]) hx hb dX1_rank_30 hl (by decide) rfl (fun ls hl => ?_)
        refine lv_aload_n hx hb dX1_rank_32 rfl (lv_at hl 1 rfl) ?_
        refine lv_iload_n hx hb dX1_rank_33 rfl (lv_at hl 3 rfl) ?_
        refine lv_iload hx hb dX1_rank_34 (lv_at hl 5 rfl) ?_
        obtain ⟨r_6, q4, h⟩ := xn_i h
        refine x_callVi (As := [.int v2_1, .int v4_3]) (rest := []) C hw gc_X1_85 ⟨rfl, rfl, ds_X1_choices, (by rw [hR]; exact Nat.le_of_ble_eq_true rfl), (by rw [hR]; exact Nat.le_of_ble_eq_true rfl), Nat.zero_le _, Nat.zero_le _⟩ (c_X1_choices l dC dI cI cZ cB cO e_h e_p e_n e_steps e_undoing e_chains e_leaving e_found e_foundAt e_foundCount v2_1 v4_3 _ q4 _) [0, 1, 2, 3, 4, 5, 6] [] (by decide) rfl rfl (by decide) (by decide) rfl rfl rfl hl.1 rfl (Nat.le_of_ble_eq_true rfl) dX1_rank_36 (fun H locs hw => ?_)
        have hw : xWd (dC, dI) A s.heap H locs (wE cI cZ cB cO e_h e_p e_n e_steps e_undoing e_chains e_leaving e_found e_foundAt e_foundCount) := hw
        refine lv_istore (lv' := [(6, .int r_6), (5, .int r_5), (0, .ref e_h), (1, .int v1), (2, .int v2_1), (3, .int v3_2), (4, .int v4_3)]) hx hb dX1_rank_39 hl (by decide) rfl (fun ls hl => ?_)
        refine lv_iload hx hb dX1_rank_41 (lv_at hl 0 rfl) ?_
        refine lv_iload hx hb dX1_rank_43 (lv_at hl 1 rfl) ?_
        refine lv_ishr hx hb dX1_rank_45 ?_
        refine lv_iconst (v := (1 : Int32)) hx hb dX1_rank_46 (by decide) ?_
        refine lv_iand hx hb dX1_rank_47 ?_
        refine lv_if_ne (tgt := 53) hx hb dX1_rank_48 (by decide) (fun b5 => ?_) (fun b5 => ?_)
        · replace h := xb_ff b5 h
          refine lv_iload_n hx hb dX1_rank_53 rfl (lv_at hl 5 rfl) ?_
          refine lv_iload hx hb dX1_rank_54 (lv_at hl 0 rfl) ?_
          refine lv_iconst (v := (1 : Int32)) hx hb dX1_rank_56 (by decide) ?_
          refine lv_iload hx hb dX1_rank_57 (lv_at hl 1 rfl) ?_
          refine lv_ishl hx hb dX1_rank_59 ?_
          refine lv_iconst (v := (1 : Int32)) hx hb dX1_rank_60 (by decide) ?_
          refine lv_isub hx hb dX1_rank_61 ?_
          refine lv_iand hx hb dX1_rank_62 ?_
          obtain ⟨r_7, q6, h⟩ := xn_i h
          refine x_callSi (As := [.int (r_6 &&& (((1 : Int32) <<< (r_5 &&& 31)) - (1 : Int32)))]) (rest := [.int v3_2]) C hw gc_X1_57 ds_J6_bitCount_0f7a4 (by rw [hR]; exact Nat.le_of_ble_eq_true rfl) (by rw [hR]; exact Nat.le_of_ble_eq_true rfl) rfl rfl (Nat.zero_le _) (Nat.zero_le _) (c_J6_bitCount_0f7a4 l dC dI cI cZ cB cO (r_6 &&& (((1 : Int32) <<< (r_5 &&& 31)) - (1 : Int32))) _ q6 _) [] [0, 1, 2, 3, 4, 5, 6] (by decide) rfl rfl (by decide) (by decide) rfl hl.1 rfl (Nat.le_of_ble_eq_true rfl) dX1_rank_63 (fun H locs hw => ?_)
          have hw : xWd (dC, dI) A s.heap H locs (wE cI cZ cB cO e_h e_p e_n e_steps e_undoing e_chains e_leaving e_found e_foundAt e_foundCount) := hw.sub [0, 1, 2, 3, 4, 5, 6] (by decide) rfl
          refine lv_aload_n hx hb dX1_rank_66 rfl (lv_at hl 2 rfl) ?_
          refine x_get (ci := 1) C hw inX1 rfl 4 (by decide) lkF_X1_25 rfl 0 rfl rfl dX1_rank_67 ?_
          refine lv_iload hx hb dX1_rank_70 (lv_at hl 6 rfl) ?_
          refine lv_iconst (v := (1 : Int32)) hx hb dX1_rank_72 (by decide) ?_
          refine lv_iadd hx hb dX1_rank_73 ?_
          obtain ⟨b7, h⟩ := xk_i h
          refine x_iald C hw 4 0 rfl rfl b7 dX1_rank_74 ?_
          refine lv_imul hx hb dX1_rank_75 ?_
          refine lv_iadd hx hb dX1_rank_76 ?_
          refine lv_istore_n (lv' := [(3, .int (v3_2 + (r_7 * (e_leaving (v4_3 + (1 : Int32)).toNatClampNeg)))), (6, .int r_6), (5, .int r_5), (0, .ref e_h), (1, .int v1), (2, .int v2_1), (4, .int v4_3)]) hx hb dX1_rank_77 rfl hl (by decide) rfl (fun ls hl => ?_)
          refine lv_aload_n hx hb dX1_rank_78 rfl (lv_at hl 3 rfl) ?_
          refine lv_iload_n hx hb dX1_rank_79 rfl (lv_at hl 5 rfl) ?_
          refine lv_iload hx hb dX1_rank_80 (lv_at hl 6 rfl) ?_
          refine lv_iload hx hb dX1_rank_82 (lv_at hl 2 rfl) ?_
          obtain ⟨r_8, q8, h⟩ := xn_i h
          refine x_callVi (As := [.int v2_1, .int v4_3, .int r_5]) (rest := []) C hw gc_X1_88 ⟨rfl, rfl, ds_X1_goOn, (by rw [hR]; exact Nat.le_of_ble_eq_true rfl), (by rw [hR]; exact Nat.le_of_ble_eq_true rfl), Nat.zero_le _, Nat.zero_le _⟩ (c_X1_goOn l dC dI cI cZ cB cO e_h e_p e_n e_steps e_undoing e_chains e_leaving e_found e_foundAt e_foundCount v2_1 v4_3 r_5 _ q8 _) [0, 1, 2, 3, 4, 5, 6] [] (by decide) rfl rfl (by decide) (by decide) rfl rfl rfl hl.1 rfl (Nat.le_of_ble_eq_true rfl) dX1_rank_84 (fun H locs hw => ?_)
          have hw : xWd (dC, dI) A s.heap H locs (wE cI cZ cB cO e_h e_p e_n e_steps e_undoing e_chains e_leaving e_found e_foundAt e_foundCount) := hw
          refine lv_istore_n (lv' := [(2, .int r_8), (3, .int (v3_2 + (r_7 * (e_leaving (v4_3 + (1 : Int32)).toNatClampNeg)))), (6, .int r_6), (5, .int r_5), (0, .ref e_h), (1, .int v1), (4, .int v4_3)]) hx hb dX1_rank_87 rfl hl (by decide) rfl (fun ls hl => ?_)
          refine lv_iinc (v := (v4_3 + (1 : Int32))) (lv' := [(4, .int (v4_3 + (1 : Int32))), (2, .int r_8), (3, .int (v3_2 + (r_7 * (e_leaving (v4_3 + (1 : Int32)).toNatClampNeg)))), (6, .int r_6), (5, .int r_5), (0, .ref e_h), (1, .int v1)]) hx hb dX1_rank_88 hl (k := 6) rfl (congrArg (fun q => v4_3 + q) (by decide)) (by decide) rfl (fun ls hl => ?_)
          refine lv_goto (tgt := 8) hx hb dX1_rank_91 (by decide) ?_
          obtain rfl := Option.some.inj h
          exact k _ _ _ hw (lv_sub hl [5, 6, 1, 2, 0] rfl)
        · replace h := xb_tt b5 h
          refine lv_iconst (v := (-1 : Int32)) hx hb dX1_rank_51 (by decide) ?_
          obtain rfl := Option.some.inj h
          exact k _ _ hw _ _ dX1_rank_52
  · rcases z with z | z
    · obtain ⟨v3_4, hz⟩ : ∃ q, q = z := ⟨z, rfl⟩
      subst hz
      intro H locs ls hw hl
      have hw : xWd (dC, dI) A s.heap H locs (wE cI cZ cB cO e_h e_p e_n e_steps e_undoing e_chains e_leaving e_found e_foundAt e_foundCount) := hw
      have hl : lv_has ls 7 [(3, .int v3_4)] := hl
      refine lv_iload_n hx hb dX1_rank_94 rfl (lv_at hl 0 rfl) ?_
      obtain rfl := Option.some.inj h
      exact x_reti C hQ hA hw dX1_rank_95
    · obtain rfl := Option.some.inj h
      intro H locs hw pc ls hd
      exact x_reti C hQ hA hw hd
noncomputable def f_X1_withRank_L2 (r_5 : Int32) (v4_3 : Int32) (e_leaving : (Nat → Int32)) (z : Int32 × Int32) : Option ((Int32 × Int32) ⊕ (Int32 × Int32)) := match z with
  | (v3_6, v6_7) => xb ((7 : Int32) ≤ v6_7) (some (.inr (v3_6, v6_7))) (xb (((r_5 >>> (v6_7 &&& 31)) &&& (1 : Int32)) = 0) (xk (vp_in (v4_3 + (1 : Int32)) 9) (some (.inl ((v3_6 - (((r_5 >>> (v6_7 &&& 31)) &&& (1 : Int32)) * (e_leaving (v4_3 + (1 : Int32)).toNatClampNeg))), (v6_7 + (1 : Int32)))))) (xk (vp_in (v4_3 + (1 : Int32)) 9) (xb (v3_6 < (e_leaving (v4_3 + (1 : Int32)).toNatClampNeg)) (some (.inr (v3_6, v6_7))) (some (.inl ((v3_6 - (((r_5 >>> (v6_7 &&& 31)) &&& (1 : Int32)) * (e_leaving (v4_3 + (1 : Int32)).toNatClampNeg))), (v6_7 + (1 : Int32))))))))
noncomputable def f_X1_withRank_L1 (e_n : Int32) (e_chains : (Nat → Int32)) (e_leaving : (Nat → Int32)) (e_steps : (Nat → Int32)) (z : Int32 × Int32 × Int32) : Option ((Int32 × Int32 × Int32) ⊕ (Int32)) := match z with
  | (v2_1, v3_2, v4_3) => xb (e_n ≤ v4_3) (some (.inr v2_1)) (xb ((8 : Int32) ≤ v4_3) (some (.inr v2_1)) (xn (f_X1_choices e_chains v2_1 v4_3) (fun (r_5 : Int32) => xn (xL (f_X1_withRank_L2 r_5 v4_3 e_leaving) (v3_2, (0 : Int32))) (fun (z : Int32 × Int32) => match z with | (v3_8, v6_9) => xn (f_X1_goOn e_steps v2_1 v4_3 v6_9) (fun (r_10 : Int32) => some (.inl (r_10, v3_8, (v4_3 + (1 : Int32)))))))))
noncomputable def f_X1_withRank (e_n : Int32) (e_steps : (Nat → Int32)) (e_chains : (Nat → Int32)) (e_leaving : (Nat → Int32)) (v1 : Int32) : Option (Int32) := xn (xL (f_X1_withRank_L1 e_n e_chains e_leaving e_steps) ((16434824 : Int32), v1, (0 : Int32))) (fun (v2_4 : Int32) => some v2_4)
set_option maxHeartbeats 4000000 in
set_option maxRecDepth 100000 in
theorem c_X1_withRank (l : Launch) (dC : Nat → ClassId) (dI : Nat → Nat → Nat) (cI cZ cB cO : ClassId) (e_h : Nat) (e_p : Nat → Nat) (e_n : Int32) (e_steps : (Nat → Int32)) (e_undoing : (Nat → Int32)) (e_chains : (Nat → Int32)) (e_leaving : (Nat → Int32)) (e_found : (Nat → Int32)) (e_foundAt : (Nat → Int32)) (e_foundCount : Int32) (v1 : Int32) (o : Int32) (h : f_X1_withRank e_n e_steps e_chains e_leaving v1 = some o) (sz : Nat) : Met l yX1_withRank (xW yX1_withRank cX1_withRank 7 (some .int)) { frames := 2, cells := 0, slots := 0, locals := 46 } (xPre dC dI (xT cI cZ cB cO) [.ref e_h, .int v1] (wE cI cZ cB cO e_h e_p e_n e_steps e_undoing e_chains e_leaving e_found e_foundAt e_foundCount) sz) (xQi dC dI (xT cI cZ cB cO) o (wE cI cZ cB cO e_h e_p e_n e_steps e_undoing e_chains e_leaving e_found e_foundAt e_foundCount) (wE cI cZ cB cO e_h e_p e_n e_steps e_undoing e_chains e_leaving e_found e_foundAt e_foundCount) sz) 0 0 (va_A (wE cI cZ cB cO e_h e_p e_n e_steps e_undoing e_chains e_leaving e_found e_foundAt e_foundCount) sz) := by
  refine x_met (by decide) (Nat.le_of_ble_eq_true rfl) ?_
  intro p e s m args below meth c R Q A hR hsz hA hQ hin C hw ls hl
  have hx := C.1
  have hb := C.2.1
  have hown := C.2.2.2.1
  have htb := C.2.2.2.2.1
  have hl : lv_has ls 7 [(0, .ref e_h), (1, .int v1)] := hl
  refine lv_ldc hx hb hown (htb _ kI_X1_42) dX1_withRank_0 ?_
  refine lv_istore_n (lv' := [(2, .int (16434824 : Int32)), (0, .ref e_h), (1, .int v1)]) hx hb dX1_withRank_2 rfl hl (by decide) rfl (fun ls hl => ?_)
  refine lv_iload_n hx hb dX1_withRank_3 rfl (lv_at hl 2 rfl) ?_
  refine lv_istore_n (lv' := [(3, .int v1), (2, .int (16434824 : Int32)), (0, .ref e_h), (1, .int v1)]) hx hb dX1_withRank_4 rfl hl (by decide) rfl (fun ls hl => ?_)
  refine lv_iconst (v := (0 : Int32)) hx hb dX1_withRank_5 (by decide) ?_
  refine lv_istore (lv' := [(4, .int (0 : Int32)), (3, .int v1), (2, .int (16434824 : Int32)), (0, .ref e_h), (1, .int v1)]) hx hb dX1_withRank_6 hl (by decide) rfl (fun ls hl => ?_)
  obtain ⟨z, hr, h⟩ := xn_i h
  refine xL_w (fun (z : Int32 × Int32 × Int32) => ∀ (H : Heap) (locs : List Loc) (ls : Array Slot), xWd (dC, dI) A s.heap H locs (wE cI cZ cB cO e_h e_p e_n e_steps e_undoing e_chains e_leaving e_found e_foundAt e_foundCount) → lv_has ls 7 [(0, .ref e_h), (2, .int z.1), (3, .int z.2.1), (4, .int z.2.2)] → W p l e R s m args below meth c H locs 0 0 Q (F0 m 8 ls [])) (fun (z : Int32) => ∀ (H : Heap) (locs : List Loc) (ls : Array Slot), xWd (dC, dI) A s.heap H locs (wE cI cZ cB cO e_h e_p e_n e_steps e_undoing e_chains e_leaving e_found e_foundAt e_foundCount) → lv_has ls 7 [(2, .int z)] → W p l e R s m args below meth c H locs 0 0 Q (F0 m 108 ls [])) ?_ hr ?_ _ _ _ hw (lv_sub hl [3, 2, 1, 0] rfl)
  · rintro ⟨v2_1, v3_2, v4_3⟩ o h k H locs ls hw hl
    have hw : xWd (dC, dI) A s.heap H locs (wE cI cZ cB cO e_h e_p e_n e_steps e_undoing e_chains e_leaving e_found e_foundAt e_foundCount) := hw
    have hl : lv_has ls 7 [(0, .ref e_h), (2, .int v2_1), (3, .int v3_2), (4, .int v4_3)] := hl
    refine lv_iload hx hb dX1_withRank_8 (lv_at hl 3 rfl) ?_
    refine lv_aload_n hx hb dX1_withRank_10 rfl (lv_at hl 0 rfl) ?_
    refine x_get (ci := 1) C hw inX1 rfl 0 (by decide) lkF_X1_9 rfl 0 rfl rfl dX1_withRank_11 ?_
    refine lv_icmp_ge (tgt := 108) hx hb dX1_withRank_14 (by decide) (fun b1 => ?_) (fun b1 => ?_)
    · replace h := xb_tt b1 h
      obtain rfl := Option.some.inj h
      exact k _ _ _ hw (lv_sub hl [1] rfl)
    · replace h := xb_ff b1 h
      refine lv_iload hx hb dX1_withRank_17 (lv_at hl 3 rfl) ?_
      refine lv_bipush (v := (8 : Int32)) hx hb dX1_withRank_19 (by decide) ?_
      refine lv_icmp_ge (tgt := 108) hx hb dX1_withRank_21 (by decide) (fun b2 => ?_) (fun b2 => ?_)
      · replace h := xb_tt b2 h
        obtain rfl := Option.some.inj h
        exact k _ _ _ hw (lv_sub hl [1] rfl)
      · replace h := xb_ff b2 h
        refine lv_aload_n hx hb dX1_withRank_24 rfl (lv_at hl 0 rfl) ?_
        refine lv_iload_n hx hb dX1_withRank_25 rfl (lv_at hl 1 rfl) ?_
        refine lv_iload hx hb dX1_withRank_26 (lv_at hl 3 rfl) ?_
        obtain ⟨r_5, q3, h⟩ := xn_i h
        refine x_callVi (As := [.int v2_1, .int v4_3]) (rest := []) C hw gc_X1_85 ⟨rfl, rfl, ds_X1_choices, (by rw [hR]; exact Nat.le_of_ble_eq_true rfl), (by rw [hR]; exact Nat.le_of_ble_eq_true rfl), Nat.zero_le _, Nat.zero_le _⟩ (c_X1_choices l dC dI cI cZ cB cO e_h e_p e_n e_steps e_undoing e_chains e_leaving e_found e_foundAt e_foundCount v2_1 v4_3 _ q3 _) [0, 1, 2, 3, 4, 5, 6] [] (by decide) rfl rfl (by decide) (by decide) rfl rfl rfl hl.1 rfl (Nat.le_of_ble_eq_true rfl) dX1_withRank_28 (fun H locs hw => ?_)
        have hw : xWd (dC, dI) A s.heap H locs (wE cI cZ cB cO e_h e_p e_n e_steps e_undoing e_chains e_leaving e_found e_foundAt e_foundCount) := hw
        refine lv_istore (lv' := [(5, .int r_5), (0, .ref e_h), (2, .int v2_1), (3, .int v3_2), (4, .int v4_3)]) hx hb dX1_withRank_31 hl (by decide) rfl (fun ls hl => ?_)
        refine lv_iconst (v := (0 : Int32)) hx hb dX1_withRank_33 (by decide) ?_
        refine lv_istore (lv' := [(6, .int (0 : Int32)), (5, .int r_5), (0, .ref e_h), (2, .int v2_1), (3, .int v3_2), (4, .int v4_3)]) hx hb dX1_withRank_34 hl (by decide) rfl (fun ls hl => ?_)
        obtain ⟨z, hr, h⟩ := xn_i h
        refine xL_w (fun (z : Int32 × Int32) => ∀ (H : Heap) (locs : List Loc) (ls : Array Slot), xWd (dC, dI) A s.heap H locs (wE cI cZ cB cO e_h e_p e_n e_steps e_undoing e_chains e_leaving e_found e_foundAt e_foundCount) → lv_has ls 7 [(0, .ref e_h), (2, .int v2_1), (3, .int z.1), (4, .int v4_3), (5, .int r_5), (6, .int z.2)] → W p l e R s m args below meth c H locs 0 0 Q (F0 m 36 ls [])) (fun (z : Int32 × Int32) => ∀ (H : Heap) (locs : List Loc) (ls : Array Slot), xWd (dC, dI) A s.heap H locs (wE cI cZ cB cO e_h e_p e_n e_steps e_undoing e_chains e_leaving e_found e_foundAt e_foundCount) → lv_has ls 7 [(0, .ref e_h), (2, .int v2_1), (3, .int z.1), (4, .int v4_3), (6, .int z.2)] → W p l e R s m args below meth c H locs 0 0 Q (F0 m 92 ls [])) ?_ hr ?_ _ _ _ hw (lv_sub hl [2, 3, 4, 5, 1, 0] rfl)
        · rintro ⟨v3_6, v6_7⟩ o h k H locs ls hw hl
          have hw : xWd (dC, dI) A s.heap H locs (wE cI cZ cB cO e_h e_p e_n e_steps e_undoing e_chains e_leaving e_found e_foundAt e_foundCount) := hw
          have hl : lv_has ls 7 [(0, .ref e_h), (2, .int v2_1), (3, .int v3_6), (4, .int v4_3), (5, .int r_5), (6, .int v6_7)] := hl
          refine lv_iload hx hb dX1_withRank_36 (lv_at hl 5 rfl) ?_
          refine lv_bipush (v := (7 : Int32)) hx hb dX1_withRank_38 (by decide) ?_
          refine lv_icmp_ge (tgt := 92) hx hb dX1_withRank_40 (by decide) (fun b4 => ?_) (fun b4 => ?_)
          · replace h := xb_tt b4 h
            obtain rfl := Option.some.inj h
            exact k _ _ _ hw (lv_sub hl [0, 1, 2, 3, 5] rfl)
          · replace h := xb_ff b4 h
            refine lv_iload hx hb dX1_withRank_43 (lv_at hl 4 rfl) ?_
            refine lv_iload hx hb dX1_withRank_45 (lv_at hl 5 rfl) ?_
            refine lv_ishr hx hb dX1_withRank_47 ?_
            refine lv_iconst (v := (1 : Int32)) hx hb dX1_withRank_48 (by decide) ?_
            refine lv_iand hx hb dX1_withRank_49 ?_
            refine lv_if_eq (tgt := 66) hx hb dX1_withRank_50 (by decide) (fun b5 => ?_) (fun b5 => ?_)
            · replace h := xb_tt b5 h
              refine lv_iload_n hx hb dX1_withRank_66 rfl (lv_at hl 2 rfl) ?_
              refine lv_iload hx hb dX1_withRank_67 (lv_at hl 4 rfl) ?_
              refine lv_iload hx hb dX1_withRank_69 (lv_at hl 5 rfl) ?_
              refine lv_ishr hx hb dX1_withRank_71 ?_
              refine lv_iconst (v := (1 : Int32)) hx hb dX1_withRank_72 (by decide) ?_
              refine lv_iand hx hb dX1_withRank_73 ?_
              refine lv_aload_n hx hb dX1_withRank_74 rfl (lv_at hl 0 rfl) ?_
              refine x_get (ci := 1) C hw inX1 rfl 4 (by decide) lkF_X1_25 rfl 0 rfl rfl dX1_withRank_75 ?_
              refine lv_iload hx hb dX1_withRank_78 (lv_at hl 3 rfl) ?_
              refine lv_iconst (v := (1 : Int32)) hx hb dX1_withRank_80 (by decide) ?_
              refine lv_iadd hx hb dX1_withRank_81 ?_
              obtain ⟨b6, h⟩ := xk_i h
              refine x_iald C hw 4 0 rfl rfl b6 dX1_withRank_82 ?_
              refine lv_imul hx hb dX1_withRank_83 ?_
              refine lv_isub hx hb dX1_withRank_84 ?_
              refine lv_istore_n (lv' := [(3, .int (v3_6 - (((r_5 >>> (v6_7 &&& 31)) &&& (1 : Int32)) * (e_leaving (v4_3 + (1 : Int32)).toNatClampNeg)))), (0, .ref e_h), (2, .int v2_1), (4, .int v4_3), (5, .int r_5), (6, .int v6_7)]) hx hb dX1_withRank_85 rfl hl (by decide) rfl (fun ls hl => ?_)
              refine lv_iinc (v := (v6_7 + (1 : Int32))) (lv' := [(6, .int (v6_7 + (1 : Int32))), (3, .int (v3_6 - (((r_5 >>> (v6_7 &&& 31)) &&& (1 : Int32)) * (e_leaving (v4_3 + (1 : Int32)).toNatClampNeg)))), (0, .ref e_h), (2, .int v2_1), (4, .int v4_3), (5, .int r_5)]) hx hb dX1_withRank_86 hl (k := 5) rfl (congrArg (fun q => v6_7 + q) (by decide)) (by decide) rfl (fun ls hl => ?_)
              refine lv_goto (tgt := 36) hx hb dX1_withRank_89 (by decide) ?_
              obtain rfl := Option.some.inj h
              exact k _ _ _ hw (lv_sub hl [2, 3, 1, 4, 5, 0] rfl)
            · replace h := xb_ff b5 h
              refine lv_iload_n hx hb dX1_withRank_53 rfl (lv_at hl 2 rfl) ?_
              refine lv_aload_n hx hb dX1_withRank_54 rfl (lv_at hl 0 rfl) ?_
              refine x_get (ci := 1) C hw inX1 rfl 4 (by decide) lkF_X1_25 rfl 0 rfl rfl dX1_withRank_55 ?_
              refine lv_iload hx hb dX1_withRank_58 (lv_at hl 3 rfl) ?_
              refine lv_iconst (v := (1 : Int32)) hx hb dX1_withRank_60 (by decide) ?_
              refine lv_iadd hx hb dX1_withRank_61 ?_
              obtain ⟨b7, h⟩ := xk_i h
              refine x_iald C hw 4 0 rfl rfl b7 dX1_withRank_62 ?_
              refine lv_icmp_lt (tgt := 92) hx hb dX1_withRank_63 (by decide) (fun b8 => ?_) (fun b8 => ?_)
              · replace h := xb_tt b8 h
                obtain rfl := Option.some.inj h
                exact k _ _ _ hw (lv_sub hl [0, 1, 2, 3, 5] rfl)
              · replace h := xb_ff b8 h
                refine lv_iload_n hx hb dX1_withRank_66 rfl (lv_at hl 2 rfl) ?_
                refine lv_iload hx hb dX1_withRank_67 (lv_at hl 4 rfl) ?_
                refine lv_iload hx hb dX1_withRank_69 (lv_at hl 5 rfl) ?_
                refine lv_ishr hx hb dX1_withRank_71 ?_
                refine lv_iconst (v := (1 : Int32)) hx hb dX1_withRank_72 (by decide) ?_
                refine lv_iand hx hb dX1_withRank_73 ?_
                refine lv_aload_n hx hb dX1_withRank_74 rfl (lv_at hl 0 rfl) ?_
                refine x_get (ci := 1) C hw inX1 rfl 4 (by decide) lkF_X1_25 rfl 0 rfl rfl dX1_withRank_75 ?_
                refine lv_iload hx hb dX1_withRank_78 (lv_at hl 3 rfl) ?_
                refine lv_iconst (v := (1 : Int32)) hx hb dX1_withRank_80 (by decide) ?_
                refine lv_iadd hx hb dX1_withRank_81 ?_
                refine x_iald C hw 4 0 rfl rfl b7 dX1_withRank_82 ?_
                refine lv_imul hx hb dX1_withRank_83 ?_
                refine lv_isub hx hb dX1_withRank_84 ?_
                refine lv_istore_n (lv' := [(3, .int (v3_6 - (((r_5 >>> (v6_7 &&& 31)) &&& (1 : Int32)) * (e_leaving (v4_3 + (1 : Int32)).toNatClampNeg)))), (0, .ref e_h), (2, .int v2_1), (4, .int v4_3), (5, .int r_5), (6, .int v6_7)]) hx hb dX1_withRank_85 rfl hl (by decide) rfl (fun ls hl => ?_)
                refine lv_iinc (v := (v6_7 + (1 : Int32))) (lv' := [(6, .int (v6_7 + (1 : Int32))), (3, .int (v3_6 - (((r_5 >>> (v6_7 &&& 31)) &&& (1 : Int32)) * (e_leaving (v4_3 + (1 : Int32)).toNatClampNeg)))), (0, .ref e_h), (2, .int v2_1), (4, .int v4_3), (5, .int r_5)]) hx hb dX1_withRank_86 hl (k := 5) rfl (congrArg (fun q => v6_7 + q) (by decide)) (by decide) rfl (fun ls hl => ?_)
                refine lv_goto (tgt := 36) hx hb dX1_withRank_89 (by decide) ?_
                obtain rfl := Option.some.inj h
                exact k _ _ _ hw (lv_sub hl [2, 3, 1, 4, 5, 0] rfl)
        · obtain ⟨v3_8, v6_9⟩ := z
          intro H locs ls hw hl
          have hw : xWd (dC, dI) A s.heap H locs (wE cI cZ cB cO e_h e_p e_n e_steps e_undoing e_chains e_leaving e_found e_foundAt e_foundCount) := hw
          have hl : lv_has ls 7 [(0, .ref e_h), (2, .int v2_1), (3, .int v3_8), (4, .int v4_3), (6, .int v6_9)] := hl
          refine lv_aload_n hx hb dX1_withRank_92 rfl (lv_at hl 0 rfl) ?_
          refine lv_iload_n hx hb dX1_withRank_93 rfl (lv_at hl 1 rfl) ?_
          refine lv_iload hx hb dX1_withRank_94 (lv_at hl 3 rfl) ?_
          refine lv_iload hx hb dX1_withRank_96 (lv_at hl 4 rfl) ?_
          obtain ⟨r_10, q9, h⟩ := xn_i h
          refine x_callVi (As := [.int v2_1, .int v4_3, .int v6_9]) (rest := []) C hw gc_X1_88 ⟨rfl, rfl, ds_X1_goOn, (by rw [hR]; exact Nat.le_of_ble_eq_true rfl), (by rw [hR]; exact Nat.le_of_ble_eq_true rfl), Nat.zero_le _, Nat.zero_le _⟩ (c_X1_goOn l dC dI cI cZ cB cO e_h e_p e_n e_steps e_undoing e_chains e_leaving e_found e_foundAt e_foundCount v2_1 v4_3 v6_9 _ q9 _) [0, 1, 2, 3, 4, 5, 6] [] (by decide) rfl rfl (by decide) (by decide) rfl rfl rfl hl.1 rfl (Nat.le_of_ble_eq_true rfl) dX1_withRank_98 (fun H locs hw => ?_)
          have hw : xWd (dC, dI) A s.heap H locs (wE cI cZ cB cO e_h e_p e_n e_steps e_undoing e_chains e_leaving e_found e_foundAt e_foundCount) := hw
          refine lv_istore_n (lv' := [(2, .int r_10), (0, .ref e_h), (3, .int v3_8), (4, .int v4_3), (6, .int v6_9)]) hx hb dX1_withRank_101 rfl hl (by decide) rfl (fun ls hl => ?_)
          refine lv_iinc (v := (v4_3 + (1 : Int32))) (lv' := [(4, .int (v4_3 + (1 : Int32))), (2, .int r_10), (0, .ref e_h), (3, .int v3_8), (6, .int v6_9)]) hx hb dX1_withRank_102 hl (k := 3) rfl (congrArg (fun q => v4_3 + q) (by decide)) (by decide) rfl (fun ls hl => ?_)
          refine lv_goto (tgt := 8) hx hb dX1_withRank_105 (by decide) ?_
          obtain rfl := Option.some.inj h
          exact k _ _ _ hw (lv_sub hl [2, 1, 3, 0] rfl)
  · obtain ⟨v2_4, hz⟩ : ∃ q, q = z := ⟨z, rfl⟩
    subst hz
    intro H locs ls hw hl
    have hw : xWd (dC, dI) A s.heap H locs (wE cI cZ cB cO e_h e_p e_n e_steps e_undoing e_chains e_leaving e_found e_foundAt e_foundCount) := hw
    have hl : lv_has ls 7 [(2, .int v2_4)] := hl
    refine lv_iload_n hx hb dX1_withRank_108 rfl (lv_at hl 0 rfl) ?_
    obtain rfl := Option.some.inj h
    exact x_reti C hQ hA hw dX1_withRank_109
end
section
theorem dX0_turnRound_0 : decode cX0_turnRound 0 = .ok (.iconst 0, 1) := by decide +kernel
theorem dX0_turnRound_1 : decode cX0_turnRound 1 = .ok (.istore_n 2, 1) := by decide +kernel
theorem dX0_turnRound_2 : decode cX0_turnRound 2 = .ok (.iconst 0, 1) := by decide +kernel
theorem dX0_turnRound_3 : decode cX0_turnRound 3 = .ok (.istore_n 3, 1) := by decide +kernel
theorem dX0_turnRound_4 : decode cX0_turnRound 4 = .ok (.iload_n 3, 1) := by decide +kernel
theorem dX0_turnRound_5 : decode cX0_turnRound 5 = .ok (.aload_n 0, 1) := by decide +kernel
theorem dX0_turnRound_6 : decode cX0_turnRound 6 = .ok (.getfield 9, 3) := by decide +kernel
theorem dX0_turnRound_9 : decode cX0_turnRound 9 = .ok (.if_icmp .ge 19, 3) := by decide +kernel
theorem dX0_turnRound_12 : decode cX0_turnRound 12 = .ok (.iload_n 2, 1) := by decide +kernel
theorem dX0_turnRound_13 : decode cX0_turnRound 13 = .ok (.iconst 1, 1) := by decide +kernel
theorem dX0_turnRound_14 : decode cX0_turnRound 14 = .ok (.ishl, 1) := by decide +kernel
theorem dX0_turnRound_15 : decode cX0_turnRound 15 = .ok (.iload_n 1, 1) := by decide +kernel
theorem dX0_turnRound_16 : decode cX0_turnRound 16 = .ok (.iload_n 3, 1) := by decide +kernel
theorem dX0_turnRound_17 : decode cX0_turnRound 17 = .ok (.ishr, 1) := by decide +kernel
theorem dX0_turnRound_18 : decode cX0_turnRound 18 = .ok (.iconst 1, 1) := by decide +kernel
theorem dX0_turnRound_19 : decode cX0_turnRound 19 = .ok (.iand, 1) := by decide +kernel
theorem dX0_turnRound_20 : decode cX0_turnRound 20 = .ok (.ior, 1) := by decide +kernel
theorem dX0_turnRound_21 : decode cX0_turnRound 21 = .ok (.istore_n 2, 1) := by decide +kernel
theorem dX0_turnRound_22 : decode cX0_turnRound 22 = .ok (.iinc 3 1, 3) := by decide +kernel
theorem dX0_turnRound_25 : decode cX0_turnRound 25 = .ok (.goto (-21), 3) := by decide +kernel
theorem dX0_turnRound_28 : decode cX0_turnRound 28 = .ok (.iload_n 2, 1) := by decide +kernel
theorem dX0_turnRound_29 : decode cX0_turnRound 29 = .ok (.ireturn, 1) := by decide +kernel
theorem dX0_arrange_0 : decode cX0_arrange 0 = .ok (.iconst 0, 1) := by decide +kernel
theorem dX0_arrange_1 : decode cX0_arrange 1 = .ok (.istore_n 1, 1) := by decide +kernel
theorem dX0_arrange_2 : decode cX0_arrange 2 = .ok (.iconst 0, 1) := by decide +kernel
theorem dX0_arrange_3 : decode cX0_arrange 3 = .ok (.istore_n 2, 1) := by decide +kernel
theorem dX0_arrange_4 : decode cX0_arrange 4 = .ok (.iload_n 2, 1) := by decide +kernel
theorem dX0_arrange_5 : decode cX0_arrange 5 = .ok (.aload_n 0, 1) := by decide +kernel
theorem dX0_arrange_6 : decode cX0_arrange 6 = .ok (.getfield 9, 3) := by decide +kernel
theorem dX0_arrange_9 : decode cX0_arrange 9 = .ok (.if_icmp .gt 57, 3) := by decide +kernel
theorem dX0_arrange_12 : decode cX0_arrange 12 = .ok (.aload_n 0, 1) := by decide +kernel
theorem dX0_arrange_13 : decode cX0_arrange 13 = .ok (.getfield 19, 3) := by decide +kernel
theorem dX0_arrange_16 : decode cX0_arrange 16 = .ok (.iload_n 2, 1) := by decide +kernel
theorem dX0_arrange_17 : decode cX0_arrange 17 = .ok (.iload_n 1, 1) := by decide +kernel
theorem dX0_arrange_18 : decode cX0_arrange 18 = .ok (.iastore, 1) := by decide +kernel
theorem dX0_arrange_19 : decode cX0_arrange 19 = .ok (.iconst 1, 1) := by decide +kernel
theorem dX0_arrange_20 : decode cX0_arrange 20 = .ok (.aload_n 0, 1) := by decide +kernel
theorem dX0_arrange_21 : decode cX0_arrange 21 = .ok (.getfield 9, 3) := by decide +kernel
theorem dX0_arrange_24 : decode cX0_arrange 24 = .ok (.ishl, 1) := by decide +kernel
theorem dX0_arrange_25 : decode cX0_arrange 25 = .ok (.iconst 1, 1) := by decide +kernel
theorem dX0_arrange_26 : decode cX0_arrange 26 = .ok (.isub, 1) := by decide +kernel
theorem dX0_arrange_27 : decode cX0_arrange 27 = .ok (.istore_n 3, 1) := by decide +kernel
theorem dX0_arrange_28 : decode cX0_arrange 28 = .ok (.iload_n 3, 1) := by decide +kernel
theorem dX0_arrange_29 : decode cX0_arrange 29 = .ok (.ifCond .lt 31, 3) := by decide +kernel
theorem dX0_arrange_32 : decode cX0_arrange 32 = .ok (.iload_n 3, 1) := by decide +kernel
theorem dX0_arrange_33 : decode cX0_arrange 33 = .ok (.invokestatic 47, 3) := by decide +kernel
theorem dX0_arrange_36 : decode cX0_arrange 36 = .ok (.iload_n 2, 1) := by decide +kernel
theorem dX0_arrange_37 : decode cX0_arrange 37 = .ok (.if_icmp .ne 17, 3) := by decide +kernel
theorem dX0_arrange_40 : decode cX0_arrange 40 = .ok (.aload_n 0, 1) := by decide +kernel
theorem dX0_arrange_41 : decode cX0_arrange 41 = .ok (.getfield 15, 3) := by decide +kernel
theorem dX0_arrange_44 : decode cX0_arrange 44 = .ok (.iload_n 1, 1) := by decide +kernel
theorem dX0_arrange_45 : decode cX0_arrange 45 = .ok (.aload_n 0, 1) := by decide +kernel
theorem dX0_arrange_46 : decode cX0_arrange 46 = .ok (.iload_n 3, 1) := by decide +kernel
theorem dX0_arrange_47 : decode cX0_arrange 47 = .ok (.invokevirtual 53, 3) := by decide +kernel
theorem dX0_arrange_50 : decode cX0_arrange 50 = .ok (.iastore, 1) := by decide +kernel
theorem dX0_arrange_51 : decode cX0_arrange 51 = .ok (.iinc 1 1, 3) := by decide +kernel
theorem dX0_arrange_54 : decode cX0_arrange 54 = .ok (.iinc 3 (-1), 3) := by decide +kernel
theorem dX0_arrange_57 : decode cX0_arrange 57 = .ok (.goto (-29), 3) := by decide +kernel
theorem dX0_arrange_60 : decode cX0_arrange 60 = .ok (.iinc 2 1, 3) := by decide +kernel
theorem dX0_arrange_63 : decode cX0_arrange 63 = .ok (.goto (-59), 3) := by decide +kernel
theorem dX0_arrange_66 : decode cX0_arrange 66 = .ok (.aload_n 0, 1) := by decide +kernel
theorem dX0_arrange_67 : decode cX0_arrange 67 = .ok (.getfield 19, 3) := by decide +kernel
theorem dX0_arrange_70 : decode cX0_arrange 70 = .ok (.aload_n 0, 1) := by decide +kernel
theorem dX0_arrange_71 : decode cX0_arrange 71 = .ok (.getfield 9, 3) := by decide +kernel
theorem dX0_arrange_74 : decode cX0_arrange 74 = .ok (.iconst 1, 1) := by decide +kernel
theorem dX0_arrange_75 : decode cX0_arrange 75 = .ok (.iadd, 1) := by decide +kernel
theorem dX0_arrange_76 : decode cX0_arrange 76 = .ok (.iload_n 1, 1) := by decide +kernel
theorem dX0_arrange_77 : decode cX0_arrange 77 = .ok (.iastore, 1) := by decide +kernel
theorem dX0_arrange_78 : decode cX0_arrange 78 = .ok (.return_, 1) := by decide +kernel
theorem dX0_reach_0 : decode cX0_reach 0 = .ok (.aload_n 0, 1) := by decide +kernel
theorem dX0_reach_1 : decode cX0_reach 1 = .ok (.getfield 28, 3) := by decide +kernel
theorem dX0_reach_4 : decode cX0_reach 4 = .ok (.iload_n 1, 1) := by decide +kernel
theorem dX0_reach_5 : decode cX0_reach 5 = .ok (.iaload, 1) := by decide +kernel
theorem dX0_reach_6 : decode cX0_reach 6 = .ok (.iconst (-1), 1) := by decide +kernel
theorem dX0_reach_7 : decode cX0_reach 7 = .ok (.if_icmp .ne 40, 3) := by decide +kernel
theorem dX0_reach_10 : decode cX0_reach 10 = .ok (.aload_n 0, 1) := by decide +kernel
theorem dX0_reach_11 : decode cX0_reach 11 = .ok (.getfield 31, 3) := by decide +kernel
theorem dX0_reach_14 : decode cX0_reach 14 = .ok (.sipush 256, 3) := by decide +kernel
theorem dX0_reach_17 : decode cX0_reach 17 = .ok (.if_icmp .ge 30, 3) := by decide +kernel
theorem dX0_reach_20 : decode cX0_reach 20 = .ok (.aload_n 0, 1) := by decide +kernel
theorem dX0_reach_21 : decode cX0_reach 21 = .ok (.getfield 28, 3) := by decide +kernel
theorem dX0_reach_24 : decode cX0_reach 24 = .ok (.iload_n 1, 1) := by decide +kernel
theorem dX0_reach_25 : decode cX0_reach 25 = .ok (.iload_n 2, 1) := by decide +kernel
theorem dX0_reach_26 : decode cX0_reach 26 = .ok (.iastore, 1) := by decide +kernel
theorem dX0_reach_27 : decode cX0_reach 27 = .ok (.aload_n 0, 1) := by decide +kernel
theorem dX0_reach_28 : decode cX0_reach 28 = .ok (.getfield 25, 3) := by decide +kernel
theorem dX0_reach_31 : decode cX0_reach 31 = .ok (.aload_n 0, 1) := by decide +kernel
theorem dX0_reach_32 : decode cX0_reach 32 = .ok (.getfield 31, 3) := by decide +kernel
theorem dX0_reach_35 : decode cX0_reach 35 = .ok (.iload_n 1, 1) := by decide +kernel
theorem dX0_reach_36 : decode cX0_reach 36 = .ok (.iastore, 1) := by decide +kernel
theorem dX0_reach_37 : decode cX0_reach 37 = .ok (.aload_n 0, 1) := by decide +kernel
theorem dX0_reach_38 : decode cX0_reach 38 = .ok (.dup, 1) := by decide +kernel
theorem dX0_reach_39 : decode cX0_reach 39 = .ok (.getfield 31, 3) := by decide +kernel
theorem dX0_reach_42 : decode cX0_reach 42 = .ok (.iconst 1, 1) := by decide +kernel
theorem dX0_reach_43 : decode cX0_reach 43 = .ok (.iadd, 1) := by decide +kernel
theorem dX0_reach_44 : decode cX0_reach 44 = .ok (.putfield 31, 3) := by decide +kernel
theorem dX0_reach_47 : decode cX0_reach 47 = .ok (.return_, 1) := by decide +kernel
theorem dX0_spreadBy_0 : decode cX0_spreadBy 0 = .ok (.iconst 0, 1) := by decide +kernel
theorem dX0_spreadBy_1 : decode cX0_spreadBy 1 = .ok (.istore 4, 2) := by decide +kernel
theorem dX0_spreadBy_3 : decode cX0_spreadBy 3 = .ok (.iload 4, 2) := by decide +kernel
theorem dX0_spreadBy_5 : decode cX0_spreadBy 5 = .ok (.iload_n 3, 1) := by decide +kernel
theorem dX0_spreadBy_6 : decode cX0_spreadBy 6 = .ok (.if_icmp .ge 25, 3) := by decide +kernel
theorem dX0_spreadBy_9 : decode cX0_spreadBy 9 = .ok (.aload_n 0, 1) := by decide +kernel
theorem dX0_spreadBy_10 : decode cX0_spreadBy 10 = .ok (.aload_n 0, 1) := by decide +kernel
theorem dX0_spreadBy_11 : decode cX0_spreadBy 11 = .ok (.getfield 25, 3) := by decide +kernel
theorem dX0_spreadBy_14 : decode cX0_spreadBy 14 = .ok (.iload 4, 2) := by decide +kernel
theorem dX0_spreadBy_16 : decode cX0_spreadBy 16 = .ok (.iaload, 1) := by decide +kernel
theorem dX0_spreadBy_17 : decode cX0_spreadBy 17 = .ok (.iload_n 1, 1) := by decide +kernel
theorem dX0_spreadBy_18 : decode cX0_spreadBy 18 = .ok (.invokestatic 73, 3) := by decide +kernel
theorem dX0_spreadBy_21 : decode cX0_spreadBy 21 = .ok (.iload_n 2, 1) := by decide +kernel
theorem dX0_spreadBy_22 : decode cX0_spreadBy 22 = .ok (.invokevirtual 56, 3) := by decide +kernel
theorem dX0_spreadBy_25 : decode cX0_spreadBy 25 = .ok (.iinc 4 1, 3) := by decide +kernel
theorem dX0_spreadBy_28 : decode cX0_spreadBy 28 = .ok (.goto (-25), 3) := by decide +kernel
theorem dX0_spreadBy_31 : decode cX0_spreadBy 31 = .ok (.return_, 1) := by decide +kernel
theorem dX0_spread_0 : decode cX0_spread 0 = .ok (.iconst 0, 1) := by decide +kernel
theorem dX0_spread_1 : decode cX0_spread 1 = .ok (.istore_n 3, 1) := by decide +kernel
theorem dX0_spread_2 : decode cX0_spread 2 = .ok (.iload_n 3, 1) := by decide +kernel
theorem dX0_spread_3 : decode cX0_spread 3 = .ok (.aload_n 0, 1) := by decide +kernel
theorem dX0_spread_4 : decode cX0_spread 4 = .ok (.getfield 31, 3) := by decide +kernel
theorem dX0_spread_7 : decode cX0_spread 7 = .ok (.if_icmp .ge 21, 3) := by decide +kernel
theorem dX0_spread_10 : decode cX0_spread 10 = .ok (.aload_n 0, 1) := by decide +kernel
theorem dX0_spread_11 : decode cX0_spread 11 = .ok (.getfield 28, 3) := by decide +kernel
theorem dX0_spread_14 : decode cX0_spread 14 = .ok (.aload_n 0, 1) := by decide +kernel
theorem dX0_spread_15 : decode cX0_spread 15 = .ok (.getfield 25, 3) := by decide +kernel
theorem dX0_spread_18 : decode cX0_spread 18 = .ok (.iload_n 3, 1) := by decide +kernel
theorem dX0_spread_19 : decode cX0_spread 19 = .ok (.iaload, 1) := by decide +kernel
theorem dX0_spread_20 : decode cX0_spread 20 = .ok (.iconst (-1), 1) := by decide +kernel
theorem dX0_spread_21 : decode cX0_spread 21 = .ok (.iastore, 1) := by decide +kernel
theorem dX0_spread_22 : decode cX0_spread 22 = .ok (.iinc 3 1, 3) := by decide +kernel
theorem dX0_spread_25 : decode cX0_spread 25 = .ok (.goto (-23), 3) := by decide +kernel
theorem dX0_spread_28 : decode cX0_spread 28 = .ok (.aload_n 0, 1) := by decide +kernel
theorem dX0_spread_29 : decode cX0_spread 29 = .ok (.iconst 0, 1) := by decide +kernel
theorem dX0_spread_30 : decode cX0_spread 30 = .ok (.putfield 31, 3) := by decide +kernel
theorem dX0_spread_33 : decode cX0_spread 33 = .ok (.aload_n 0, 1) := by decide +kernel
theorem dX0_spread_34 : decode cX0_spread 34 = .ok (.iload_n 2, 1) := by decide +kernel
theorem dX0_spread_35 : decode cX0_spread 35 = .ok (.aload_n 0, 1) := by decide +kernel
theorem dX0_spread_36 : decode cX0_spread 36 = .ok (.getfield 9, 3) := by decide +kernel
theorem dX0_spread_39 : decode cX0_spread 39 = .ok (.invokevirtual 56, 3) := by decide +kernel
theorem dX0_spread_42 : decode cX0_spread 42 = .ok (.aload_n 0, 1) := by decide +kernel
theorem dX0_spread_43 : decode cX0_spread 43 = .ok (.getfield 9, 3) := by decide +kernel
theorem dX0_spread_46 : decode cX0_spread 46 = .ok (.iconst 1, 1) := by decide +kernel
theorem dX0_spread_47 : decode cX0_spread 47 = .ok (.isub, 1) := by decide +kernel
theorem dX0_spread_48 : decode cX0_spread 48 = .ok (.istore_n 3, 1) := by decide +kernel
theorem dX0_spread_49 : decode cX0_spread 49 = .ok (.iload_n 3, 1) := by decide +kernel
theorem dX0_spread_50 : decode cX0_spread 50 = .ok (.ifCond .lt 77, 3) := by decide +kernel
theorem dX0_spread_53 : decode cX0_spread 53 = .ok (.aload_n 0, 1) := by decide +kernel
theorem dX0_spread_54 : decode cX0_spread 54 = .ok (.getfield 31, 3) := by decide +kernel
theorem dX0_spread_57 : decode cX0_spread 57 = .ok (.istore 4, 2) := by decide +kernel
theorem dX0_spread_59 : decode cX0_spread 59 = .ok (.aload_n 1, 1) := by decide +kernel
theorem dX0_spread_60 : decode cX0_spread 60 = .ok (.iload_n 3, 1) := by decide +kernel
theorem dX0_spread_61 : decode cX0_spread 61 = .ok (.invokevirtual 60, 3) := by decide +kernel
theorem dX0_spread_64 : decode cX0_spread 64 = .ok (.iconst 1, 1) := by decide +kernel
theorem dX0_spread_65 : decode cX0_spread 65 = .ok (.iload_n 3, 1) := by decide +kernel
theorem dX0_spread_66 : decode cX0_spread 66 = .ok (.ishl, 1) := by decide +kernel
theorem dX0_spread_67 : decode cX0_spread 67 = .ok (.iconst (-1), 1) := by decide +kernel
theorem dX0_spread_68 : decode cX0_spread 68 = .ok (.ixor, 1) := by decide +kernel
theorem dX0_spread_69 : decode cX0_spread 69 = .ok (.iand, 1) := by decide +kernel
theorem dX0_spread_70 : decode cX0_spread 70 = .ok (.istore 5, 2) := by decide +kernel
theorem dX0_spread_72 : decode cX0_spread 72 = .ok (.iload_n 3, 1) := by decide +kernel
theorem dX0_spread_73 : decode cX0_spread 73 = .ok (.iconst 1, 1) := by decide +kernel
theorem dX0_spread_74 : decode cX0_spread 74 = .ok (.iadd, 1) := by decide +kernel
theorem dX0_spread_75 : decode cX0_spread 75 = .ok (.istore 6, 2) := by decide +kernel
theorem dX0_spread_77 : decode cX0_spread 77 = .ok (.iload 6, 2) := by decide +kernel
theorem dX0_spread_79 : decode cX0_spread 79 = .ok (.aload_n 0, 1) := by decide +kernel
theorem dX0_spread_80 : decode cX0_spread 80 = .ok (.getfield 9, 3) := by decide +kernel
theorem dX0_spread_83 : decode cX0_spread 83 = .ok (.if_icmp .ge 38, 3) := by decide +kernel
theorem dX0_spread_86 : decode cX0_spread 86 = .ok (.iload 5, 2) := by decide +kernel
theorem dX0_spread_88 : decode cX0_spread 88 = .ok (.ifCond .eq 33, 3) := by decide +kernel
theorem dX0_spread_91 : decode cX0_spread 91 = .ok (.iload 5, 2) := by decide +kernel
theorem dX0_spread_93 : decode cX0_spread 93 = .ok (.iload 6, 2) := by decide +kernel
theorem dX0_spread_95 : decode cX0_spread 95 = .ok (.ishr, 1) := by decide +kernel
theorem dX0_spread_96 : decode cX0_spread 96 = .ok (.iconst 1, 1) := by decide +kernel
theorem dX0_spread_97 : decode cX0_spread 97 = .ok (.iand, 1) := by decide +kernel
theorem dX0_spread_98 : decode cX0_spread 98 = .ok (.ifCond .eq 17, 3) := by decide +kernel
theorem dX0_spread_101 : decode cX0_spread 101 = .ok (.aload_n 0, 1) := by decide +kernel
theorem dX0_spread_102 : decode cX0_spread 102 = .ok (.aload_n 1, 1) := by decide +kernel
theorem dX0_spread_103 : decode cX0_spread 103 = .ok (.iload_n 3, 1) := by decide +kernel
theorem dX0_spread_104 : decode cX0_spread 104 = .ok (.iload 6, 2) := by decide +kernel
theorem dX0_spread_106 : decode cX0_spread 106 = .ok (.invokevirtual 65, 3) := by decide +kernel
theorem dX0_spread_109 : decode cX0_spread 109 = .ok (.iload_n 3, 1) := by decide +kernel
theorem dX0_spread_110 : decode cX0_spread 110 = .ok (.iload 4, 2) := by decide +kernel
theorem dX0_spread_112 : decode cX0_spread 112 = .ok (.invokevirtual 69, 3) := by decide +kernel
theorem dX0_spread_115 : decode cX0_spread 115 = .ok (.iinc 6 1, 3) := by decide +kernel
theorem dX0_spread_118 : decode cX0_spread 118 = .ok (.goto (-41), 3) := by decide +kernel
theorem dX0_spread_121 : decode cX0_spread 121 = .ok (.iinc 3 (-1), 3) := by decide +kernel
theorem dX0_spread_124 : decode cX0_spread 124 = .ok (.goto (-75), 3) := by decide +kernel
theorem dX0_spread_127 : decode cX0_spread 127 = .ok (.return_, 1) := by decide +kernel
theorem dX0_make_0 : decode cX0_make 0 = .ok (.aload_n 0, 1) := by decide +kernel
theorem dX0_make_1 : decode cX0_make 1 = .ok (.getfield 9, 3) := by decide +kernel
theorem dX0_make_4 : decode cX0_make 4 = .ok (.iload_n 2, 1) := by decide +kernel
theorem dX0_make_5 : decode cX0_make 5 = .ok (.if_icmp .eq 12, 3) := by decide +kernel
theorem dX0_make_8 : decode cX0_make 8 = .ok (.aload_n 0, 1) := by decide +kernel
theorem dX0_make_9 : decode cX0_make 9 = .ok (.iload_n 2, 1) := by decide +kernel
theorem dX0_make_10 : decode cX0_make 10 = .ok (.putfield 9, 3) := by decide +kernel
theorem dX0_make_13 : decode cX0_make 13 = .ok (.aload_n 0, 1) := by decide +kernel
theorem dX0_make_14 : decode cX0_make 14 = .ok (.invokevirtual 40, 3) := by decide +kernel
theorem dX0_make_17 : decode cX0_make 17 = .ok (.aload_n 0, 1) := by decide +kernel
theorem dX0_make_18 : decode cX0_make 18 = .ok (.getfield 22, 3) := by decide +kernel
theorem dX0_make_21 : decode cX0_make 21 = .ok (.iconst (-1), 1) := by decide +kernel
theorem dX0_make_22 : decode cX0_make 22 = .ok (.invokestatic 34, 3) := by decide +kernel
theorem dX0_make_25 : decode cX0_make 25 = .ok (.iconst 0, 1) := by decide +kernel
theorem dX0_make_26 : decode cX0_make 26 = .ok (.istore_n 3, 1) := by decide +kernel
theorem dX0_make_27 : decode cX0_make 27 = .ok (.iload_n 3, 1) := by decide +kernel
theorem dX0_make_28 : decode cX0_make 28 = .ok (.iconst 1, 1) := by decide +kernel
theorem dX0_make_29 : decode cX0_make 29 = .ok (.aload_n 0, 1) := by decide +kernel
theorem dX0_make_30 : decode cX0_make 30 = .ok (.getfield 9, 3) := by decide +kernel
theorem dX0_make_33 : decode cX0_make 33 = .ok (.ishl, 1) := by decide +kernel
theorem dX0_make_34 : decode cX0_make 34 = .ok (.if_icmp .ge 67, 3) := by decide +kernel
theorem dX0_make_37 : decode cX0_make 37 = .ok (.aload_n 0, 1) := by decide +kernel
theorem dX0_make_38 : decode cX0_make 38 = .ok (.getfield 15, 3) := by decide +kernel
theorem dX0_make_41 : decode cX0_make 41 = .ok (.iload_n 3, 1) := by decide +kernel
theorem dX0_make_42 : decode cX0_make 42 = .ok (.iaload, 1) := by decide +kernel
theorem dX0_make_43 : decode cX0_make 43 = .ok (.istore 4, 2) := by decide +kernel
theorem dX0_make_45 : decode cX0_make 45 = .ok (.aload_n 0, 1) := by decide +kernel
theorem dX0_make_46 : decode cX0_make 46 = .ok (.getfield 22, 3) := by decide +kernel
theorem dX0_make_49 : decode cX0_make 49 = .ok (.iload 4, 2) := by decide +kernel
theorem dX0_make_51 : decode cX0_make 51 = .ok (.iaload, 1) := by decide +kernel
theorem dX0_make_52 : decode cX0_make 52 = .ok (.iconst (-1), 1) := by decide +kernel
theorem dX0_make_53 : decode cX0_make 53 = .ok (.if_icmp .ne 42, 3) := by decide +kernel
theorem dX0_make_56 : decode cX0_make 56 = .ok (.aload_n 0, 1) := by decide +kernel
theorem dX0_make_57 : decode cX0_make 57 = .ok (.aload_n 1, 1) := by decide +kernel
theorem dX0_make_58 : decode cX0_make 58 = .ok (.iload 4, 2) := by decide +kernel
theorem dX0_make_60 : decode cX0_make 60 = .ok (.invokevirtual 43, 3) := by decide +kernel
theorem dX0_make_63 : decode cX0_make 63 = .ok (.iconst 0, 1) := by decide +kernel
theorem dX0_make_64 : decode cX0_make 64 = .ok (.istore 5, 2) := by decide +kernel
theorem dX0_make_66 : decode cX0_make 66 = .ok (.iload 5, 2) := by decide +kernel
theorem dX0_make_68 : decode cX0_make 68 = .ok (.aload_n 0, 1) := by decide +kernel
theorem dX0_make_69 : decode cX0_make 69 = .ok (.getfield 31, 3) := by decide +kernel
theorem dX0_make_72 : decode cX0_make 72 = .ok (.if_icmp .ge 23, 3) := by decide +kernel
theorem dX0_make_75 : decode cX0_make 75 = .ok (.aload_n 0, 1) := by decide +kernel
theorem dX0_make_76 : decode cX0_make 76 = .ok (.getfield 22, 3) := by decide +kernel
theorem dX0_make_79 : decode cX0_make 79 = .ok (.aload_n 0, 1) := by decide +kernel
theorem dX0_make_80 : decode cX0_make 80 = .ok (.getfield 25, 3) := by decide +kernel
theorem dX0_make_83 : decode cX0_make 83 = .ok (.iload 5, 2) := by decide +kernel
theorem dX0_make_85 : decode cX0_make 85 = .ok (.iaload, 1) := by decide +kernel
theorem dX0_make_86 : decode cX0_make 86 = .ok (.iload 4, 2) := by decide +kernel
theorem dX0_make_88 : decode cX0_make 88 = .ok (.iastore, 1) := by decide +kernel
theorem dX0_make_89 : decode cX0_make 89 = .ok (.iinc 5 1, 3) := by decide +kernel
theorem dX0_make_92 : decode cX0_make 92 = .ok (.goto (-26), 3) := by decide +kernel
theorem dX0_make_95 : decode cX0_make 95 = .ok (.iinc 3 1, 3) := by decide +kernel
theorem dX0_make_98 : decode cX0_make 98 = .ok (.goto (-71), 3) := by decide +kernel
theorem dX0_make_101 : decode cX0_make 101 = .ok (.return_, 1) := by decide +kernel
theorem dX0_goOnTowards_0 : decode cX0_goOnTowards 0 = .ok (.aload_n 1, 1) := by decide +kernel
theorem dX0_goOnTowards_1 : decode cX0_goOnTowards 1 = .ok (.iload_n 2, 1) := by decide +kernel
theorem dX0_goOnTowards_2 : decode cX0_goOnTowards 2 = .ok (.iload_n 3, 1) := by decide +kernel
theorem dX0_goOnTowards_3 : decode cX0_goOnTowards 3 = .ok (.invokevirtual 83, 3) := by decide +kernel
theorem dX0_goOnTowards_6 : decode cX0_goOnTowards 6 = .ok (.istore 5, 2) := by decide +kernel
theorem dX0_goOnTowards_8 : decode cX0_goOnTowards 8 = .ok (.iconst 0, 1) := by decide +kernel
theorem dX0_goOnTowards_9 : decode cX0_goOnTowards 9 = .ok (.istore 6, 2) := by decide +kernel
theorem dX0_goOnTowards_11 : decode cX0_goOnTowards 11 = .ok (.iload 6, 2) := by decide +kernel
theorem dX0_goOnTowards_13 : decode cX0_goOnTowards 13 = .ok (.aload_n 0, 1) := by decide +kernel
theorem dX0_goOnTowards_14 : decode cX0_goOnTowards 14 = .ok (.getfield 9, 3) := by decide +kernel
theorem dX0_goOnTowards_17 : decode cX0_goOnTowards 17 = .ok (.if_icmp .ge 51, 3) := by decide +kernel
theorem dX0_goOnTowards_20 : decode cX0_goOnTowards 20 = .ok (.iload 5, 2) := by decide +kernel
theorem dX0_goOnTowards_22 : decode cX0_goOnTowards 22 = .ok (.iload 6, 2) := by decide +kernel
theorem dX0_goOnTowards_24 : decode cX0_goOnTowards 24 = .ok (.ishr, 1) := by decide +kernel
theorem dX0_goOnTowards_25 : decode cX0_goOnTowards 25 = .ok (.iconst 1, 1) := by decide +kernel
theorem dX0_goOnTowards_26 : decode cX0_goOnTowards 26 = .ok (.iand, 1) := by decide +kernel
theorem dX0_goOnTowards_27 : decode cX0_goOnTowards 27 = .ok (.ifCond .eq 35, 3) := by decide +kernel
theorem dX0_goOnTowards_30 : decode cX0_goOnTowards 30 = .ok (.aload_n 1, 1) := by decide +kernel
theorem dX0_goOnTowards_31 : decode cX0_goOnTowards 31 = .ok (.iload_n 2, 1) := by decide +kernel
theorem dX0_goOnTowards_32 : decode cX0_goOnTowards 32 = .ok (.iload_n 3, 1) := by decide +kernel
theorem dX0_goOnTowards_33 : decode cX0_goOnTowards 33 = .ok (.iload 6, 2) := by decide +kernel
theorem dX0_goOnTowards_35 : decode cX0_goOnTowards 35 = .ok (.invokevirtual 86, 3) := by decide +kernel
theorem dX0_goOnTowards_38 : decode cX0_goOnTowards 38 = .ok (.istore 7, 2) := by decide +kernel
theorem dX0_goOnTowards_40 : decode cX0_goOnTowards 40 = .ok (.aload_n 0, 1) := by decide +kernel
theorem dX0_goOnTowards_41 : decode cX0_goOnTowards 41 = .ok (.getfield 28, 3) := by decide +kernel
theorem dX0_goOnTowards_44 : decode cX0_goOnTowards 44 = .ok (.iload 4, 2) := by decide +kernel
theorem dX0_goOnTowards_46 : decode cX0_goOnTowards 46 = .ok (.iload 7, 2) := by decide +kernel
theorem dX0_goOnTowards_48 : decode cX0_goOnTowards 48 = .ok (.invokestatic 90, 3) := by decide +kernel
theorem dX0_goOnTowards_51 : decode cX0_goOnTowards 51 = .ok (.invokestatic 73, 3) := by decide +kernel
theorem dX0_goOnTowards_54 : decode cX0_goOnTowards 54 = .ok (.iaload, 1) := by decide +kernel
theorem dX0_goOnTowards_55 : decode cX0_goOnTowards 55 = .ok (.iload_n 3, 1) := by decide +kernel
theorem dX0_goOnTowards_56 : decode cX0_goOnTowards 56 = .ok (.if_icmp .le 6, 3) := by decide +kernel
theorem dX0_goOnTowards_59 : decode cX0_goOnTowards 59 = .ok (.iload 7, 2) := by decide +kernel
theorem dX0_goOnTowards_61 : decode cX0_goOnTowards 61 = .ok (.ireturn, 1) := by decide +kernel
theorem dX0_goOnTowards_62 : decode cX0_goOnTowards 62 = .ok (.iinc 6 1, 3) := by decide +kernel
theorem dX0_goOnTowards_65 : decode cX0_goOnTowards 65 = .ok (.goto (-54), 3) := by decide +kernel
theorem dX0_goOnTowards_68 : decode cX0_goOnTowards 68 = .ok (.iload_n 2, 1) := by decide +kernel
theorem dX0_goOnTowards_69 : decode cX0_goOnTowards 69 = .ok (.ireturn, 1) := by decide +kernel
theorem dX0_firstMove_0 : decode cX0_firstMove 0 = .ok (.aload_n 0, 1) := by decide +kernel
theorem dX0_firstMove_1 : decode cX0_firstMove 1 = .ok (.aload_n 1, 1) := by decide +kernel
theorem dX0_firstMove_2 : decode cX0_firstMove 2 = .ok (.iload_n 2, 1) := by decide +kernel
theorem dX0_firstMove_3 : decode cX0_firstMove 3 = .ok (.invokevirtual 43, 3) := by decide +kernel
theorem dX0_firstMove_6 : decode cX0_firstMove 6 = .ok (.aload_n 0, 1) := by decide +kernel
theorem dX0_firstMove_7 : decode cX0_firstMove 7 = .ok (.getfield 28, 3) := by decide +kernel
theorem dX0_firstMove_10 : decode cX0_firstMove 10 = .ok (.iload_n 3, 1) := by decide +kernel
theorem dX0_firstMove_11 : decode cX0_firstMove 11 = .ok (.iaload, 1) := by decide +kernel
theorem dX0_firstMove_12 : decode cX0_firstMove 12 = .ok (.iconst (-1), 1) := by decide +kernel
theorem dX0_firstMove_13 : decode cX0_firstMove 13 = .ok (.if_icmp .ne 5, 3) := by decide +kernel
theorem dX0_firstMove_16 : decode cX0_firstMove 16 = .ok (.iconst (-1), 1) := by decide +kernel
theorem dX0_firstMove_17 : decode cX0_firstMove 17 = .ok (.ireturn, 1) := by decide +kernel
theorem dX0_firstMove_18 : decode cX0_firstMove 18 = .ok (.ldc 78, 2) := by decide +kernel
theorem dX0_firstMove_20 : decode cX0_firstMove 20 = .ok (.istore 4, 2) := by decide +kernel
theorem dX0_firstMove_22 : decode cX0_firstMove 22 = .ok (.iconst 0, 1) := by decide +kernel
theorem dX0_firstMove_23 : decode cX0_firstMove 23 = .ok (.istore 5, 2) := by decide +kernel
theorem dX0_firstMove_25 : decode cX0_firstMove 25 = .ok (.iload 5, 2) := by decide +kernel
theorem dX0_firstMove_27 : decode cX0_firstMove 27 = .ok (.aload_n 0, 1) := by decide +kernel
theorem dX0_firstMove_28 : decode cX0_firstMove 28 = .ok (.getfield 9, 3) := by decide +kernel
theorem dX0_firstMove_31 : decode cX0_firstMove 31 = .ok (.if_icmp .ge 21, 3) := by decide +kernel
theorem dX0_firstMove_34 : decode cX0_firstMove 34 = .ok (.aload_n 0, 1) := by decide +kernel
theorem dX0_firstMove_35 : decode cX0_firstMove 35 = .ok (.aload_n 1, 1) := by decide +kernel
theorem dX0_firstMove_36 : decode cX0_firstMove 36 = .ok (.iload 4, 2) := by decide +kernel
theorem dX0_firstMove_38 : decode cX0_firstMove 38 = .ok (.iload 5, 2) := by decide +kernel
theorem dX0_firstMove_40 : decode cX0_firstMove 40 = .ok (.iload_n 3, 1) := by decide +kernel
theorem dX0_firstMove_41 : decode cX0_firstMove 41 = .ok (.invokevirtual 79, 3) := by decide +kernel
theorem dX0_firstMove_44 : decode cX0_firstMove 44 = .ok (.istore 4, 2) := by decide +kernel
theorem dX0_firstMove_46 : decode cX0_firstMove 46 = .ok (.iinc 5 1, 3) := by decide +kernel
theorem dX0_firstMove_49 : decode cX0_firstMove 49 = .ok (.goto (-24), 3) := by decide +kernel
theorem dX0_firstMove_52 : decode cX0_firstMove 52 = .ok (.iload 4, 2) := by decide +kernel
theorem dX0_firstMove_54 : decode cX0_firstMove 54 = .ok (.ireturn, 1) := by decide +kernel
theorem dX0_first_0 : decode cX0_first 0 = .ok (.aload_n 0, 1) := by decide +kernel
theorem dX0_first_1 : decode cX0_first 1 = .ok (.getfield 22, 3) := by decide +kernel
theorem dX0_first_4 : decode cX0_first 4 = .ok (.iload_n 1, 1) := by decide +kernel
theorem dX0_first_5 : decode cX0_first 5 = .ok (.sipush 255, 3) := by decide +kernel
theorem dX0_first_8 : decode cX0_first 8 = .ok (.iand, 1) := by decide +kernel
theorem dX0_first_9 : decode cX0_first 9 = .ok (.iaload, 1) := by decide +kernel
theorem dX0_first_10 : decode cX0_first 10 = .ok (.ireturn, 1) := by decide +kernel
theorem dX0_start_0 : decode cX0_start 0 = .ok (.aload_n 0, 1) := by decide +kernel
theorem dX0_start_1 : decode cX0_start 1 = .ok (.getfield 19, 3) := by decide +kernel
theorem dX0_start_4 : decode cX0_start 4 = .ok (.iconst 0, 1) := by decide +kernel
theorem dX0_start_5 : decode cX0_start 5 = .ok (.iload_n 1, 1) := by decide +kernel
theorem dX0_start_6 : decode cX0_start 6 = .ok (.aload_n 0, 1) := by decide +kernel
theorem dX0_start_7 : decode cX0_start 7 = .ok (.getfield 9, 3) := by decide +kernel
theorem dX0_start_10 : decode cX0_start 10 = .ok (.iconst 1, 1) := by decide +kernel
theorem dX0_start_11 : decode cX0_start 11 = .ok (.iadd, 1) := by decide +kernel
theorem dX0_start_12 : decode cX0_start 12 = .ok (.invokestatic 93, 3) := by decide +kernel
theorem dX0_start_15 : decode cX0_start 15 = .ok (.invokestatic 98, 3) := by decide +kernel
theorem dX0_start_18 : decode cX0_start 18 = .ok (.iaload, 1) := by decide +kernel
theorem dX0_start_19 : decode cX0_start 19 = .ok (.ireturn, 1) := by decide +kernel
theorem dX0_countWith_0 : decode cX0_countWith 0 = .ok (.iload_n 1, 1) := by decide +kernel
theorem dX0_countWith_1 : decode cX0_countWith 1 = .ok (.invokestatic 47, 3) := by decide +kernel
theorem dX0_countWith_4 : decode cX0_countWith 4 = .ok (.istore_n 2, 1) := by decide +kernel
theorem dX0_countWith_5 : decode cX0_countWith 5 = .ok (.aload_n 0, 1) := by decide +kernel
theorem dX0_countWith_6 : decode cX0_countWith 6 = .ok (.iload_n 1, 1) := by decide +kernel
theorem dX0_countWith_7 : decode cX0_countWith 7 = .ok (.invokevirtual 101, 3) := by decide +kernel
theorem dX0_countWith_10 : decode cX0_countWith 10 = .ok (.istore_n 3, 1) := by decide +kernel
theorem dX0_countWith_11 : decode cX0_countWith 11 = .ok (.iconst 0, 1) := by decide +kernel
theorem dX0_countWith_12 : decode cX0_countWith 12 = .ok (.istore 4, 2) := by decide +kernel
theorem dX0_countWith_14 : decode cX0_countWith 14 = .ok (.aload_n 0, 1) := by decide +kernel
theorem dX0_countWith_15 : decode cX0_countWith 15 = .ok (.iload_n 2, 1) := by decide +kernel
theorem dX0_countWith_16 : decode cX0_countWith 16 = .ok (.invokevirtual 104, 3) := by decide +kernel
theorem dX0_countWith_19 : decode cX0_countWith 19 = .ok (.istore 5, 2) := by decide +kernel
theorem dX0_countWith_21 : decode cX0_countWith 21 = .ok (.iload 5, 2) := by decide +kernel
theorem dX0_countWith_23 : decode cX0_countWith 23 = .ok (.aload_n 0, 1) := by decide +kernel
theorem dX0_countWith_24 : decode cX0_countWith 24 = .ok (.iload_n 2, 1) := by decide +kernel
theorem dX0_countWith_25 : decode cX0_countWith 25 = .ok (.iconst 1, 1) := by decide +kernel
theorem dX0_countWith_26 : decode cX0_countWith 26 = .ok (.iadd, 1) := by decide +kernel
theorem dX0_countWith_27 : decode cX0_countWith 27 = .ok (.invokevirtual 104, 3) := by decide +kernel
theorem dX0_countWith_30 : decode cX0_countWith 30 = .ok (.if_icmp .ge 27, 3) := by decide +kernel
theorem dX0_countWith_33 : decode cX0_countWith 33 = .ok (.aload_n 0, 1) := by decide +kernel
theorem dX0_countWith_34 : decode cX0_countWith 34 = .ok (.aload_n 0, 1) := by decide +kernel
theorem dX0_countWith_35 : decode cX0_countWith 35 = .ok (.getfield 15, 3) := by decide +kernel
theorem dX0_countWith_38 : decode cX0_countWith 38 = .ok (.iload 5, 2) := by decide +kernel
theorem dX0_countWith_40 : decode cX0_countWith 40 = .ok (.iaload, 1) := by decide +kernel
theorem dX0_countWith_41 : decode cX0_countWith 41 = .ok (.invokevirtual 101, 3) := by decide +kernel
theorem dX0_countWith_44 : decode cX0_countWith 44 = .ok (.iload_n 3, 1) := by decide +kernel
theorem dX0_countWith_45 : decode cX0_countWith 45 = .ok (.if_icmp .ne 6, 3) := by decide +kernel
theorem dX0_countWith_48 : decode cX0_countWith 48 = .ok (.iinc 4 1, 3) := by decide +kernel
theorem dX0_countWith_51 : decode cX0_countWith 51 = .ok (.iinc 5 1, 3) := by decide +kernel
theorem dX0_countWith_54 : decode cX0_countWith 54 = .ok (.goto (-33), 3) := by decide +kernel
theorem dX0_countWith_57 : decode cX0_countWith 57 = .ok (.iload 4, 2) := by decide +kernel
theorem dX0_countWith_59 : decode cX0_countWith 59 = .ok (.ireturn, 1) := by decide +kernel
theorem dX0_nthWith_0 : decode cX0_nthWith 0 = .ok (.iload_n 1, 1) := by decide +kernel
theorem dX0_nthWith_1 : decode cX0_nthWith 1 = .ok (.invokestatic 47, 3) := by decide +kernel
theorem dX0_nthWith_4 : decode cX0_nthWith 4 = .ok (.istore_n 3, 1) := by decide +kernel
theorem dX0_nthWith_5 : decode cX0_nthWith 5 = .ok (.aload_n 0, 1) := by decide +kernel
theorem dX0_nthWith_6 : decode cX0_nthWith 6 = .ok (.iload_n 1, 1) := by decide +kernel
theorem dX0_nthWith_7 : decode cX0_nthWith 7 = .ok (.invokevirtual 101, 3) := by decide +kernel
theorem dX0_nthWith_10 : decode cX0_nthWith 10 = .ok (.istore 4, 2) := by decide +kernel
theorem dX0_nthWith_12 : decode cX0_nthWith 12 = .ok (.iload_n 2, 1) := by decide +kernel
theorem dX0_nthWith_13 : decode cX0_nthWith 13 = .ok (.istore 5, 2) := by decide +kernel
theorem dX0_nthWith_15 : decode cX0_nthWith 15 = .ok (.aload_n 0, 1) := by decide +kernel
theorem dX0_nthWith_16 : decode cX0_nthWith 16 = .ok (.iload_n 3, 1) := by decide +kernel
theorem dX0_nthWith_17 : decode cX0_nthWith 17 = .ok (.invokevirtual 104, 3) := by decide +kernel
theorem dX0_nthWith_20 : decode cX0_nthWith 20 = .ok (.istore 6, 2) := by decide +kernel
theorem dX0_nthWith_22 : decode cX0_nthWith 22 = .ok (.iload 6, 2) := by decide +kernel
theorem dX0_nthWith_24 : decode cX0_nthWith 24 = .ok (.aload_n 0, 1) := by decide +kernel
theorem dX0_nthWith_25 : decode cX0_nthWith 25 = .ok (.iload_n 3, 1) := by decide +kernel
theorem dX0_nthWith_26 : decode cX0_nthWith 26 = .ok (.iconst 1, 1) := by decide +kernel
theorem dX0_nthWith_27 : decode cX0_nthWith 27 = .ok (.iadd, 1) := by decide +kernel
theorem dX0_nthWith_28 : decode cX0_nthWith 28 = .ok (.invokevirtual 104, 3) := by decide +kernel
theorem dX0_nthWith_31 : decode cX0_nthWith 31 = .ok (.if_icmp .ge 41, 3) := by decide +kernel
theorem dX0_nthWith_34 : decode cX0_nthWith 34 = .ok (.aload_n 0, 1) := by decide +kernel
theorem dX0_nthWith_35 : decode cX0_nthWith 35 = .ok (.aload_n 0, 1) := by decide +kernel
theorem dX0_nthWith_36 : decode cX0_nthWith 36 = .ok (.getfield 15, 3) := by decide +kernel
theorem dX0_nthWith_39 : decode cX0_nthWith 39 = .ok (.iload 6, 2) := by decide +kernel
theorem dX0_nthWith_41 : decode cX0_nthWith 41 = .ok (.iaload, 1) := by decide +kernel
theorem dX0_nthWith_42 : decode cX0_nthWith 42 = .ok (.invokevirtual 101, 3) := by decide +kernel
theorem dX0_nthWith_45 : decode cX0_nthWith 45 = .ok (.iload 4, 2) := by decide +kernel
theorem dX0_nthWith_47 : decode cX0_nthWith 47 = .ok (.if_icmp .ne 19, 3) := by decide +kernel
theorem dX0_nthWith_50 : decode cX0_nthWith 50 = .ok (.iload 5, 2) := by decide +kernel
theorem dX0_nthWith_52 : decode cX0_nthWith 52 = .ok (.ifCond .ne 11, 3) := by decide +kernel
theorem dX0_nthWith_55 : decode cX0_nthWith 55 = .ok (.aload_n 0, 1) := by decide +kernel
theorem dX0_nthWith_56 : decode cX0_nthWith 56 = .ok (.getfield 15, 3) := by decide +kernel
theorem dX0_nthWith_59 : decode cX0_nthWith 59 = .ok (.iload 6, 2) := by decide +kernel
theorem dX0_nthWith_61 : decode cX0_nthWith 61 = .ok (.iaload, 1) := by decide +kernel
theorem dX0_nthWith_62 : decode cX0_nthWith 62 = .ok (.ireturn, 1) := by decide +kernel
theorem dX0_nthWith_63 : decode cX0_nthWith 63 = .ok (.iinc 5 (-1), 3) := by decide +kernel
theorem dX0_nthWith_66 : decode cX0_nthWith 66 = .ok (.iinc 6 1, 3) := by decide +kernel
theorem dX0_nthWith_69 : decode cX0_nthWith 69 = .ok (.goto (-47), 3) := by decide +kernel
theorem dX0_nthWith_72 : decode cX0_nthWith 72 = .ok (.bipush (-5), 2) := by decide +kernel
theorem dX0_nthWith_74 : decode cX0_nthWith 74 = .ok (.ireturn, 1) := by decide +kernel
theorem dX0_isFirst_0 : decode cX0_isFirst 0 = .ok (.aload_n 0, 1) := by decide +kernel
theorem dX0_isFirst_1 : decode cX0_isFirst 1 = .ok (.iload_n 1, 1) := by decide +kernel
theorem dX0_isFirst_2 : decode cX0_isFirst 2 = .ok (.invokevirtual 101, 3) := by decide +kernel
theorem dX0_isFirst_5 : decode cX0_isFirst 5 = .ok (.iload_n 1, 1) := by decide +kernel
theorem dX0_isFirst_6 : decode cX0_isFirst 6 = .ok (.if_icmp .ne 7, 3) := by decide +kernel
theorem dX0_isFirst_9 : decode cX0_isFirst 9 = .ok (.iconst 1, 1) := by decide +kernel
theorem dX0_isFirst_10 : decode cX0_isFirst 10 = .ok (.goto 4, 3) := by decide +kernel
theorem dX0_isFirst_13 : decode cX0_isFirst 13 = .ok (.iconst 0, 1) := by decide +kernel
theorem dX0_isFirst_14 : decode cX0_isFirst 14 = .ok (.ireturn, 1) := by decide +kernel
theorem dX0_countFirsts_0 : decode cX0_countFirsts 0 = .ok (.iconst 0, 1) := by decide +kernel
theorem dX0_countFirsts_1 : decode cX0_countFirsts 1 = .ok (.istore_n 2, 1) := by decide +kernel
theorem dX0_countFirsts_2 : decode cX0_countFirsts 2 = .ok (.aload_n 0, 1) := by decide +kernel
theorem dX0_countFirsts_3 : decode cX0_countFirsts 3 = .ok (.iload_n 1, 1) := by decide +kernel
theorem dX0_countFirsts_4 : decode cX0_countFirsts 4 = .ok (.invokevirtual 104, 3) := by decide +kernel
theorem dX0_countFirsts_7 : decode cX0_countFirsts 7 = .ok (.istore_n 3, 1) := by decide +kernel
theorem dX0_countFirsts_8 : decode cX0_countFirsts 8 = .ok (.iload_n 3, 1) := by decide +kernel
theorem dX0_countFirsts_9 : decode cX0_countFirsts 9 = .ok (.aload_n 0, 1) := by decide +kernel
theorem dX0_countFirsts_10 : decode cX0_countFirsts 10 = .ok (.iload_n 1, 1) := by decide +kernel
theorem dX0_countFirsts_11 : decode cX0_countFirsts 11 = .ok (.iconst 1, 1) := by decide +kernel
theorem dX0_countFirsts_12 : decode cX0_countFirsts 12 = .ok (.iadd, 1) := by decide +kernel
theorem dX0_countFirsts_13 : decode cX0_countFirsts 13 = .ok (.invokevirtual 104, 3) := by decide +kernel
theorem dX0_countFirsts_16 : decode cX0_countFirsts 16 = .ok (.if_icmp .ge 25, 3) := by decide +kernel
theorem dX0_countFirsts_19 : decode cX0_countFirsts 19 = .ok (.aload_n 0, 1) := by decide +kernel
theorem dX0_countFirsts_20 : decode cX0_countFirsts 20 = .ok (.aload_n 0, 1) := by decide +kernel
theorem dX0_countFirsts_21 : decode cX0_countFirsts 21 = .ok (.getfield 15, 3) := by decide +kernel
theorem dX0_countFirsts_24 : decode cX0_countFirsts 24 = .ok (.iload_n 3, 1) := by decide +kernel
theorem dX0_countFirsts_25 : decode cX0_countFirsts 25 = .ok (.iaload, 1) := by decide +kernel
theorem dX0_countFirsts_26 : decode cX0_countFirsts 26 = .ok (.invokevirtual 107, 3) := by decide +kernel
theorem dX0_countFirsts_29 : decode cX0_countFirsts 29 = .ok (.ifCond .eq 6, 3) := by decide +kernel
theorem dX0_countFirsts_32 : decode cX0_countFirsts 32 = .ok (.iinc 2 1, 3) := by decide +kernel
theorem dX0_countFirsts_35 : decode cX0_countFirsts 35 = .ok (.iinc 3 1, 3) := by decide +kernel
theorem dX0_countFirsts_38 : decode cX0_countFirsts 38 = .ok (.goto (-30), 3) := by decide +kernel
theorem dX0_countFirsts_41 : decode cX0_countFirsts 41 = .ok (.iload_n 2, 1) := by decide +kernel
theorem dX0_countFirsts_42 : decode cX0_countFirsts 42 = .ok (.ireturn, 1) := by decide +kernel
theorem dX0_nthFirst_0 : decode cX0_nthFirst 0 = .ok (.iload_n 2, 1) := by decide +kernel
theorem dX0_nthFirst_1 : decode cX0_nthFirst 1 = .ok (.istore_n 3, 1) := by decide +kernel
theorem dX0_nthFirst_2 : decode cX0_nthFirst 2 = .ok (.aload_n 0, 1) := by decide +kernel
theorem dX0_nthFirst_3 : decode cX0_nthFirst 3 = .ok (.iload_n 1, 1) := by decide +kernel
theorem dX0_nthFirst_4 : decode cX0_nthFirst 4 = .ok (.invokevirtual 104, 3) := by decide +kernel
theorem dX0_nthFirst_7 : decode cX0_nthFirst 7 = .ok (.istore 4, 2) := by decide +kernel
theorem dX0_nthFirst_9 : decode cX0_nthFirst 9 = .ok (.iload 4, 2) := by decide +kernel
theorem dX0_nthFirst_11 : decode cX0_nthFirst 11 = .ok (.aload_n 0, 1) := by decide +kernel
theorem dX0_nthFirst_12 : decode cX0_nthFirst 12 = .ok (.iload_n 1, 1) := by decide +kernel
theorem dX0_nthFirst_13 : decode cX0_nthFirst 13 = .ok (.iconst 1, 1) := by decide +kernel
theorem dX0_nthFirst_14 : decode cX0_nthFirst 14 = .ok (.iadd, 1) := by decide +kernel
theorem dX0_nthFirst_15 : decode cX0_nthFirst 15 = .ok (.invokevirtual 104, 3) := by decide +kernel
theorem dX0_nthFirst_18 : decode cX0_nthFirst 18 = .ok (.if_icmp .ge 38, 3) := by decide +kernel
theorem dX0_nthFirst_21 : decode cX0_nthFirst 21 = .ok (.aload_n 0, 1) := by decide +kernel
theorem dX0_nthFirst_22 : decode cX0_nthFirst 22 = .ok (.aload_n 0, 1) := by decide +kernel
theorem dX0_nthFirst_23 : decode cX0_nthFirst 23 = .ok (.getfield 15, 3) := by decide +kernel
theorem dX0_nthFirst_26 : decode cX0_nthFirst 26 = .ok (.iload 4, 2) := by decide +kernel
theorem dX0_nthFirst_28 : decode cX0_nthFirst 28 = .ok (.iaload, 1) := by decide +kernel
theorem dX0_nthFirst_29 : decode cX0_nthFirst 29 = .ok (.invokevirtual 107, 3) := by decide +kernel
theorem dX0_nthFirst_32 : decode cX0_nthFirst 32 = .ok (.ifCond .eq 18, 3) := by decide +kernel
theorem dX0_nthFirst_35 : decode cX0_nthFirst 35 = .ok (.iload_n 3, 1) := by decide +kernel
theorem dX0_nthFirst_36 : decode cX0_nthFirst 36 = .ok (.ifCond .ne 11, 3) := by decide +kernel
theorem dX0_nthFirst_39 : decode cX0_nthFirst 39 = .ok (.aload_n 0, 1) := by decide +kernel
theorem dX0_nthFirst_40 : decode cX0_nthFirst 40 = .ok (.getfield 15, 3) := by decide +kernel
theorem dX0_nthFirst_43 : decode cX0_nthFirst 43 = .ok (.iload 4, 2) := by decide +kernel
theorem dX0_nthFirst_45 : decode cX0_nthFirst 45 = .ok (.iaload, 1) := by decide +kernel
theorem dX0_nthFirst_46 : decode cX0_nthFirst 46 = .ok (.ireturn, 1) := by decide +kernel
theorem dX0_nthFirst_47 : decode cX0_nthFirst 47 = .ok (.iinc 3 (-1), 3) := by decide +kernel
theorem dX0_nthFirst_50 : decode cX0_nthFirst 50 = .ok (.iinc 4 1, 3) := by decide +kernel
theorem dX0_nthFirst_53 : decode cX0_nthFirst 53 = .ok (.goto (-44), 3) := by decide +kernel
theorem dX0_nthFirst_56 : decode cX0_nthFirst 56 = .ok (.bipush (-5), 2) := by decide +kernel
theorem dX0_nthFirst_58 : decode cX0_nthFirst 58 = .ok (.ireturn, 1) := by decide +kernel
theorem dX0_placeOfFirst_0 : decode cX0_placeOfFirst 0 = .ok (.iload_n 1, 1) := by decide +kernel
theorem dX0_placeOfFirst_1 : decode cX0_placeOfFirst 1 = .ok (.invokestatic 47, 3) := by decide +kernel
theorem dX0_placeOfFirst_4 : decode cX0_placeOfFirst 4 = .ok (.istore_n 2, 1) := by decide +kernel
theorem dX0_placeOfFirst_5 : decode cX0_placeOfFirst 5 = .ok (.iconst 0, 1) := by decide +kernel
theorem dX0_placeOfFirst_6 : decode cX0_placeOfFirst 6 = .ok (.istore_n 3, 1) := by decide +kernel
theorem dX0_placeOfFirst_7 : decode cX0_placeOfFirst 7 = .ok (.aload_n 0, 1) := by decide +kernel
theorem dX0_placeOfFirst_8 : decode cX0_placeOfFirst 8 = .ok (.iload_n 2, 1) := by decide +kernel
theorem dX0_placeOfFirst_9 : decode cX0_placeOfFirst 9 = .ok (.invokevirtual 104, 3) := by decide +kernel
theorem dX0_placeOfFirst_12 : decode cX0_placeOfFirst 12 = .ok (.istore 4, 2) := by decide +kernel
theorem dX0_placeOfFirst_14 : decode cX0_placeOfFirst 14 = .ok (.iload 4, 2) := by decide +kernel
theorem dX0_placeOfFirst_16 : decode cX0_placeOfFirst 16 = .ok (.aload_n 0, 1) := by decide +kernel
theorem dX0_placeOfFirst_17 : decode cX0_placeOfFirst 17 = .ok (.iload_n 2, 1) := by decide +kernel
theorem dX0_placeOfFirst_18 : decode cX0_placeOfFirst 18 = .ok (.iconst 1, 1) := by decide +kernel
theorem dX0_placeOfFirst_19 : decode cX0_placeOfFirst 19 = .ok (.iadd, 1) := by decide +kernel
theorem dX0_placeOfFirst_20 : decode cX0_placeOfFirst 20 = .ok (.invokevirtual 104, 3) := by decide +kernel
theorem dX0_placeOfFirst_23 : decode cX0_placeOfFirst 23 = .ok (.if_icmp .ge 41, 3) := by decide +kernel
theorem dX0_placeOfFirst_26 : decode cX0_placeOfFirst 26 = .ok (.aload_n 0, 1) := by decide +kernel
theorem dX0_placeOfFirst_27 : decode cX0_placeOfFirst 27 = .ok (.getfield 15, 3) := by decide +kernel
theorem dX0_placeOfFirst_30 : decode cX0_placeOfFirst 30 = .ok (.iload 4, 2) := by decide +kernel
theorem dX0_placeOfFirst_32 : decode cX0_placeOfFirst 32 = .ok (.iaload, 1) := by decide +kernel
theorem dX0_placeOfFirst_33 : decode cX0_placeOfFirst 33 = .ok (.aload_n 0, 1) := by decide +kernel
theorem dX0_placeOfFirst_34 : decode cX0_placeOfFirst 34 = .ok (.iload_n 1, 1) := by decide +kernel
theorem dX0_placeOfFirst_35 : decode cX0_placeOfFirst 35 = .ok (.invokevirtual 101, 3) := by decide +kernel
theorem dX0_placeOfFirst_38 : decode cX0_placeOfFirst 38 = .ok (.if_icmp .eq 26, 3) := by decide +kernel
theorem dX0_placeOfFirst_41 : decode cX0_placeOfFirst 41 = .ok (.aload_n 0, 1) := by decide +kernel
theorem dX0_placeOfFirst_42 : decode cX0_placeOfFirst 42 = .ok (.aload_n 0, 1) := by decide +kernel
theorem dX0_placeOfFirst_43 : decode cX0_placeOfFirst 43 = .ok (.getfield 15, 3) := by decide +kernel
theorem dX0_placeOfFirst_46 : decode cX0_placeOfFirst 46 = .ok (.iload 4, 2) := by decide +kernel
theorem dX0_placeOfFirst_48 : decode cX0_placeOfFirst 48 = .ok (.iaload, 1) := by decide +kernel
theorem dX0_placeOfFirst_49 : decode cX0_placeOfFirst 49 = .ok (.invokevirtual 107, 3) := by decide +kernel
theorem dX0_placeOfFirst_52 : decode cX0_placeOfFirst 52 = .ok (.ifCond .eq 6, 3) := by decide +kernel
theorem dX0_placeOfFirst_55 : decode cX0_placeOfFirst 55 = .ok (.iinc 3 1, 3) := by decide +kernel
theorem dX0_placeOfFirst_58 : decode cX0_placeOfFirst 58 = .ok (.iinc 4 1, 3) := by decide +kernel
theorem dX0_placeOfFirst_61 : decode cX0_placeOfFirst 61 = .ok (.goto (-47), 3) := by decide +kernel
theorem dX0_placeOfFirst_64 : decode cX0_placeOfFirst 64 = .ok (.iload_n 3, 1) := by decide +kernel
theorem dX0_placeOfFirst_65 : decode cX0_placeOfFirst 65 = .ok (.ireturn, 1) := by decide +kernel
theorem dX0_digestFirsts_0 : decode cX0_digestFirsts 0 = .ok (.ldc2_w 111, 3) := by decide +kernel
theorem dX0_digestFirsts_3 : decode cX0_digestFirsts 3 = .ok (.lload_n 2, 1) := by decide +kernel
theorem dX0_digestFirsts_4 : decode cX0_digestFirsts 4 = .ok (.lmul, 1) := by decide +kernel
theorem dX0_digestFirsts_5 : decode cX0_digestFirsts 5 = .ok (.aload_n 0, 1) := by decide +kernel
theorem dX0_digestFirsts_6 : decode cX0_digestFirsts 6 = .ok (.iload_n 1, 1) := by decide +kernel
theorem dX0_digestFirsts_7 : decode cX0_digestFirsts 7 = .ok (.invokevirtual 113, 3) := by decide +kernel
theorem dX0_digestFirsts_10 : decode cX0_digestFirsts 10 = .ok (.i2l, 1) := by decide +kernel
theorem dX0_digestFirsts_11 : decode cX0_digestFirsts 11 = .ok (.ladd, 1) := by decide +kernel
theorem dX0_digestFirsts_12 : decode cX0_digestFirsts 12 = .ok (.lstore 4, 2) := by decide +kernel
theorem dX0_digestFirsts_14 : decode cX0_digestFirsts 14 = .ok (.aload_n 0, 1) := by decide +kernel
theorem dX0_digestFirsts_15 : decode cX0_digestFirsts 15 = .ok (.iload_n 1, 1) := by decide +kernel
theorem dX0_digestFirsts_16 : decode cX0_digestFirsts 16 = .ok (.invokevirtual 104, 3) := by decide +kernel
theorem dX0_digestFirsts_19 : decode cX0_digestFirsts 19 = .ok (.istore 6, 2) := by decide +kernel
theorem dX0_digestFirsts_21 : decode cX0_digestFirsts 21 = .ok (.iload 6, 2) := by decide +kernel
theorem dX0_digestFirsts_23 : decode cX0_digestFirsts 23 = .ok (.aload_n 0, 1) := by decide +kernel
theorem dX0_digestFirsts_24 : decode cX0_digestFirsts 24 = .ok (.iload_n 1, 1) := by decide +kernel
theorem dX0_digestFirsts_25 : decode cX0_digestFirsts 25 = .ok (.iconst 1, 1) := by decide +kernel
theorem dX0_digestFirsts_26 : decode cX0_digestFirsts 26 = .ok (.iadd, 1) := by decide +kernel
theorem dX0_digestFirsts_27 : decode cX0_digestFirsts 27 = .ok (.invokevirtual 104, 3) := by decide +kernel
theorem dX0_digestFirsts_30 : decode cX0_digestFirsts 30 = .ok (.if_icmp .ge 40, 3) := by decide +kernel
theorem dX0_digestFirsts_33 : decode cX0_digestFirsts 33 = .ok (.aload_n 0, 1) := by decide +kernel
theorem dX0_digestFirsts_34 : decode cX0_digestFirsts 34 = .ok (.aload_n 0, 1) := by decide +kernel
theorem dX0_digestFirsts_35 : decode cX0_digestFirsts 35 = .ok (.getfield 15, 3) := by decide +kernel
theorem dX0_digestFirsts_38 : decode cX0_digestFirsts 38 = .ok (.iload 6, 2) := by decide +kernel
theorem dX0_digestFirsts_40 : decode cX0_digestFirsts 40 = .ok (.iaload, 1) := by decide +kernel
theorem dX0_digestFirsts_41 : decode cX0_digestFirsts 41 = .ok (.invokevirtual 107, 3) := by decide +kernel
theorem dX0_digestFirsts_44 : decode cX0_digestFirsts 44 = .ok (.ifCond .eq 20, 3) := by decide +kernel
theorem dX0_digestFirsts_47 : decode cX0_digestFirsts 47 = .ok (.ldc2_w 111, 3) := by decide +kernel
theorem dX0_digestFirsts_50 : decode cX0_digestFirsts 50 = .ok (.lload 4, 2) := by decide +kernel
theorem dX0_digestFirsts_52 : decode cX0_digestFirsts 52 = .ok (.lmul, 1) := by decide +kernel
theorem dX0_digestFirsts_53 : decode cX0_digestFirsts 53 = .ok (.aload_n 0, 1) := by decide +kernel
theorem dX0_digestFirsts_54 : decode cX0_digestFirsts 54 = .ok (.getfield 15, 3) := by decide +kernel
theorem dX0_digestFirsts_57 : decode cX0_digestFirsts 57 = .ok (.iload 6, 2) := by decide +kernel
theorem dX0_digestFirsts_59 : decode cX0_digestFirsts 59 = .ok (.iaload, 1) := by decide +kernel
theorem dX0_digestFirsts_60 : decode cX0_digestFirsts 60 = .ok (.i2l, 1) := by decide +kernel
theorem dX0_digestFirsts_61 : decode cX0_digestFirsts 61 = .ok (.ladd, 1) := by decide +kernel
theorem dX0_digestFirsts_62 : decode cX0_digestFirsts 62 = .ok (.lstore 4, 2) := by decide +kernel
theorem dX0_digestFirsts_64 : decode cX0_digestFirsts 64 = .ok (.iinc 6 1, 3) := by decide +kernel
theorem dX0_digestFirsts_67 : decode cX0_digestFirsts 67 = .ok (.goto (-46), 3) := by decide +kernel
theorem dX0_digestFirsts_70 : decode cX0_digestFirsts 70 = .ok (.lload 4, 2) := by decide +kernel
theorem dX0_digestFirsts_72 : decode cX0_digestFirsts 72 = .ok (.lreturn, 1) := by decide +kernel
theorem dX0_orbit_0 : decode cX0_orbit 0 = .ok (.iconst 0, 1) := by decide +kernel
theorem dX0_orbit_1 : decode cX0_orbit 1 = .ok (.istore_n 2, 1) := by decide +kernel
theorem dX0_orbit_2 : decode cX0_orbit 2 = .ok (.iconst 0, 1) := by decide +kernel
theorem dX0_orbit_3 : decode cX0_orbit 3 = .ok (.istore_n 3, 1) := by decide +kernel
theorem dX0_orbit_4 : decode cX0_orbit 4 = .ok (.iload_n 3, 1) := by decide +kernel
theorem dX0_orbit_5 : decode cX0_orbit 5 = .ok (.aload_n 0, 1) := by decide +kernel
theorem dX0_orbit_6 : decode cX0_orbit 6 = .ok (.getfield 9, 3) := by decide +kernel
theorem dX0_orbit_9 : decode cX0_orbit 9 = .ok (.if_icmp .ge 32, 3) := by decide +kernel
theorem dX0_orbit_12 : decode cX0_orbit 12 = .ok (.aload_n 0, 1) := by decide +kernel
theorem dX0_orbit_13 : decode cX0_orbit 13 = .ok (.iconst 1, 1) := by decide +kernel
theorem dX0_orbit_14 : decode cX0_orbit 14 = .ok (.iload_n 3, 1) := by decide +kernel
theorem dX0_orbit_15 : decode cX0_orbit 15 = .ok (.ishl, 1) := by decide +kernel
theorem dX0_orbit_16 : decode cX0_orbit 16 = .ok (.invokevirtual 101, 3) := by decide +kernel
theorem dX0_orbit_19 : decode cX0_orbit 19 = .ok (.aload_n 0, 1) := by decide +kernel
theorem dX0_orbit_20 : decode cX0_orbit 20 = .ok (.iconst 1, 1) := by decide +kernel
theorem dX0_orbit_21 : decode cX0_orbit 21 = .ok (.iload_n 1, 1) := by decide +kernel
theorem dX0_orbit_22 : decode cX0_orbit 22 = .ok (.ishl, 1) := by decide +kernel
theorem dX0_orbit_23 : decode cX0_orbit 23 = .ok (.invokevirtual 101, 3) := by decide +kernel
theorem dX0_orbit_26 : decode cX0_orbit 26 = .ok (.if_icmp .ne 9, 3) := by decide +kernel
theorem dX0_orbit_29 : decode cX0_orbit 29 = .ok (.iload_n 2, 1) := by decide +kernel
theorem dX0_orbit_30 : decode cX0_orbit 30 = .ok (.iconst 1, 1) := by decide +kernel
theorem dX0_orbit_31 : decode cX0_orbit 31 = .ok (.iload_n 3, 1) := by decide +kernel
theorem dX0_orbit_32 : decode cX0_orbit 32 = .ok (.ishl, 1) := by decide +kernel
theorem dX0_orbit_33 : decode cX0_orbit 33 = .ok (.ior, 1) := by decide +kernel
theorem dX0_orbit_34 : decode cX0_orbit 34 = .ok (.istore_n 2, 1) := by decide +kernel
theorem dX0_orbit_35 : decode cX0_orbit 35 = .ok (.iinc 3 1, 3) := by decide +kernel
theorem dX0_orbit_38 : decode cX0_orbit 38 = .ok (.goto (-34), 3) := by decide +kernel
theorem dX0_orbit_41 : decode cX0_orbit 41 = .ok (.iload_n 2, 1) := by decide +kernel
theorem dX0_orbit_42 : decode cX0_orbit 42 = .ok (.ireturn, 1) := by decide +kernel
theorem dX0_leastPoint_0 : decode cX0_leastPoint 0 = .ok (.iconst 0, 1) := by decide +kernel
theorem dX0_leastPoint_1 : decode cX0_leastPoint 1 = .ok (.istore_n 2, 1) := by decide +kernel
theorem dX0_leastPoint_2 : decode cX0_leastPoint 2 = .ok (.iload_n 2, 1) := by decide +kernel
theorem dX0_leastPoint_3 : decode cX0_leastPoint 3 = .ok (.iload_n 1, 1) := by decide +kernel
theorem dX0_leastPoint_4 : decode cX0_leastPoint 4 = .ok (.if_icmp .ge 26, 3) := by decide +kernel
theorem dX0_leastPoint_7 : decode cX0_leastPoint 7 = .ok (.aload_n 0, 1) := by decide +kernel
theorem dX0_leastPoint_8 : decode cX0_leastPoint 8 = .ok (.iconst 1, 1) := by decide +kernel
theorem dX0_leastPoint_9 : decode cX0_leastPoint 9 = .ok (.iload_n 2, 1) := by decide +kernel
theorem dX0_leastPoint_10 : decode cX0_leastPoint 10 = .ok (.ishl, 1) := by decide +kernel
theorem dX0_leastPoint_11 : decode cX0_leastPoint 11 = .ok (.invokevirtual 101, 3) := by decide +kernel
theorem dX0_leastPoint_14 : decode cX0_leastPoint 14 = .ok (.aload_n 0, 1) := by decide +kernel
theorem dX0_leastPoint_15 : decode cX0_leastPoint 15 = .ok (.iconst 1, 1) := by decide +kernel
theorem dX0_leastPoint_16 : decode cX0_leastPoint 16 = .ok (.iload_n 1, 1) := by decide +kernel
theorem dX0_leastPoint_17 : decode cX0_leastPoint 17 = .ok (.ishl, 1) := by decide +kernel
theorem dX0_leastPoint_18 : decode cX0_leastPoint 18 = .ok (.invokevirtual 101, 3) := by decide +kernel
theorem dX0_leastPoint_21 : decode cX0_leastPoint 21 = .ok (.if_icmp .eq 9, 3) := by decide +kernel
theorem dX0_leastPoint_24 : decode cX0_leastPoint 24 = .ok (.iinc 2 1, 3) := by decide +kernel
theorem dX0_leastPoint_27 : decode cX0_leastPoint 27 = .ok (.goto (-25), 3) := by decide +kernel
theorem dX0_leastPoint_30 : decode cX0_leastPoint 30 = .ok (.iload_n 2, 1) := by decide +kernel
theorem dX0_leastPoint_31 : decode cX0_leastPoint 31 = .ok (.ireturn, 1) := by decide +kernel
theorem gc_X0_47 : GoodIn xtb (va_wsS RX0 47 yJ6_bitCount_0f7a4 (xW yJ6_bitCount_0f7a4 cJ6_bitCount_0f7a4 1 (some .int))) := x_goodS lkM_X0_47 wT_J6_bitCount_0f7a4 wN_J6 wC_J6_bitCount_0f7a4
theorem gc_X0_53 : GoodIn xtb (wsV RX0 53 yX0_turnRound.cls yX0_turnRound (xW yX0_turnRound cX0_turnRound 4 (some .int))) := x_good lkM_X0_53 wI_X0_turnRound wS_X0_turnRound wN_X0 wC_X0_turnRound
theorem gc_X0_56 : GoodIn xtb (wsV RX0 56 yX0_reach.cls yX0_reach (xW yX0_reach cX0_reach 3 none)) := x_good lkM_X0_56 wI_X0_reach wS_X0_reach wN_X0 wC_X0_reach
theorem gc_X0_73 : GoodIn xtb (va_wsS RX0 73 yX2_carry (xW yX2_carry cX2_carry 5 (some .int))) := x_goodS lkM_X0_73 wT_X2_carry wN_X2 wC_X2_carry
theorem gc_X0_60 : GoodIn xtb (wsV RX0 60 yX1_chain.cls yX1_chain (xW yX1_chain cX1_chain 2 (some .int))) := x_good lkM_X0_60 wI_X1_chain wS_X1_chain wN_X1 wC_X1_chain
theorem gc_X0_65 : GoodIn xtb (wsV RX0 65 yX1_step.cls yX1_step (xW yX1_step cX1_step 3 (some .int))) := x_good lkM_X0_65 wI_X1_step wS_X1_step wN_X1 wC_X1_step
theorem gc_X0_69 : GoodIn xtb (wsV RX0 69 yX0_spreadBy.cls yX0_spreadBy (xW yX0_spreadBy cX0_spreadBy 5 none)) := x_good lkM_X0_69 wI_X0_spreadBy wS_X0_spreadBy wN_X0 wC_X0_spreadBy
theorem gc_X0_34 : GoodIn xtb (va_wsS RX0 34 yJ7_fill_53178 (xW yJ7_fill_53178 cJ7_fill_53178 4 none)) := x_goodS lkM_X0_34 wT_J7_fill_53178 wN_J7 wC_J7_fill_53178
theorem gc_X0_40 : GoodIn xtb (wsV RX0 40 yX0_arrange.cls yX0_arrange (xW yX0_arrange cX0_arrange 4 none)) := x_good lkM_X0_40 wI_X0_arrange wS_X0_arrange wN_X0 wC_X0_arrange
theorem gc_X0_43 : GoodIn xtb (wsV RX0 43 yX0_spread.cls yX0_spread (xW yX0_spread cX0_spread 7 none)) := x_good lkM_X0_43 wI_X0_spread wS_X0_spread wN_X0 wC_X0_spread
theorem gc_X0_83 : GoodIn xtb (wsV RX0 83 yX1_choices.cls yX1_choices (xW yX1_choices cX1_choices 3 (some .int))) := x_good lkM_X0_83 wI_X1_choices wS_X1_choices wN_X1 wC_X1_choices
theorem gc_X0_86 : GoodIn xtb (wsV RX0 86 yX1_goOn.cls yX1_goOn (xW yX1_goOn cX1_goOn 4 (some .int))) := x_good lkM_X0_86 wI_X1_goOn wS_X1_goOn wN_X1 wC_X1_goOn
theorem gc_X0_90 : GoodIn xtb (va_wsS RX0 90 yX2_inverse (xW yX2_inverse cX2_inverse 3 (some .int))) := x_goodS lkM_X0_90 wT_X2_inverse wN_X2 wC_X2_inverse
theorem gc_X0_79 : GoodIn xtb (wsV RX0 79 yX0_goOnTowards.cls yX0_goOnTowards (xW yX0_goOnTowards cX0_goOnTowards 8 (some .int))) := x_good lkM_X0_79 wI_X0_goOnTowards wS_X0_goOnTowards wN_X0 wC_X0_goOnTowards
theorem gc_X0_101 : GoodIn xtb (wsV RX0 101 yX0_first.cls yX0_first (xW yX0_first cX0_first 2 (some .int))) := x_good lkM_X0_101 wI_X0_first wS_X0_first wN_X0 wC_X0_first
theorem gc_X0_104 : GoodIn xtb (wsV RX0 104 yX0_start.cls yX0_start (xW yX0_start cX0_start 2 (some .int))) := x_good lkM_X0_104 wI_X0_start wS_X0_start wN_X0 wC_X0_start
theorem gc_X0_107 : GoodIn xtb (wsV RX0 107 yX0_isFirst.cls yX0_isFirst (xW yX0_isFirst cX0_isFirst 2 (some .boolean))) := x_good lkM_X0_107 wI_X0_isFirst wS_X0_isFirst wN_X0 wC_X0_isFirst
theorem gc_X0_113 : GoodIn xtb (wsV RX0 113 yX0_countFirsts.cls yX0_countFirsts (xW yX0_countFirsts cX0_countFirsts 4 (some .int))) := x_good lkM_X0_113 wI_X0_countFirsts wS_X0_countFirsts wN_X0 wC_X0_countFirsts
theorem ds_X0_turnRound : xDs yX0_turnRound 1 := by decide +kernel
theorem ds_X0_arrange : xDs yX0_arrange 0 := by decide +kernel
theorem ds_X0_reach : xDs yX0_reach 2 := by decide +kernel
theorem ds_X0_spreadBy : xDs yX0_spreadBy 3 := by decide +kernel
theorem ds_X0_spread : xDs yX0_spread 2 := by decide +kernel
theorem ds_X0_make : xDs yX0_make 2 := by decide +kernel
theorem ds_X0_goOnTowards : xDs yX0_goOnTowards 4 := by decide +kernel
theorem ds_X0_firstMove : xDs yX0_firstMove 3 := by decide +kernel
theorem ds_X0_first : xDs yX0_first 1 := by decide +kernel
theorem ds_X0_start : xDs yX0_start 1 := by decide +kernel
theorem ds_X0_countWith : xDs yX0_countWith 1 := by decide +kernel
theorem ds_X0_nthWith : xDs yX0_nthWith 2 := by decide +kernel
theorem ds_X0_isFirst : xDs yX0_isFirst 1 := by decide +kernel
theorem ds_X0_countFirsts : xDs yX0_countFirsts 1 := by decide +kernel
theorem ds_X0_nthFirst : xDs yX0_nthFirst 2 := by decide +kernel
theorem ds_X0_placeOfFirst : xDs yX0_placeOfFirst 1 := by decide +kernel
theorem ds_X0_digestFirsts : xDs yX0_digestFirsts 2 := by decide +kernel
theorem ds_X0_orbit : xDs yX0_orbit 1 := by decide +kernel
theorem ds_X0_leastPoint : xDs yX0_leastPoint 1 := by decide +kernel
noncomputable def f_X0_turnRound_L1 (k_n : Int32) (v1 : Int32) (z : Int32 × Int32) : Option ((Int32 × Int32) ⊕ (Int32)) := match z with
  | (v2_1, v3_2) => xb (k_n ≤ v3_2) (some (.inr v2_1)) (some (.inl (((v2_1 <<< ((1 : Int32) &&& 31)) ||| ((v1 >>> (v3_2 &&& 31)) &&& (1 : Int32))), (v3_2 + (1 : Int32)))))
noncomputable def f_X0_turnRound (k_n : Int32) (v1 : Int32) : Option (Int32) := xn (xL (f_X0_turnRound_L1 k_n v1) ((0 : Int32), (0 : Int32))) (fun (v2_3 : Int32) => some v2_3)
set_option maxHeartbeats 4000000 in
set_option maxRecDepth 100000 in
theorem c_X0_turnRound (l : Launch) (dC : Nat → ClassId) (dI : Nat → Nat → Nat) (cI cZ cB cO : ClassId) (k_h : Nat) (k_p : Nat → Nat) (k_n : Int32) (k_inOrder : (Nat → Int32)) (k_starts : (Nat → Int32)) (k_firsts : (Nat → Int32)) (k_reached : (Nat → Int32)) (k_reachedAt : (Nat → Int32)) (k_reachedCount : Int32) (v1 : Int32) (o : Int32) (h : f_X0_turnRound k_n v1 = some o) (sz : Nat) : Met l yX0_turnRound (xW yX0_turnRound cX0_turnRound 4 (some .int)) { frames := 0, cells := 0, slots := 0, locals := 0 } (xPre dC dI (xT cI cZ cB cO) [.ref k_h, .int v1] (wK cI cZ cB cO k_h k_p k_n k_inOrder k_starts k_firsts k_reached k_reachedAt k_reachedCount) sz) (xQi dC dI (xT cI cZ cB cO) o (wK cI cZ cB cO k_h k_p k_n k_inOrder k_starts k_firsts k_reached k_reachedAt k_reachedCount) (wK cI cZ cB cO k_h k_p k_n k_inOrder k_starts k_firsts k_reached k_reachedAt k_reachedCount) sz) 0 0 (va_A (wK cI cZ cB cO k_h k_p k_n k_inOrder k_starts k_firsts k_reached k_reachedAt k_reachedCount) sz) := by
  refine x_met (by decide) (Nat.le_of_ble_eq_true rfl) ?_
  intro p e s m args below meth c R Q A hR hsz hA hQ hin C hw ls hl
  have hx := C.1
  have hb := C.2.1
  have hown := C.2.2.2.1
  have htb := C.2.2.2.2.1
  have hl : lv_has ls 4 [(0, .ref k_h), (1, .int v1)] := hl
  refine lv_iconst (v := (0 : Int32)) hx hb dX0_turnRound_0 (by decide) ?_
  refine lv_istore_n (lv' := [(2, .int (0 : Int32)), (0, .ref k_h), (1, .int v1)]) hx hb dX0_turnRound_1 rfl hl (by decide) rfl (fun ls hl => ?_)
  refine lv_iconst (v := (0 : Int32)) hx hb dX0_turnRound_2 (by decide) ?_
  refine lv_istore_n (lv' := [(3, .int (0 : Int32)), (2, .int (0 : Int32)), (0, .ref k_h), (1, .int v1)]) hx hb dX0_turnRound_3 rfl hl (by decide) rfl (fun ls hl => ?_)
  obtain ⟨z, hr, h⟩ := xn_i h
  refine xL_w (fun (z : Int32 × Int32) => ∀ (H : Heap) (locs : List Loc) (ls : Array Slot), xWd (dC, dI) A s.heap H locs (wK cI cZ cB cO k_h k_p k_n k_inOrder k_starts k_firsts k_reached k_reachedAt k_reachedCount) → lv_has ls 4 [(0, .ref k_h), (1, .int v1), (2, .int z.1), (3, .int z.2)] → W p l e R s m args below meth c H locs 0 0 Q (F0 m 4 ls [])) (fun (z : Int32) => ∀ (H : Heap) (locs : List Loc) (ls : Array Slot), xWd (dC, dI) A s.heap H locs (wK cI cZ cB cO k_h k_p k_n k_inOrder k_starts k_firsts k_reached k_reachedAt k_reachedCount) → lv_has ls 4 [(2, .int z)] → W p l e R s m args below meth c H locs 0 0 Q (F0 m 28 ls [])) ?_ hr ?_ _ _ _ hw (lv_sub hl [2, 3, 1, 0] rfl)
  · rintro ⟨v2_1, v3_2⟩ o h k H locs ls hw hl
    have hw : xWd (dC, dI) A s.heap H locs (wK cI cZ cB cO k_h k_p k_n k_inOrder k_starts k_firsts k_reached k_reachedAt k_reachedCount) := hw
    have hl : lv_has ls 4 [(0, .ref k_h), (1, .int v1), (2, .int v2_1), (3, .int v3_2)] := hl
    refine lv_iload_n hx hb dX0_turnRound_4 rfl (lv_at hl 3 rfl) ?_
    refine lv_aload_n hx hb dX0_turnRound_5 rfl (lv_at hl 0 rfl) ?_
    refine x_get (ci := 0) C hw inX0 rfl 0 (by decide) lkF_X0_9 rfl 0 rfl rfl dX0_turnRound_6 ?_
    refine lv_icmp_ge (tgt := 28) hx hb dX0_turnRound_9 (by decide) (fun b1 => ?_) (fun b1 => ?_)
    · replace h := xb_tt b1 h
      obtain rfl := Option.some.inj h
      exact k _ _ _ hw (lv_sub hl [2] rfl)
    · replace h := xb_ff b1 h
      refine lv_iload_n hx hb dX0_turnRound_12 rfl (lv_at hl 2 rfl) ?_
      refine lv_iconst (v := (1 : Int32)) hx hb dX0_turnRound_13 (by decide) ?_
      refine lv_ishl hx hb dX0_turnRound_14 ?_
      refine lv_iload_n hx hb dX0_turnRound_15 rfl (lv_at hl 1 rfl) ?_
      refine lv_iload_n hx hb dX0_turnRound_16 rfl (lv_at hl 3 rfl) ?_
      refine lv_ishr hx hb dX0_turnRound_17 ?_
      refine lv_iconst (v := (1 : Int32)) hx hb dX0_turnRound_18 (by decide) ?_
      refine lv_iand hx hb dX0_turnRound_19 ?_
      refine lv_ior hx hb dX0_turnRound_20 ?_
      refine lv_istore_n (lv' := [(2, .int ((v2_1 <<< ((1 : Int32) &&& 31)) ||| ((v1 >>> (v3_2 &&& 31)) &&& (1 : Int32)))), (0, .ref k_h), (1, .int v1), (3, .int v3_2)]) hx hb dX0_turnRound_21 rfl hl (by decide) rfl (fun ls hl => ?_)
      refine lv_iinc (v := (v3_2 + (1 : Int32))) (lv' := [(3, .int (v3_2 + (1 : Int32))), (2, .int ((v2_1 <<< ((1 : Int32) &&& 31)) ||| ((v1 >>> (v3_2 &&& 31)) &&& (1 : Int32)))), (0, .ref k_h), (1, .int v1)]) hx hb dX0_turnRound_22 hl (k := 3) rfl (congrArg (fun q => v3_2 + q) (by decide)) (by decide) rfl (fun ls hl => ?_)
      refine lv_goto (tgt := 4) hx hb dX0_turnRound_25 (by decide) ?_
      obtain rfl := Option.some.inj h
      exact k _ _ _ hw (lv_sub hl [2, 3, 1, 0] rfl)
  · obtain ⟨v2_3, hz⟩ : ∃ q, q = z := ⟨z, rfl⟩
    subst hz
    intro H locs ls hw hl
    have hw : xWd (dC, dI) A s.heap H locs (wK cI cZ cB cO k_h k_p k_n k_inOrder k_starts k_firsts k_reached k_reachedAt k_reachedCount) := hw
    have hl : lv_has ls 4 [(2, .int v2_3)] := hl
    refine lv_iload_n hx hb dX0_turnRound_28 rfl (lv_at hl 0 rfl) ?_
    obtain rfl := Option.some.inj h
    exact x_reti C hQ hA hw dX0_turnRound_29
noncomputable def f_X0_arrange_L2 (v2_4 : Int32) (k_n : Int32) (z : (Nat → Int32) × Int32 × Int32) : Option (((Nat → Int32) × Int32 × Int32) ⊕ ((Nat → Int32) × Int32)) := match z with
  | (k_inOrder_8, v1_9, v3_10) => xb (v3_10 < 0) (some (.inr (k_inOrder_8, v1_9))) (xn (f_J6_bitCount_0f7a4 v3_10) (fun (r_13 : Int32) => xb (r_13 = v2_4) (xn (f_X0_turnRound k_n v3_10) (fun (r_14 : Int32) => xk (vp_in v1_9 256) (some (.inl ((upd k_inOrder_8 v1_9.toNatClampNeg r_14), (v1_9 + (1 : Int32)), (v3_10 + (-1 : Int32))))))) (some (.inl (k_inOrder_8, v1_9, (v3_10 + (-1 : Int32)))))))
noncomputable def f_X0_arrange_L1 (k_n : Int32) (z : (Nat → Int32) × (Nat → Int32) × Int32 × Int32) : Option (((Nat → Int32) × (Nat → Int32) × Int32 × Int32) ⊕ ((Nat → Int32) × (Nat → Int32) × Int32)) := match z with
  | (k_inOrder_1, k_starts_2, v1_3, v2_4) => xb (k_n < v2_4) (some (.inr (k_inOrder_1, k_starts_2, v1_3))) (xk (vp_in v2_4 10) (xn (xL (f_X0_arrange_L2 v2_4 k_n) (k_inOrder_1, v1_3, (((1 : Int32) <<< (k_n &&& 31)) - (1 : Int32)))) (fun (z : (Nat → Int32) × Int32) => match z with | (k_inOrder_11, v1_12) => some (.inl (k_inOrder_11, (upd k_starts_2 v2_4.toNatClampNeg v1_3), v1_12, (v2_4 + (1 : Int32)))))))
noncomputable def f_X0_arrange (k_n : Int32) (k_inOrder : (Nat → Int32)) (k_starts : (Nat → Int32)) : Option ((Nat → Int32) × (Nat → Int32)) := xn (xL (f_X0_arrange_L1 k_n) (k_inOrder, k_starts, (0 : Int32), (0 : Int32))) (fun (z : (Nat → Int32) × (Nat → Int32) × Int32) => match z with | (k_inOrder_5, k_starts_6, v1_7) => xk (vp_in (k_n + (1 : Int32)) 10) (some (k_inOrder_5, (upd k_starts_6 (k_n + (1 : Int32)).toNatClampNeg v1_7))))
set_option maxHeartbeats 4000000 in
set_option maxRecDepth 100000 in
theorem c_X0_arrange (l : Launch) (dC : Nat → ClassId) (dI : Nat → Nat → Nat) (cI cZ cB cO : ClassId) (k_h : Nat) (k_p : Nat → Nat) (k_n : Int32) (k_inOrder : (Nat → Int32)) (k_starts : (Nat → Int32)) (k_firsts : (Nat → Int32)) (k_reached : (Nat → Int32)) (k_reachedAt : (Nat → Int32)) (k_reachedCount : Int32) (o : (Nat → Int32) × (Nat → Int32)) (h : f_X0_arrange k_n k_inOrder k_starts = some o) (sz : Nat) : Met l yX0_arrange (xW yX0_arrange cX0_arrange 4 none) { frames := 1, cells := 0, slots := 0, locals := 23 } (xPre dC dI (xT cI cZ cB cO) [.ref k_h] (wK cI cZ cB cO k_h k_p k_n k_inOrder k_starts k_firsts k_reached k_reachedAt k_reachedCount) sz) (xQv dC dI (xT cI cZ cB cO) (wK cI cZ cB cO k_h k_p k_n k_inOrder k_starts k_firsts k_reached k_reachedAt k_reachedCount) (wK cI cZ cB cO k_h k_p k_n o.1 o.2 k_firsts k_reached k_reachedAt k_reachedCount) sz) 0 0 (va_A (wK cI cZ cB cO k_h k_p k_n k_inOrder k_starts k_firsts k_reached k_reachedAt k_reachedCount) sz) := by
  refine x_met (by decide) (Nat.le_of_ble_eq_true rfl) ?_
  intro p e s m args below meth c R Q A hR hsz hA hQ hin C hw ls hl
  have hx := C.1
  have hb := C.2.1
  have hown := C.2.2.2.1
  have htb := C.2.2.2.2.1
  have hl : lv_has ls 4 [(0, .ref k_h)] := hl
  refine lv_iconst (v := (0 : Int32)) hx hb dX0_arrange_0 (by decide) ?_
  refine lv_istore_n (lv' := [(1, .int (0 : Int32)), (0, .ref k_h)]) hx hb dX0_arrange_1 rfl hl (by decide) rfl (fun ls hl => ?_)
  refine lv_iconst (v := (0 : Int32)) hx hb dX0_arrange_2 (by decide) ?_
  refine lv_istore_n (lv' := [(2, .int (0 : Int32)), (1, .int (0 : Int32)), (0, .ref k_h)]) hx hb dX0_arrange_3 rfl hl (by decide) rfl (fun ls hl => ?_)
  obtain ⟨z, hr, h⟩ := xn_i h
  refine xL_w (fun (z : (Nat → Int32) × (Nat → Int32) × Int32 × Int32) => ∀ (H : Heap) (locs : List Loc) (ls : Array Slot), xWd (dC, dI) A s.heap H locs (wK cI cZ cB cO k_h k_p k_n z.1 z.2.1 k_firsts k_reached k_reachedAt k_reachedCount) → lv_has ls 4 [(0, .ref k_h), (1, .int z.2.2.1), (2, .int z.2.2.2)] → W p l e R s m args below meth c H locs 0 0 Q (F0 m 4 ls [])) (fun (z : (Nat → Int32) × (Nat → Int32) × Int32) => ∀ (H : Heap) (locs : List Loc) (ls : Array Slot), xWd (dC, dI) A s.heap H locs (wK cI cZ cB cO k_h k_p k_n z.1 z.2.1 k_firsts k_reached k_reachedAt k_reachedCount) → lv_has ls 4 [(0, .ref k_h), (1, .int z.2.2)] → W p l e R s m args below meth c H locs 0 0 Q (F0 m 66 ls [])) ?_ hr ?_ _ _ _ hw (lv_sub hl [2, 1, 0] rfl)
  · rintro ⟨k_inOrder_1, k_starts_2, v1_3, v2_4⟩ o h k H locs ls hw hl
    have hw : xWd (dC, dI) A s.heap H locs (wK cI cZ cB cO k_h k_p k_n k_inOrder_1 k_starts_2 k_firsts k_reached k_reachedAt k_reachedCount) := hw
    have hl : lv_has ls 4 [(0, .ref k_h), (1, .int v1_3), (2, .int v2_4)] := hl
    refine lv_iload_n hx hb dX0_arrange_4 rfl (lv_at hl 2 rfl) ?_
    refine lv_aload_n hx hb dX0_arrange_5 rfl (lv_at hl 0 rfl) ?_
    refine x_get (ci := 0) C hw inX0 rfl 0 (by decide) lkF_X0_9 rfl 0 rfl rfl dX0_arrange_6 ?_
    refine lv_icmp_gt (tgt := 66) hx hb dX0_arrange_9 (by decide) (fun b1 => ?_) (fun b1 => ?_)
    · replace h := xb_tt b1 h
      obtain rfl := Option.some.inj h
      exact k _ _ _ hw (lv_sub hl [0, 1] rfl)
    · replace h := xb_ff b1 h
      refine lv_aload_n hx hb dX0_arrange_12 rfl (lv_at hl 0 rfl) ?_
      refine x_get (ci := 0) C hw inX0 rfl 2 (by decide) lkF_X0_19 rfl 0 rfl rfl dX0_arrange_13 ?_
      refine lv_iload_n hx hb dX0_arrange_16 rfl (lv_at hl 2 rfl) ?_
      refine lv_iload_n hx hb dX0_arrange_17 rfl (lv_at hl 1 rfl) ?_
      obtain ⟨b2, h⟩ := xk_i h
      refine x_iast C hw 2 0 rfl rfl b2 dX0_arrange_18 (fun H locs hw => ?_)
      have hw : xWd (dC, dI) A s.heap H locs (wK cI cZ cB cO k_h k_p k_n k_inOrder_1 (upd k_starts_2 v2_4.toNatClampNeg v1_3) k_firsts k_reached k_reachedAt k_reachedCount) := hw
      refine lv_iconst (v := (1 : Int32)) hx hb dX0_arrange_19 (by decide) ?_
      refine lv_aload_n hx hb dX0_arrange_20 rfl (lv_at hl 0 rfl) ?_
      refine x_get (ci := 0) C hw inX0 rfl 0 (by decide) lkF_X0_9 rfl 0 rfl rfl dX0_arrange_21 ?_
      refine lv_ishl hx hb dX0_arrange_24 ?_
      refine lv_iconst (v := (1 : Int32)) hx hb dX0_arrange_25 (by decide) ?_
      refine lv_isub hx hb dX0_arrange_26 ?_
      refine lv_istore_n (lv' := [(3, .int (((1 : Int32) <<< (k_n &&& 31)) - (1 : Int32))), (0, .ref k_h), (1, .int v1_3), (2, .int v2_4)]) hx hb dX0_arrange_27 rfl hl (by decide) rfl (fun ls hl => ?_)
      obtain ⟨z, hr, h⟩ := xn_i h
      refine xL_w (fun (z : (Nat → Int32) × Int32 × Int32) => ∀ (H : Heap) (locs : List Loc) (ls : Array Slot), xWd (dC, dI) A s.heap H locs (wK cI cZ cB cO k_h k_p k_n z.1 (upd k_starts_2 v2_4.toNatClampNeg v1_3) k_firsts k_reached k_reachedAt k_reachedCount) → lv_has ls 4 [(0, .ref k_h), (1, .int z.2.1), (2, .int v2_4), (3, .int z.2.2)] → W p l e R s m args below meth c H locs 0 0 Q (F0 m 28 ls [])) (fun (z : (Nat → Int32) × Int32) => ∀ (H : Heap) (locs : List Loc) (ls : Array Slot), xWd (dC, dI) A s.heap H locs (wK cI cZ cB cO k_h k_p k_n z.1 (upd k_starts_2 v2_4.toNatClampNeg v1_3) k_firsts k_reached k_reachedAt k_reachedCount) → lv_has ls 4 [(0, .ref k_h), (1, .int z.2), (2, .int v2_4)] → W p l e R s m args below meth c H locs 0 0 Q (F0 m 60 ls [])) ?_ hr ?_ _ _ _ hw (lv_sub hl [1, 2, 3, 0] rfl)
      · rintro ⟨k_inOrder_8, v1_9, v3_10⟩ o h k H locs ls hw hl
        have hw : xWd (dC, dI) A s.heap H locs (wK cI cZ cB cO k_h k_p k_n k_inOrder_8 (upd k_starts_2 v2_4.toNatClampNeg v1_3) k_firsts k_reached k_reachedAt k_reachedCount) := hw
        have hl : lv_has ls 4 [(0, .ref k_h), (1, .int v1_9), (2, .int v2_4), (3, .int v3_10)] := hl
        refine lv_iload_n hx hb dX0_arrange_28 rfl (lv_at hl 3 rfl) ?_
        refine lv_if_lt (tgt := 60) hx hb dX0_arrange_29 (by decide) (fun b3 => ?_) (fun b3 => ?_)
        · replace h := xb_tt b3 h
          obtain rfl := Option.some.inj h
          exact k _ _ _ hw (lv_sub hl [0, 1, 2] rfl)
        · replace h := xb_ff b3 h
          refine lv_iload_n hx hb dX0_arrange_32 rfl (lv_at hl 3 rfl) ?_
          obtain ⟨r_13, q4, h⟩ := xn_i h
          refine x_callSi (As := [.int v3_10]) (rest := []) C hw gc_X0_47 ds_J6_bitCount_0f7a4 (by rw [hR]; exact Nat.le_of_ble_eq_true rfl) (by rw [hR]; exact Nat.le_of_ble_eq_true rfl) rfl rfl (Nat.zero_le _) (Nat.zero_le _) (c_J6_bitCount_0f7a4 l dC dI cI cZ cB cO v3_10 _ q4 _) [] [0, 1, 2, 3, 4, 5] (by decide) rfl rfl (by decide) (by decide) rfl hl.1 rfl (Nat.le_of_ble_eq_true rfl) dX0_arrange_33 (fun H locs hw => ?_)
          have hw : xWd (dC, dI) A s.heap H locs (wK cI cZ cB cO k_h k_p k_n k_inOrder_8 (upd k_starts_2 v2_4.toNatClampNeg v1_3) k_firsts k_reached k_reachedAt k_reachedCount) := hw.sub [0, 1, 2, 3, 4, 5] (by decide) rfl
          refine lv_iload_n hx hb dX0_arrange_36 rfl (lv_at hl 2 rfl) ?_
          refine lv_icmp_ne (tgt := 54) hx hb dX0_arrange_37 (by decide) (fun b5 => ?_) (fun b5 => ?_)
          · replace h := xb_ff b5 h
            refine lv_iinc (v := (v3_10 + (-1 : Int32))) (lv' := [(3, .int (v3_10 + (-1 : Int32))), (0, .ref k_h), (1, .int v1_9), (2, .int v2_4)]) hx hb dX0_arrange_54 hl (k := 3) rfl (congrArg (fun q => v3_10 + q) (by decide)) (by decide) rfl (fun ls hl => ?_)
            refine lv_goto (tgt := 28) hx hb dX0_arrange_57 (by decide) ?_
            obtain rfl := Option.some.inj h
            exact k _ _ _ hw (lv_sub hl [1, 2, 3, 0] rfl)
          · replace h := xb_tt b5 h
            refine lv_aload_n hx hb dX0_arrange_40 rfl (lv_at hl 0 rfl) ?_
            refine x_get (ci := 0) C hw inX0 rfl 1 (by decide) lkF_X0_15 rfl 0 rfl rfl dX0_arrange_41 ?_
            refine lv_iload_n hx hb dX0_arrange_44 rfl (lv_at hl 1 rfl) ?_
            refine lv_aload_n hx hb dX0_arrange_45 rfl (lv_at hl 0 rfl) ?_
            refine lv_iload_n hx hb dX0_arrange_46 rfl (lv_at hl 3 rfl) ?_
            obtain ⟨r_14, q6, h⟩ := xn_i h
            refine x_callVi (As := [.int v3_10]) (rest := [.int v1_9, .ref (k_p 1)]) C hw gc_X0_53 ⟨rfl, rfl, ds_X0_turnRound, (by rw [hR]; exact Nat.le_of_ble_eq_true rfl), (by rw [hR]; exact Nat.le_of_ble_eq_true rfl), Nat.zero_le _, Nat.zero_le _⟩ (c_X0_turnRound l dC dI cI cZ cB cO k_h k_p k_n k_inOrder_8 (upd k_starts_2 v2_4.toNatClampNeg v1_3) k_firsts k_reached k_reachedAt k_reachedCount v3_10 _ q6 _) [0, 1, 2, 3, 4, 5] [] (by decide) rfl rfl (by decide) (by decide) rfl rfl rfl hl.1 rfl (Nat.le_of_ble_eq_true rfl) dX0_arrange_47 (fun H locs hw => ?_)
            have hw : xWd (dC, dI) A s.heap H locs (wK cI cZ cB cO k_h k_p k_n k_inOrder_8 (upd k_starts_2 v2_4.toNatClampNeg v1_3) k_firsts k_reached k_reachedAt k_reachedCount) := hw
            obtain ⟨b7, h⟩ := xk_i h
            refine x_iast C hw 1 0 rfl rfl b7 dX0_arrange_50 (fun H locs hw => ?_)
            have hw : xWd (dC, dI) A s.heap H locs (wK cI cZ cB cO k_h k_p k_n (upd k_inOrder_8 v1_9.toNatClampNeg r_14) (upd k_starts_2 v2_4.toNatClampNeg v1_3) k_firsts k_reached k_reachedAt k_reachedCount) := hw
            refine lv_iinc (v := (v1_9 + (1 : Int32))) (lv' := [(1, .int (v1_9 + (1 : Int32))), (0, .ref k_h), (2, .int v2_4), (3, .int v3_10)]) hx hb dX0_arrange_51 hl (k := 1) rfl (congrArg (fun q => v1_9 + q) (by decide)) (by decide) rfl (fun ls hl => ?_)
            refine lv_iinc (v := (v3_10 + (-1 : Int32))) (lv' := [(3, .int (v3_10 + (-1 : Int32))), (1, .int (v1_9 + (1 : Int32))), (0, .ref k_h), (2, .int v2_4)]) hx hb dX0_arrange_54 hl (k := 3) rfl (congrArg (fun q => v3_10 + q) (by decide)) (by decide) rfl (fun ls hl => ?_)
            refine lv_goto (tgt := 28) hx hb dX0_arrange_57 (by decide) ?_
            obtain rfl := Option.some.inj h
            exact k _ _ _ hw (lv_sub hl [2, 1, 3, 0] rfl)
      · obtain ⟨k_inOrder_11, v1_12⟩ := z
        intro H locs ls hw hl
        have hw : xWd (dC, dI) A s.heap H locs (wK cI cZ cB cO k_h k_p k_n k_inOrder_11 (upd k_starts_2 v2_4.toNatClampNeg v1_3) k_firsts k_reached k_reachedAt k_reachedCount) := hw
        have hl : lv_has ls 4 [(0, .ref k_h), (1, .int v1_12), (2, .int v2_4)] := hl
        refine lv_iinc (v := (v2_4 + (1 : Int32))) (lv' := [(2, .int (v2_4 + (1 : Int32))), (0, .ref k_h), (1, .int v1_12)]) hx hb dX0_arrange_60 hl (k := 2) rfl (congrArg (fun q => v2_4 + q) (by decide)) (by decide) rfl (fun ls hl => ?_)
        refine lv_goto (tgt := 4) hx hb dX0_arrange_63 (by decide) ?_
        obtain rfl := Option.some.inj h
        exact k _ _ _ hw (lv_sub hl [1, 2, 0] rfl)
  · obtain ⟨k_inOrder_5, k_starts_6, v1_7⟩ := z
    intro H locs ls hw hl
    have hw : xWd (dC, dI) A s.heap H locs (wK cI cZ cB cO k_h k_p k_n k_inOrder_5 k_starts_6 k_firsts k_reached k_reachedAt k_reachedCount) := hw
    have hl : lv_has ls 4 [(0, .ref k_h), (1, .int v1_7)] := hl
    refine lv_aload_n hx hb dX0_arrange_66 rfl (lv_at hl 0 rfl) ?_
    refine x_get (ci := 0) C hw inX0 rfl 2 (by decide) lkF_X0_19 rfl 0 rfl rfl dX0_arrange_67 ?_
    refine lv_aload_n hx hb dX0_arrange_70 rfl (lv_at hl 0 rfl) ?_
    refine x_get (ci := 0) C hw inX0 rfl 0 (by decide) lkF_X0_9 rfl 0 rfl rfl dX0_arrange_71 ?_
    refine lv_iconst (v := (1 : Int32)) hx hb dX0_arrange_74 (by decide) ?_
    refine lv_iadd hx hb dX0_arrange_75 ?_
    refine lv_iload_n hx hb dX0_arrange_76 rfl (lv_at hl 1 rfl) ?_
    obtain ⟨b8, h⟩ := xk_i h
    refine x_iast C hw 2 0 rfl rfl b8 dX0_arrange_77 (fun H locs hw => ?_)
    have hw : xWd (dC, dI) A s.heap H locs (wK cI cZ cB cO k_h k_p k_n k_inOrder_5 (upd k_starts_6 (k_n + (1 : Int32)).toNatClampNeg v1_7) k_firsts k_reached k_reachedAt k_reachedCount) := hw
    obtain rfl := Option.some.inj h
    exact x_retv C hQ hA hw dX0_arrange_78
noncomputable def f_X0_reach (k_reached : (Nat → Int32)) (k_reachedAt : (Nat → Int32)) (k_reachedCount : Int32) (v1 : Int32) (v2 : Int32) : Option ((Nat → Int32) × (Nat → Int32) × Int32) := xk (vp_in v1 256) (xb ((k_reachedAt v1.toNatClampNeg) = (-1 : Int32)) (xb ((256 : Int32) ≤ k_reachedCount) (some (k_reached, k_reachedAt, k_reachedCount)) (xk (vp_in k_reachedCount 256) (some ((upd k_reached k_reachedCount.toNatClampNeg v1), (upd k_reachedAt v1.toNatClampNeg v2), (k_reachedCount + (1 : Int32)))))) (some (k_reached, k_reachedAt, k_reachedCount)))
set_option maxHeartbeats 4000000 in
set_option maxRecDepth 100000 in
theorem c_X0_reach (l : Launch) (dC : Nat → ClassId) (dI : Nat → Nat → Nat) (cI cZ cB cO : ClassId) (k_h : Nat) (k_p : Nat → Nat) (k_n : Int32) (k_inOrder : (Nat → Int32)) (k_starts : (Nat → Int32)) (k_firsts : (Nat → Int32)) (k_reached : (Nat → Int32)) (k_reachedAt : (Nat → Int32)) (k_reachedCount : Int32) (v1 : Int32) (v2 : Int32) (o : (Nat → Int32) × (Nat → Int32) × Int32) (h : f_X0_reach k_reached k_reachedAt k_reachedCount v1 v2 = some o) (sz : Nat) : Met l yX0_reach (xW yX0_reach cX0_reach 3 none) { frames := 0, cells := 0, slots := 0, locals := 0 } (xPre dC dI (xT cI cZ cB cO) [.ref k_h, .int v1, .int v2] (wK cI cZ cB cO k_h k_p k_n k_inOrder k_starts k_firsts k_reached k_reachedAt k_reachedCount) sz) (xQv dC dI (xT cI cZ cB cO) (wK cI cZ cB cO k_h k_p k_n k_inOrder k_starts k_firsts k_reached k_reachedAt k_reachedCount) (wK cI cZ cB cO k_h k_p k_n k_inOrder k_starts k_firsts o.1 o.2.1 o.2.2) sz) 0 0 (va_A (wK cI cZ cB cO k_h k_p k_n k_inOrder k_starts k_firsts k_reached k_reachedAt k_reachedCount) sz) := by
  refine x_met (by decide) (Nat.le_of_ble_eq_true rfl) ?_
  intro p e s m args below meth c R Q A hR hsz hA hQ hin C hw ls hl
  have hx := C.1
  have hb := C.2.1
  have hown := C.2.2.2.1
  have htb := C.2.2.2.2.1
  have hl : lv_has ls 3 [(0, .ref k_h), (1, .int v1), (2, .int v2)] := hl
  refine lv_aload_n hx hb dX0_reach_0 rfl (lv_at hl 0 rfl) ?_
  refine x_get (ci := 0) C hw inX0 rfl 5 (by decide) lkF_X0_28 rfl 0 rfl rfl dX0_reach_1 ?_
  refine lv_iload_n hx hb dX0_reach_4 rfl (lv_at hl 1 rfl) ?_
  obtain ⟨b1, h⟩ := xk_i h
  refine x_iald C hw 5 0 rfl rfl b1 dX0_reach_5 ?_
  refine lv_iconst (v := (-1 : Int32)) hx hb dX0_reach_6 (by decide) ?_
  refine lv_icmp_ne (tgt := 47) hx hb dX0_reach_7 (by decide) (fun b2 => ?_) (fun b2 => ?_)
  · replace h := xb_ff b2 h
    obtain rfl := Option.some.inj h
    exact x_retv C hQ hA hw dX0_reach_47
  · replace h := xb_tt b2 h
    refine lv_aload_n hx hb dX0_reach_10 rfl (lv_at hl 0 rfl) ?_
    refine x_get (ci := 0) C hw inX0 rfl 6 (by decide) lkF_X0_31 rfl 0 rfl rfl dX0_reach_11 ?_
    refine lv_sipush (v := (256 : Int32)) hx hb dX0_reach_14 (by decide) ?_
    refine lv_icmp_ge (tgt := 47) hx hb dX0_reach_17 (by decide) (fun b3 => ?_) (fun b3 => ?_)
    · replace h := xb_tt b3 h
      obtain rfl := Option.some.inj h
      exact x_retv C hQ hA hw dX0_reach_47
    · replace h := xb_ff b3 h
      refine lv_aload_n hx hb dX0_reach_20 rfl (lv_at hl 0 rfl) ?_
      refine x_get (ci := 0) C hw inX0 rfl 5 (by decide) lkF_X0_28 rfl 0 rfl rfl dX0_reach_21 ?_
      refine lv_iload_n hx hb dX0_reach_24 rfl (lv_at hl 1 rfl) ?_
      refine lv_iload_n hx hb dX0_reach_25 rfl (lv_at hl 2 rfl) ?_
      refine x_iast C hw 5 0 rfl rfl b1 dX0_reach_26 (fun H locs hw => ?_)
      have hw : xWd (dC, dI) A s.heap H locs (wK cI cZ cB cO k_h k_p k_n k_inOrder k_starts k_firsts k_reached (upd k_reachedAt v1.toNatClampNeg v2) k_reachedCount) := hw
      refine lv_aload_n hx hb dX0_reach_27 rfl (lv_at hl 0 rfl) ?_
      refine x_get (ci := 0) C hw inX0 rfl 4 (by decide) lkF_X0_25 rfl 0 rfl rfl dX0_reach_28 ?_
      refine lv_aload_n hx hb dX0_reach_31 rfl (lv_at hl 0 rfl) ?_
      refine x_get (ci := 0) C hw inX0 rfl 6 (by decide) lkF_X0_31 rfl 0 rfl rfl dX0_reach_32 ?_
      refine lv_iload_n hx hb dX0_reach_35 rfl (lv_at hl 1 rfl) ?_
      obtain ⟨b4, h⟩ := xk_i h
      refine x_iast C hw 4 0 rfl rfl b4 dX0_reach_36 (fun H locs hw => ?_)
      have hw : xWd (dC, dI) A s.heap H locs (wK cI cZ cB cO k_h k_p k_n k_inOrder k_starts k_firsts (upd k_reached k_reachedCount.toNatClampNeg v1) (upd k_reachedAt v1.toNatClampNeg v2) k_reachedCount) := hw
      refine lv_aload_n hx hb dX0_reach_37 rfl (lv_at hl 0 rfl) ?_
      refine lv_dup hx hb dX0_reach_38 rfl ?_
      refine x_get (ci := 0) C hw inX0 rfl 6 (by decide) lkF_X0_31 rfl 0 rfl rfl dX0_reach_39 ?_
      refine lv_iconst (v := (1 : Int32)) hx hb dX0_reach_42 (by decide) ?_
      refine lv_iadd hx hb dX0_reach_43 ?_
      refine x_put (ci := 0) C hw inX0 tyX0 tyX0_ok nmX0 rfl 6 (by decide) lkF_X0_31 rfl rfl 0 rfl rfl rfl (Nat.le_of_ble_eq_true rfl) dX0_reach_44 (fun H locs hw => ?_)
      have hw : xWd (dC, dI) A s.heap H locs (wK cI cZ cB cO k_h k_p k_n k_inOrder k_starts k_firsts (upd k_reached k_reachedCount.toNatClampNeg v1) (upd k_reachedAt v1.toNatClampNeg v2) (k_reachedCount + (1 : Int32))) := hw
      obtain rfl := Option.some.inj h
      exact x_retv C hQ hA hw dX0_reach_47
noncomputable def f_X0_spreadBy_L1 (v3 : Int32) (v1 : Int32) (v2 : Int32) (z : (Nat → Int32) × (Nat → Int32) × Int32 × Int32) : Option (((Nat → Int32) × (Nat → Int32) × Int32 × Int32) ⊕ ((Nat → Int32) × (Nat → Int32) × Int32)) := match z with
  | (k_reached_1, k_reachedAt_2, k_reachedCount_3, v4_4) => xb (v3 ≤ v4_4) (some (.inr (k_reached_1, k_reachedAt_2, k_reachedCount_3))) (xk (vp_in v4_4 256) (xn (f_X2_carry (k_reached_1 v4_4.toNatClampNeg) v1) (fun (r_8 : Int32) => xn (f_X0_reach k_reached_1 k_reachedAt_2 k_reachedCount_3 r_8 v2) (fun (z : (Nat → Int32) × (Nat → Int32) × Int32) => match z with | (k_reached_9, k_reachedAt_10, k_reachedCount_11) => some (.inl (k_reached_9, k_reachedAt_10, k_reachedCount_11, (v4_4 + (1 : Int32))))))))
noncomputable def f_X0_spreadBy (k_reached : (Nat → Int32)) (k_reachedAt : (Nat → Int32)) (k_reachedCount : Int32) (v1 : Int32) (v2 : Int32) (v3 : Int32) : Option ((Nat → Int32) × (Nat → Int32) × Int32) := xn (xL (f_X0_spreadBy_L1 v3 v1 v2) (k_reached, k_reachedAt, k_reachedCount, (0 : Int32))) (fun (z : (Nat → Int32) × (Nat → Int32) × Int32) => match z with | (k_reached_5, k_reachedAt_6, k_reachedCount_7) => some (k_reached_5, k_reachedAt_6, k_reachedCount_7))
set_option maxHeartbeats 4000000 in
set_option maxRecDepth 100000 in
theorem c_X0_spreadBy (l : Launch) (dC : Nat → ClassId) (dI : Nat → Nat → Nat) (cI cZ cB cO : ClassId) (k_h : Nat) (k_p : Nat → Nat) (k_n : Int32) (k_inOrder : (Nat → Int32)) (k_starts : (Nat → Int32)) (k_firsts : (Nat → Int32)) (k_reached : (Nat → Int32)) (k_reachedAt : (Nat → Int32)) (k_reachedCount : Int32) (v1 : Int32) (v2 : Int32) (v3 : Int32) (o : (Nat → Int32) × (Nat → Int32) × Int32) (h : f_X0_spreadBy k_reached k_reachedAt k_reachedCount v1 v2 v3 = some o) (sz : Nat) : Met l yX0_spreadBy (xW yX0_spreadBy cX0_spreadBy 5 none) { frames := 1, cells := 0, slots := 0, locals := 24 } (xPre dC dI (xT cI cZ cB cO) [.ref k_h, .int v1, .int v2, .int v3] (wK cI cZ cB cO k_h k_p k_n k_inOrder k_starts k_firsts k_reached k_reachedAt k_reachedCount) sz) (xQv dC dI (xT cI cZ cB cO) (wK cI cZ cB cO k_h k_p k_n k_inOrder k_starts k_firsts k_reached k_reachedAt k_reachedCount) (wK cI cZ cB cO k_h k_p k_n k_inOrder k_starts k_firsts o.1 o.2.1 o.2.2) sz) 0 0 (va_A (wK cI cZ cB cO k_h k_p k_n k_inOrder k_starts k_firsts k_reached k_reachedAt k_reachedCount) sz) := by
  refine x_met (by decide) (Nat.le_of_ble_eq_true rfl) ?_
  intro p e s m args below meth c R Q A hR hsz hA hQ hin C hw ls hl
  have hx := C.1
  have hb := C.2.1
  have hown := C.2.2.2.1
  have htb := C.2.2.2.2.1
  have hl : lv_has ls 5 [(0, .ref k_h), (1, .int v1), (2, .int v2), (3, .int v3)] := hl
  refine lv_iconst (v := (0 : Int32)) hx hb dX0_spreadBy_0 (by decide) ?_
  refine lv_istore (lv' := [(4, .int (0 : Int32)), (0, .ref k_h), (1, .int v1), (2, .int v2), (3, .int v3)]) hx hb dX0_spreadBy_1 hl (by decide) rfl (fun ls hl => ?_)
  obtain ⟨z, hr, h⟩ := xn_i h
  refine xL_w (fun (z : (Nat → Int32) × (Nat → Int32) × Int32 × Int32) => ∀ (H : Heap) (locs : List Loc) (ls : Array Slot), xWd (dC, dI) A s.heap H locs (wK cI cZ cB cO k_h k_p k_n k_inOrder k_starts k_firsts z.1 z.2.1 z.2.2.1) → lv_has ls 5 [(0, .ref k_h), (1, .int v1), (2, .int v2), (3, .int v3), (4, .int z.2.2.2)] → W p l e R s m args below meth c H locs 0 0 Q (F0 m 3 ls [])) (fun (z : (Nat → Int32) × (Nat → Int32) × Int32) => ∀ (H : Heap) (locs : List Loc) (ls : Array Slot), xWd (dC, dI) A s.heap H locs (wK cI cZ cB cO k_h k_p k_n k_inOrder k_starts k_firsts z.1 z.2.1 z.2.2) → lv_has ls 5 [] → W p l e R s m args below meth c H locs 0 0 Q (F0 m 31 ls [])) ?_ hr ?_ _ _ _ hw (lv_sub hl [1, 2, 3, 4, 0] rfl)
  · rintro ⟨k_reached_1, k_reachedAt_2, k_reachedCount_3, v4_4⟩ o h k H locs ls hw hl
    have hw : xWd (dC, dI) A s.heap H locs (wK cI cZ cB cO k_h k_p k_n k_inOrder k_starts k_firsts k_reached_1 k_reachedAt_2 k_reachedCount_3) := hw
    have hl : lv_has ls 5 [(0, .ref k_h), (1, .int v1), (2, .int v2), (3, .int v3), (4, .int v4_4)] := hl
    refine lv_iload hx hb dX0_spreadBy_3 (lv_at hl 4 rfl) ?_
    refine lv_iload_n hx hb dX0_spreadBy_5 rfl (lv_at hl 3 rfl) ?_
    refine lv_icmp_ge (tgt := 31) hx hb dX0_spreadBy_6 (by decide) (fun b1 => ?_) (fun b1 => ?_)
    · replace h := xb_tt b1 h
      obtain rfl := Option.some.inj h
      exact k _ _ _ hw (lv_sub hl [] rfl)
    · replace h := xb_ff b1 h
      refine lv_aload_n hx hb dX0_spreadBy_9 rfl (lv_at hl 0 rfl) ?_
      refine lv_aload_n hx hb dX0_spreadBy_10 rfl (lv_at hl 0 rfl) ?_
      refine x_get (ci := 0) C hw inX0 rfl 4 (by decide) lkF_X0_25 rfl 0 rfl rfl dX0_spreadBy_11 ?_
      refine lv_iload hx hb dX0_spreadBy_14 (lv_at hl 4 rfl) ?_
      obtain ⟨b2, h⟩ := xk_i h
      refine x_iald C hw 4 0 rfl rfl b2 dX0_spreadBy_16 ?_
      refine lv_iload_n hx hb dX0_spreadBy_17 rfl (lv_at hl 1 rfl) ?_
      obtain ⟨r_8, q3, h⟩ := xn_i h
      refine x_callSi (As := [.int (k_reached_1 v4_4.toNatClampNeg), .int v1]) (rest := [.ref k_h]) C hw gc_X0_73 ds_X2_carry (by rw [hR]; exact Nat.le_of_ble_eq_true rfl) (by rw [hR]; exact Nat.le_of_ble_eq_true rfl) rfl rfl (Nat.zero_le _) (Nat.zero_le _) (c_X2_carry l dC dI cI cZ cB cO (k_reached_1 v4_4.toNatClampNeg) v1 _ q3 _) [] [0, 1, 2, 3, 4, 5] (by decide) rfl rfl (by decide) (by decide) rfl hl.1 rfl (Nat.le_of_ble_eq_true rfl) dX0_spreadBy_18 (fun H locs hw => ?_)
      have hw : xWd (dC, dI) A s.heap H locs (wK cI cZ cB cO k_h k_p k_n k_inOrder k_starts k_firsts k_reached_1 k_reachedAt_2 k_reachedCount_3) := hw.sub [0, 1, 2, 3, 4, 5] (by decide) rfl
      refine lv_iload_n hx hb dX0_spreadBy_21 rfl (lv_at hl 2 rfl) ?_
      obtain ⟨⟨k_reached_9, k_reachedAt_10, k_reachedCount_11⟩, q4, h⟩ := xn_i h
      refine x_callVv (As := [.int r_8, .int v2]) (rest := []) C hw gc_X0_56 ⟨rfl, rfl, ds_X0_reach, (by rw [hR]; exact Nat.le_of_ble_eq_true rfl), (by rw [hR]; exact Nat.le_of_ble_eq_true rfl), Nat.zero_le _, Nat.zero_le _⟩ (c_X0_reach l dC dI cI cZ cB cO k_h k_p k_n k_inOrder k_starts k_firsts k_reached_1 k_reachedAt_2 k_reachedCount_3 r_8 v2 _ q4 _) [0, 1, 2, 3, 4, 5] [] (by decide) rfl rfl (by decide) (by decide) rfl rfl rfl hl.1 rfl (Nat.le_of_ble_eq_true rfl) dX0_spreadBy_22 (fun H locs hw => ?_)
      have hw : xWd (dC, dI) A s.heap H locs (wK cI cZ cB cO k_h k_p k_n k_inOrder k_starts k_firsts k_reached_9 k_reachedAt_10 k_reachedCount_11) := hw
      refine lv_iinc (v := (v4_4 + (1 : Int32))) (lv' := [(4, .int (v4_4 + (1 : Int32))), (0, .ref k_h), (1, .int v1), (2, .int v2), (3, .int v3)]) hx hb dX0_spreadBy_25 hl (k := 4) rfl (congrArg (fun q => v4_4 + q) (by decide)) (by decide) rfl (fun ls hl => ?_)
      refine lv_goto (tgt := 3) hx hb dX0_spreadBy_28 (by decide) ?_
      obtain rfl := Option.some.inj h
      exact k _ _ _ hw (lv_sub hl [1, 2, 3, 4, 0] rfl)
  · obtain ⟨k_reached_5, k_reachedAt_6, k_reachedCount_7⟩ := z
    intro H locs ls hw hl
    have hw : xWd (dC, dI) A s.heap H locs (wK cI cZ cB cO k_h k_p k_n k_inOrder k_starts k_firsts k_reached_5 k_reachedAt_6 k_reachedCount_7) := hw
    have hl : lv_has ls 5 [] := hl
    obtain rfl := Option.some.inj h
    exact x_retv C hQ hA hw dX0_spreadBy_31
noncomputable def f_X0_spread_L3 (k_n : Int32) (r_14 : Int32) (v3_10 : Int32) (e_steps : (Nat → Int32)) (k_reachedCount_9 : Int32) (z : (Nat → Int32) × (Nat → Int32) × Int32 × Int32) : Option (((Nat → Int32) × (Nat → Int32) × Int32 × Int32) ⊕ ((Nat → Int32) × (Nat → Int32) × Int32)) := match z with
  | (k_reached_15, k_reachedAt_16, k_reachedCount_17, v6_18) => xb (k_n ≤ v6_18) (some (.inr (k_reached_15, k_reachedAt_16, k_reachedCount_17))) (xb ((r_14 &&& (((1 : Int32) <<< (v3_10 &&& 31)) ^^^ (-1 : Int32))) = 0) (some (.inr (k_reached_15, k_reachedAt_16, k_reachedCount_17))) (xb ((((r_14 &&& (((1 : Int32) <<< (v3_10 &&& 31)) ^^^ (-1 : Int32))) >>> (v6_18 &&& 31)) &&& (1 : Int32)) = 0) (some (.inl (k_reached_15, k_reachedAt_16, k_reachedCount_17, (v6_18 + (1 : Int32))))) (xn (f_X1_step e_steps v3_10 v6_18) (fun (r_22 : Int32) => xn (f_X0_spreadBy k_reached_15 k_reachedAt_16 k_reachedCount_17 r_22 v3_10 k_reachedCount_9) (fun (z : (Nat → Int32) × (Nat → Int32) × Int32) => match z with | (k_reached_23, k_reachedAt_24, k_reachedCount_25) => some (.inl (k_reached_23, k_reachedAt_24, k_reachedCount_25, (v6_18 + (1 : Int32)))))))))
noncomputable def f_X0_spread_L2 (e_chains : (Nat → Int32)) (k_n : Int32) (e_steps : (Nat → Int32)) (z : (Nat → Int32) × (Nat → Int32) × Int32 × Int32) : Option (((Nat → Int32) × (Nat → Int32) × Int32 × Int32) ⊕ ((Nat → Int32) × (Nat → Int32) × Int32)) := match z with
  | (k_reached_7, k_reachedAt_8, k_reachedCount_9, v3_10) => xb (v3_10 < 0) (some (.inr (k_reached_7, k_reachedAt_8, k_reachedCount_9))) (xn (f_X1_chain e_chains v3_10) (fun (r_14 : Int32) => xn (xL (f_X0_spread_L3 k_n r_14 v3_10 e_steps k_reachedCount_9) (k_reached_7, k_reachedAt_8, k_reachedCount_9, (v3_10 + (1 : Int32)))) (fun (z : (Nat → Int32) × (Nat → Int32) × Int32) => match z with | (k_reached_19, k_reachedAt_20, k_reachedCount_21) => some (.inl (k_reached_19, k_reachedAt_20, k_reachedCount_21, (v3_10 + (-1 : Int32)))))))
noncomputable def f_X0_spread_L1 (k_reachedCount : Int32) (k_reached : (Nat → Int32)) (z : (Nat → Int32) × Int32) : Option (((Nat → Int32) × Int32) ⊕ ((Nat → Int32))) := match z with
  | (k_reachedAt_1, v3_2) => xb (k_reachedCount ≤ v3_2) (some (.inr k_reachedAt_1)) (xk (vp_in v3_2 256) (xk (vp_in (k_reached v3_2.toNatClampNeg) 256) (some (.inl ((upd k_reachedAt_1 (k_reached v3_2.toNatClampNeg).toNatClampNeg (-1 : Int32)), (v3_2 + (1 : Int32)))))))
noncomputable def f_X0_spread (k_n : Int32) (k_reached : (Nat → Int32)) (k_reachedAt : (Nat → Int32)) (k_reachedCount : Int32) (e_steps : (Nat → Int32)) (e_chains : (Nat → Int32)) (v2 : Int32) : Option ((Nat → Int32) × (Nat → Int32) × Int32) := xn (xL (f_X0_spread_L1 k_reachedCount k_reached) (k_reachedAt, (0 : Int32))) (fun (k_reachedAt_3 : (Nat → Int32)) => xn (f_X0_reach k_reached k_reachedAt_3 (0 : Int32) v2 k_n) (fun (z : (Nat → Int32) × (Nat → Int32) × Int32) => match z with | (k_reached_4, k_reachedAt_5, k_reachedCount_6) => xn (xL (f_X0_spread_L2 e_chains k_n e_steps) (k_reached_4, k_reachedAt_5, k_reachedCount_6, (k_n - (1 : Int32)))) (fun (z : (Nat → Int32) × (Nat → Int32) × Int32) => match z with | (k_reached_11, k_reachedAt_12, k_reachedCount_13) => some (k_reached_11, k_reachedAt_12, k_reachedCount_13))))
set_option maxHeartbeats 4000000 in
set_option maxRecDepth 100000 in
theorem c_X0_spread (l : Launch) (dC : Nat → ClassId) (dI : Nat → Nat → Nat) (cI cZ cB cO : ClassId) (k_h : Nat) (k_p : Nat → Nat) (e_h : Nat) (e_p : Nat → Nat) (k_n : Int32) (k_inOrder : (Nat → Int32)) (k_starts : (Nat → Int32)) (k_firsts : (Nat → Int32)) (k_reached : (Nat → Int32)) (k_reachedAt : (Nat → Int32)) (k_reachedCount : Int32) (e_n : Int32) (e_steps : (Nat → Int32)) (e_undoing : (Nat → Int32)) (e_chains : (Nat → Int32)) (e_leaving : (Nat → Int32)) (e_found : (Nat → Int32)) (e_foundAt : (Nat → Int32)) (e_foundCount : Int32) (v2 : Int32) (o : (Nat → Int32) × (Nat → Int32) × Int32) (h : f_X0_spread k_n k_reached k_reachedAt k_reachedCount e_steps e_chains v2 = some o) (sz : Nat) : Met l yX0_spread (xW yX0_spread cX0_spread 7 none) { frames := 2, cells := 0, slots := 0, locals := 48 } (xPre dC dI (xT cI cZ cB cO) [.ref k_h, .ref e_h, .int v2] ((wK cI cZ cB cO k_h k_p k_n k_inOrder k_starts k_firsts k_reached k_reachedAt k_reachedCount) ++ (wE cI cZ cB cO e_h e_p e_n e_steps e_undoing e_chains e_leaving e_found e_foundAt e_foundCount)) sz) (xQv dC dI (xT cI cZ cB cO) ((wK cI cZ cB cO k_h k_p k_n k_inOrder k_starts k_firsts k_reached k_reachedAt k_reachedCount) ++ (wE cI cZ cB cO e_h e_p e_n e_steps e_undoing e_chains e_leaving e_found e_foundAt e_foundCount)) ((wK cI cZ cB cO k_h k_p k_n k_inOrder k_starts k_firsts o.1 o.2.1 o.2.2) ++ (wE cI cZ cB cO e_h e_p e_n e_steps e_undoing e_chains e_leaving e_found e_foundAt e_foundCount)) sz) 0 0 (va_A ((wK cI cZ cB cO k_h k_p k_n k_inOrder k_starts k_firsts k_reached k_reachedAt k_reachedCount) ++ (wE cI cZ cB cO e_h e_p e_n e_steps e_undoing e_chains e_leaving e_found e_foundAt e_foundCount)) sz) := by
  refine x_met (by decide) (Nat.le_of_ble_eq_true rfl) ?_
  intro p e s m args below meth c R Q A hR hsz hA hQ hin C hw ls hl
  have hx := C.1
  have hb := C.2.1
  have hown := C.2.2.2.1
  have htb := C.2.2.2.2.1
  have hl : lv_has ls 7 [(0, .ref k_h), (1, .ref e_h), (2, .int v2)] := hl
  refine lv_iconst (v := (0 : Int32)) hx hb dX0_spread_0 (by decide) ?_
  refine lv_istore_n (lv' := [(3, .int (0 : Int32)), (0, .ref k_h), (1, .ref e_h), (2, .int v2)]) hx hb dX0_spread_1 rfl hl (by decide) rfl (fun ls hl => ?_)
  obtain ⟨z, hr, h⟩ := xn_i h
  refine xL_w (fun (z : (Nat → Int32) × Int32) => ∀ (H : Heap) (locs : List Loc) (ls : Array Slot), xWd (dC, dI) A s.heap H locs ((wK cI cZ cB cO k_h k_p k_n k_inOrder k_starts k_firsts k_reached z.1 k_reachedCount) ++ (wE cI cZ cB cO e_h e_p e_n e_steps e_undoing e_chains e_leaving e_found e_foundAt e_foundCount)) → lv_has ls 7 [(0, .ref k_h), (1, .ref e_h), (2, .int v2), (3, .int z.2)] → W p l e R s m args below meth c H locs 0 0 Q (F0 m 2 ls [])) (fun (z : (Nat → Int32)) => ∀ (H : Heap) (locs : List Loc) (ls : Array Slot), xWd (dC, dI) A s.heap H locs ((wK cI cZ cB cO k_h k_p k_n k_inOrder k_starts k_firsts k_reached z k_reachedCount) ++ (wE cI cZ cB cO e_h e_p e_n e_steps e_undoing e_chains e_leaving e_found e_foundAt e_foundCount)) → lv_has ls 7 [(0, .ref k_h), (1, .ref e_h), (2, .int v2)] → W p l e R s m args below meth c H locs 0 0 Q (F0 m 28 ls [])) ?_ hr ?_ _ _ _ hw (lv_sub hl [1, 2, 3, 0] rfl)
  · rintro ⟨k_reachedAt_1, v3_2⟩ o h k H locs ls hw hl
    have hw : xWd (dC, dI) A s.heap H locs ((wK cI cZ cB cO k_h k_p k_n k_inOrder k_starts k_firsts k_reached k_reachedAt_1 k_reachedCount) ++ (wE cI cZ cB cO e_h e_p e_n e_steps e_undoing e_chains e_leaving e_found e_foundAt e_foundCount)) := hw
    have hl : lv_has ls 7 [(0, .ref k_h), (1, .ref e_h), (2, .int v2), (3, .int v3_2)] := hl
    refine lv_iload_n hx hb dX0_spread_2 rfl (lv_at hl 3 rfl) ?_
    refine lv_aload_n hx hb dX0_spread_3 rfl (lv_at hl 0 rfl) ?_
    refine x_get (ci := 0) C hw inX0 rfl 6 (by decide) lkF_X0_31 rfl 0 rfl rfl dX0_spread_4 ?_
    refine lv_icmp_ge (tgt := 28) hx hb dX0_spread_7 (by decide) (fun b1 => ?_) (fun b1 => ?_)
    · replace h := xb_tt b1 h
      obtain rfl := Option.some.inj h
      exact k _ _ _ hw (lv_sub hl [0, 1, 2] rfl)
    · replace h := xb_ff b1 h
      refine lv_aload_n hx hb dX0_spread_10 rfl (lv_at hl 0 rfl) ?_
      refine x_get (ci := 0) C hw inX0 rfl 5 (by decide) lkF_X0_28 rfl 0 rfl rfl dX0_spread_11 ?_
      refine lv_aload_n hx hb dX0_spread_14 rfl (lv_at hl 0 rfl) ?_
      refine x_get (ci := 0) C hw inX0 rfl 4 (by decide) lkF_X0_25 rfl 0 rfl rfl dX0_spread_15 ?_
      refine lv_iload_n hx hb dX0_spread_18 rfl (lv_at hl 3 rfl) ?_
      obtain ⟨b2, h⟩ := xk_i h
      refine x_iald C hw 4 0 rfl rfl b2 dX0_spread_19 ?_
      refine lv_iconst (v := (-1 : Int32)) hx hb dX0_spread_20 (by decide) ?_
      obtain ⟨b3, h⟩ := xk_i h
      refine x_iast C hw 5 0 rfl rfl b3 dX0_spread_21 (fun H locs hw => ?_)
      have hw : xWd (dC, dI) A s.heap H locs ((wK cI cZ cB cO k_h k_p k_n k_inOrder k_starts k_firsts k_reached (upd k_reachedAt_1 (k_reached v3_2.toNatClampNeg).toNatClampNeg (-1 : Int32)) k_reachedCount) ++ (wE cI cZ cB cO e_h e_p e_n e_steps e_undoing e_chains e_leaving e_found e_foundAt e_foundCount)) := hw
      refine lv_iinc (v := (v3_2 + (1 : Int32))) (lv' := [(3, .int (v3_2 + (1 : Int32))), (0, .ref k_h), (1, .ref e_h), (2, .int v2)]) hx hb dX0_spread_22 hl (k := 3) rfl (congrArg (fun q => v3_2 + q) (by decide)) (by decide) rfl (fun ls hl => ?_)
      refine lv_goto (tgt := 2) hx hb dX0_spread_25 (by decide) ?_
      obtain rfl := Option.some.inj h
      exact k _ _ _ hw (lv_sub hl [1, 2, 3, 0] rfl)
  · obtain ⟨k_reachedAt_3, hz⟩ : ∃ q, q = z := ⟨z, rfl⟩
    subst hz
    intro H locs ls hw hl
    have hw : xWd (dC, dI) A s.heap H locs ((wK cI cZ cB cO k_h k_p k_n k_inOrder k_starts k_firsts k_reached k_reachedAt_3 k_reachedCount) ++ (wE cI cZ cB cO e_h e_p e_n e_steps e_undoing e_chains e_leaving e_found e_foundAt e_foundCount)) := hw
    have hl : lv_has ls 7 [(0, .ref k_h), (1, .ref e_h), (2, .int v2)] := hl
    refine lv_aload_n hx hb dX0_spread_28 rfl (lv_at hl 0 rfl) ?_
    refine lv_iconst (v := (0 : Int32)) hx hb dX0_spread_29 (by decide) ?_
    refine x_put (ci := 0) C hw inX0 tyX0 tyX0_ok nmX0 rfl 6 (by decide) lkF_X0_31 rfl rfl 0 rfl rfl rfl (Nat.le_of_ble_eq_true rfl) dX0_spread_30 (fun H locs hw => ?_)
    have hw : xWd (dC, dI) A s.heap H locs ((wK cI cZ cB cO k_h k_p k_n k_inOrder k_starts k_firsts k_reached k_reachedAt_3 (0 : Int32)) ++ (wE cI cZ cB cO e_h e_p e_n e_steps e_undoing e_chains e_leaving e_found e_foundAt e_foundCount)) := hw
    refine lv_aload_n hx hb dX0_spread_33 rfl (lv_at hl 0 rfl) ?_
    refine lv_iload_n hx hb dX0_spread_34 rfl (lv_at hl 2 rfl) ?_
    refine lv_aload_n hx hb dX0_spread_35 rfl (lv_at hl 0 rfl) ?_
    refine x_get (ci := 0) C hw inX0 rfl 0 (by decide) lkF_X0_9 rfl 0 rfl rfl dX0_spread_36 ?_
    obtain ⟨⟨k_reached_4, k_reachedAt_5, k_reachedCount_6⟩, q4, h⟩ := xn_i h
    refine x_callVv (As := [.int v2, .int k_n]) (rest := []) C hw gc_X0_56 ⟨rfl, rfl, ds_X0_reach, (by rw [hR]; exact Nat.le_of_ble_eq_true rfl), (by rw [hR]; exact Nat.le_of_ble_eq_true rfl), Nat.zero_le _, Nat.zero_le _⟩ (c_X0_reach l dC dI cI cZ cB cO k_h k_p k_n k_inOrder k_starts k_firsts k_reached k_reachedAt_3 (0 : Int32) v2 k_n _ q4 _) [0, 1, 2, 3, 4, 5] [6, 7, 8, 9, 10, 11, 12] (by decide) rfl rfl (by decide) (by decide) rfl rfl rfl hl.1 rfl (Nat.le_of_ble_eq_true rfl) dX0_spread_39 (fun H locs hw => ?_)
    have hw : xWd (dC, dI) A s.heap H locs ((wK cI cZ cB cO k_h k_p k_n k_inOrder k_starts k_firsts k_reached_4 k_reachedAt_5 k_reachedCount_6) ++ (wE cI cZ cB cO e_h e_p e_n e_steps e_undoing e_chains e_leaving e_found e_foundAt e_foundCount)) := hw.sub [7, 8, 9, 10, 11, 12, 0, 1, 2, 3, 4, 5, 6] (by decide) rfl
    refine lv_aload_n hx hb dX0_spread_42 rfl (lv_at hl 0 rfl) ?_
    refine x_get (ci := 0) C hw inX0 rfl 0 (by decide) lkF_X0_9 rfl 0 rfl rfl dX0_spread_43 ?_
    refine lv_iconst (v := (1 : Int32)) hx hb dX0_spread_46 (by decide) ?_
    refine lv_isub hx hb dX0_spread_47 ?_
    refine lv_istore_n (lv' := [(3, .int (k_n - (1 : Int32))), (0, .ref k_h), (1, .ref e_h), (2, .int v2)]) hx hb dX0_spread_48 rfl hl (by decide) rfl (fun ls hl => ?_)
    obtain ⟨z, hr, h⟩ := xn_i h
    refine xL_w (fun (z : (Nat → Int32) × (Nat → Int32) × Int32 × Int32) => ∀ (H : Heap) (locs : List Loc) (ls : Array Slot), xWd (dC, dI) A s.heap H locs ((wK cI cZ cB cO k_h k_p k_n k_inOrder k_starts k_firsts z.1 z.2.1 z.2.2.1) ++ (wE cI cZ cB cO e_h e_p e_n e_steps e_undoing e_chains e_leaving e_found e_foundAt e_foundCount)) → lv_has ls 7 [(0, .ref k_h), (1, .ref e_h), (3, .int z.2.2.2)] → W p l e R s m args below meth c H locs 0 0 Q (F0 m 49 ls [])) (fun (z : (Nat → Int32) × (Nat → Int32) × Int32) => ∀ (H : Heap) (locs : List Loc) (ls : Array Slot), xWd (dC, dI) A s.heap H locs ((wK cI cZ cB cO k_h k_p k_n k_inOrder k_starts k_firsts z.1 z.2.1 z.2.2) ++ (wE cI cZ cB cO e_h e_p e_n e_steps e_undoing e_chains e_leaving e_found e_foundAt e_foundCount)) → lv_has ls 7 [] → W p l e R s m args below meth c H locs 0 0 Q (F0 m 127 ls [])) ?_ hr ?_ _ _ _ hw (lv_sub hl [1, 2, 0] rfl)
    · rintro ⟨k_reached_7, k_reachedAt_8, k_reachedCount_9, v3_10⟩ o h k H locs ls hw hl
      have hw : xWd (dC, dI) A s.heap H locs ((wK cI cZ cB cO k_h k_p k_n k_inOrder k_starts k_firsts k_reached_7 k_reachedAt_8 k_reachedCount_9) ++ (wE cI cZ cB cO e_h e_p e_n e_steps e_undoing e_chains e_leaving e_found e_foundAt e_foundCount)) := hw
      have hl : lv_has ls 7 [(0, .ref k_h), (1, .ref e_h), (3, .int v3_10)] := hl
      refine lv_iload_n hx hb dX0_spread_49 rfl (lv_at hl 2 rfl) ?_
      refine lv_if_lt (tgt := 127) hx hb dX0_spread_50 (by decide) (fun b5 => ?_) (fun b5 => ?_)
      · replace h := xb_tt b5 h
        obtain rfl := Option.some.inj h
        exact k _ _ _ hw (lv_sub hl [] rfl)
      · replace h := xb_ff b5 h
        refine lv_aload_n hx hb dX0_spread_53 rfl (lv_at hl 0 rfl) ?_
        refine x_get (ci := 0) C hw inX0 rfl 6 (by decide) lkF_X0_31 rfl 0 rfl rfl dX0_spread_54 ?_
        refine lv_istore (lv' := [(4, .int k_reachedCount_9), (0, .ref k_h), (1, .ref e_h), (3, .int v3_10)]) hx hb dX0_spread_57 hl (by decide) rfl (fun ls hl => ?_)
        refine lv_aload_n hx hb dX0_spread_59 rfl (lv_at hl 2 rfl) ?_
        refine lv_iload_n hx hb dX0_spread_60 rfl (lv_at hl 3 rfl) ?_
        obtain ⟨r_14, q6, h⟩ := xn_i h
        refine x_callVi (As := [.int v3_10]) (rest := []) C hw gc_X0_60 ⟨rfl, rfl, ds_X1_chain, (by rw [hR]; exact Nat.le_of_ble_eq_true rfl), (by rw [hR]; exact Nat.le_of_ble_eq_true rfl), Nat.zero_le _, Nat.zero_le _⟩ (c_X1_chain l dC dI cI cZ cB cO e_h e_p e_n e_steps e_undoing e_chains e_leaving e_found e_foundAt e_foundCount v3_10 _ q6 _) [6, 7, 8, 9, 10, 11, 12] [0, 1, 2, 3, 4, 5] (by decide) rfl rfl (by decide) (by decide) rfl rfl rfl hl.1 rfl (Nat.le_of_ble_eq_true rfl) dX0_spread_61 (fun H locs hw => ?_)
        have hw : xWd (dC, dI) A s.heap H locs ((wK cI cZ cB cO k_h k_p k_n k_inOrder k_starts k_firsts k_reached_7 k_reachedAt_8 k_reachedCount_9) ++ (wE cI cZ cB cO e_h e_p e_n e_steps e_undoing e_chains e_leaving e_found e_foundAt e_foundCount)) := hw
        refine lv_iconst (v := (1 : Int32)) hx hb dX0_spread_64 (by decide) ?_
        refine lv_iload_n hx hb dX0_spread_65 rfl (lv_at hl 3 rfl) ?_
        refine lv_ishl hx hb dX0_spread_66 ?_
        refine lv_iconst (v := (-1 : Int32)) hx hb dX0_spread_67 (by decide) ?_
        refine lv_ixor hx hb dX0_spread_68 ?_
        refine lv_iand hx hb dX0_spread_69 ?_
        refine lv_istore (lv' := [(5, .int (r_14 &&& (((1 : Int32) <<< (v3_10 &&& 31)) ^^^ (-1 : Int32)))), (4, .int k_reachedCount_9), (0, .ref k_h), (1, .ref e_h), (3, .int v3_10)]) hx hb dX0_spread_70 hl (by decide) rfl (fun ls hl => ?_)
        refine lv_iload_n hx hb dX0_spread_72 rfl (lv_at hl 4 rfl) ?_
        refine lv_iconst (v := (1 : Int32)) hx hb dX0_spread_73 (by decide) ?_
        refine lv_iadd hx hb dX0_spread_74 ?_
        refine lv_istore (lv' := [(6, .int (v3_10 + (1 : Int32))), (5, .int (r_14 &&& (((1 : Int32) <<< (v3_10 &&& 31)) ^^^ (-1 : Int32)))), (4, .int k_reachedCount_9), (0, .ref k_h), (1, .ref e_h), (3, .int v3_10)]) hx hb dX0_spread_75 hl (by decide) rfl (fun ls hl => ?_)
        obtain ⟨z, hr, h⟩ := xn_i h
        refine xL_w (fun (z : (Nat → Int32) × (Nat → Int32) × Int32 × Int32) => ∀ (H : Heap) (locs : List Loc) (ls : Array Slot), xWd (dC, dI) A s.heap H locs ((wK cI cZ cB cO k_h k_p k_n k_inOrder k_starts k_firsts z.1 z.2.1 z.2.2.1) ++ (wE cI cZ cB cO e_h e_p e_n e_steps e_undoing e_chains e_leaving e_found e_foundAt e_foundCount)) → lv_has ls 7 [(0, .ref k_h), (1, .ref e_h), (3, .int v3_10), (4, .int k_reachedCount_9), (5, .int (r_14 &&& (((1 : Int32) <<< (v3_10 &&& 31)) ^^^ (-1 : Int32)))), (6, .int z.2.2.2)] → W p l e R s m args below meth c H locs 0 0 Q (F0 m 77 ls [])) (fun (z : (Nat → Int32) × (Nat → Int32) × Int32) => ∀ (H : Heap) (locs : List Loc) (ls : Array Slot), xWd (dC, dI) A s.heap H locs ((wK cI cZ cB cO k_h k_p k_n k_inOrder k_starts k_firsts z.1 z.2.1 z.2.2) ++ (wE cI cZ cB cO e_h e_p e_n e_steps e_undoing e_chains e_leaving e_found e_foundAt e_foundCount)) → lv_has ls 7 [(0, .ref k_h), (1, .ref e_h), (3, .int v3_10)] → W p l e R s m args below meth c H locs 0 0 Q (F0 m 121 ls [])) ?_ hr ?_ _ _ _ hw (lv_sub hl [3, 4, 5, 2, 1, 0] rfl)
        · rintro ⟨k_reached_15, k_reachedAt_16, k_reachedCount_17, v6_18⟩ o h k H locs ls hw hl
          have hw : xWd (dC, dI) A s.heap H locs ((wK cI cZ cB cO k_h k_p k_n k_inOrder k_starts k_firsts k_reached_15 k_reachedAt_16 k_reachedCount_17) ++ (wE cI cZ cB cO e_h e_p e_n e_steps e_undoing e_chains e_leaving e_found e_foundAt e_foundCount)) := hw
          have hl : lv_has ls 7 [(0, .ref k_h), (1, .ref e_h), (3, .int v3_10), (4, .int k_reachedCount_9), (5, .int (r_14 &&& (((1 : Int32) <<< (v3_10 &&& 31)) ^^^ (-1 : Int32)))), (6, .int v6_18)] := hl
          refine lv_iload hx hb dX0_spread_77 (lv_at hl 5 rfl) ?_
          refine lv_aload_n hx hb dX0_spread_79 rfl (lv_at hl 0 rfl) ?_
          refine x_get (ci := 0) C hw inX0 rfl 0 (by decide) lkF_X0_9 rfl 0 rfl rfl dX0_spread_80 ?_
          refine lv_icmp_ge (tgt := 121) hx hb dX0_spread_83 (by decide) (fun b7 => ?_) (fun b7 => ?_)
          · replace h := xb_tt b7 h
            obtain rfl := Option.some.inj h
            exact k _ _ _ hw (lv_sub hl [0, 1, 2] rfl)
          · replace h := xb_ff b7 h
            refine lv_iload hx hb dX0_spread_86 (lv_at hl 4 rfl) ?_
            refine lv_if_eq (tgt := 121) hx hb dX0_spread_88 (by decide) (fun b8 => ?_) (fun b8 => ?_)
            · replace h := xb_tt b8 h
              obtain rfl := Option.some.inj h
              exact k _ _ _ hw (lv_sub hl [0, 1, 2] rfl)
            · replace h := xb_ff b8 h
              refine lv_iload hx hb dX0_spread_91 (lv_at hl 4 rfl) ?_
              refine lv_iload hx hb dX0_spread_93 (lv_at hl 5 rfl) ?_
              refine lv_ishr hx hb dX0_spread_95 ?_
              refine lv_iconst (v := (1 : Int32)) hx hb dX0_spread_96 (by decide) ?_
              refine lv_iand hx hb dX0_spread_97 ?_
              refine lv_if_eq (tgt := 115) hx hb dX0_spread_98 (by decide) (fun b9 => ?_) (fun b9 => ?_)
              · replace h := xb_tt b9 h
                refine lv_iinc (v := (v6_18 + (1 : Int32))) (lv' := [(6, .int (v6_18 + (1 : Int32))), (0, .ref k_h), (1, .ref e_h), (3, .int v3_10), (4, .int k_reachedCount_9), (5, .int (r_14 &&& (((1 : Int32) <<< (v3_10 &&& 31)) ^^^ (-1 : Int32))))]) hx hb dX0_spread_115 hl (k := 5) rfl (congrArg (fun q => v6_18 + q) (by decide)) (by decide) rfl (fun ls hl => ?_)
                refine lv_goto (tgt := 77) hx hb dX0_spread_118 (by decide) ?_
                obtain rfl := Option.some.inj h
                exact k _ _ _ hw (lv_sub hl [1, 2, 3, 4, 5, 0] rfl)
              · replace h := xb_ff b9 h
                refine lv_aload_n hx hb dX0_spread_101 rfl (lv_at hl 0 rfl) ?_
                refine lv_aload_n hx hb dX0_spread_102 rfl (lv_at hl 1 rfl) ?_
                refine lv_iload_n hx hb dX0_spread_103 rfl (lv_at hl 2 rfl) ?_
                refine lv_iload hx hb dX0_spread_104 (lv_at hl 5 rfl) ?_
                obtain ⟨r_22, q10, h⟩ := xn_i h
                refine x_callVi (As := [.int v3_10, .int v6_18]) (rest := [.ref k_h]) C hw gc_X0_65 ⟨rfl, rfl, ds_X1_step, (by rw [hR]; exact Nat.le_of_ble_eq_true rfl), (by rw [hR]; exact Nat.le_of_ble_eq_true rfl), Nat.zero_le _, Nat.zero_le _⟩ (c_X1_step l dC dI cI cZ cB cO e_h e_p e_n e_steps e_undoing e_chains e_leaving e_found e_foundAt e_foundCount v3_10 v6_18 _ q10 _) [6, 7, 8, 9, 10, 11, 12] [0, 1, 2, 3, 4, 5] (by decide) rfl rfl (by decide) (by decide) rfl rfl rfl hl.1 rfl (Nat.le_of_ble_eq_true rfl) dX0_spread_106 (fun H locs hw => ?_)
                have hw : xWd (dC, dI) A s.heap H locs ((wK cI cZ cB cO k_h k_p k_n k_inOrder k_starts k_firsts k_reached_15 k_reachedAt_16 k_reachedCount_17) ++ (wE cI cZ cB cO e_h e_p e_n e_steps e_undoing e_chains e_leaving e_found e_foundAt e_foundCount)) := hw
                refine lv_iload_n hx hb dX0_spread_109 rfl (lv_at hl 2 rfl) ?_
                refine lv_iload hx hb dX0_spread_110 (lv_at hl 3 rfl) ?_
                obtain ⟨⟨k_reached_23, k_reachedAt_24, k_reachedCount_25⟩, q11, h⟩ := xn_i h
                refine x_callVv (As := [.int r_22, .int v3_10, .int k_reachedCount_9]) (rest := []) C hw gc_X0_69 ⟨rfl, rfl, ds_X0_spreadBy, (by rw [hR]; exact Nat.le_of_ble_eq_true rfl), (by rw [hR]; exact Nat.le_of_ble_eq_true rfl), Nat.zero_le _, Nat.zero_le _⟩ (c_X0_spreadBy l dC dI cI cZ cB cO k_h k_p k_n k_inOrder k_starts k_firsts k_reached_15 k_reachedAt_16 k_reachedCount_17 r_22 v3_10 k_reachedCount_9 _ q11 _) [0, 1, 2, 3, 4, 5] [6, 7, 8, 9, 10, 11, 12] (by decide) rfl rfl (by decide) (by decide) rfl rfl rfl hl.1 rfl (Nat.le_of_ble_eq_true rfl) dX0_spread_112 (fun H locs hw => ?_)
                have hw : xWd (dC, dI) A s.heap H locs ((wK cI cZ cB cO k_h k_p k_n k_inOrder k_starts k_firsts k_reached_23 k_reachedAt_24 k_reachedCount_25) ++ (wE cI cZ cB cO e_h e_p e_n e_steps e_undoing e_chains e_leaving e_found e_foundAt e_foundCount)) := hw.sub [7, 8, 9, 10, 11, 12, 0, 1, 2, 3, 4, 5, 6] (by decide) rfl
                refine lv_iinc (v := (v6_18 + (1 : Int32))) (lv' := [(6, .int (v6_18 + (1 : Int32))), (0, .ref k_h), (1, .ref e_h), (3, .int v3_10), (4, .int k_reachedCount_9), (5, .int (r_14 &&& (((1 : Int32) <<< (v3_10 &&& 31)) ^^^ (-1 : Int32))))]) hx hb dX0_spread_115 hl (k := 5) rfl (congrArg (fun q => v6_18 + q) (by decide)) (by decide) rfl (fun ls hl => ?_)
                refine lv_goto (tgt := 77) hx hb dX0_spread_118 (by decide) ?_
                obtain rfl := Option.some.inj h
                exact k _ _ _ hw (lv_sub hl [1, 2, 3, 4, 5, 0] rfl)
        · obtain ⟨k_reached_19, k_reachedAt_20, k_reachedCount_21⟩ := z
          intro H locs ls hw hl
          have hw : xWd (dC, dI) A s.heap H locs ((wK cI cZ cB cO k_h k_p k_n k_inOrder k_starts k_firsts k_reached_19 k_reachedAt_20 k_reachedCount_21) ++ (wE cI cZ cB cO e_h e_p e_n e_steps e_undoing e_chains e_leaving e_found e_foundAt e_foundCount)) := hw
          have hl : lv_has ls 7 [(0, .ref k_h), (1, .ref e_h), (3, .int v3_10)] := hl
          refine lv_iinc (v := (v3_10 + (-1 : Int32))) (lv' := [(3, .int (v3_10 + (-1 : Int32))), (0, .ref k_h), (1, .ref e_h)]) hx hb dX0_spread_121 hl (k := 2) rfl (congrArg (fun q => v3_10 + q) (by decide)) (by decide) rfl (fun ls hl => ?_)
          refine lv_goto (tgt := 49) hx hb dX0_spread_124 (by decide) ?_
          obtain rfl := Option.some.inj h
          exact k _ _ _ hw (lv_sub hl [1, 2, 0] rfl)
    · obtain ⟨k_reached_11, k_reachedAt_12, k_reachedCount_13⟩ := z
      intro H locs ls hw hl
      have hw : xWd (dC, dI) A s.heap H locs ((wK cI cZ cB cO k_h k_p k_n k_inOrder k_starts k_firsts k_reached_11 k_reachedAt_12 k_reachedCount_13) ++ (wE cI cZ cB cO e_h e_p e_n e_steps e_undoing e_chains e_leaving e_found e_foundAt e_foundCount)) := hw
      have hl : lv_has ls 7 [] := hl
      obtain rfl := Option.some.inj h
      exact x_retv C hQ hA hw dX0_spread_127
noncomputable def f_X0_make_L2 (k_reachedCount_18 : Int32) (k_reached_16 : (Nat → Int32)) (k_inOrder_2 : (Nat → Int32)) (v3_11 : Int32) (z : (Nat → Int32) × Int32) : Option (((Nat → Int32) × Int32) ⊕ ((Nat → Int32))) := match z with
  | (k_firsts_19, v5_20) => xb (k_reachedCount_18 ≤ v5_20) (some (.inr k_firsts_19)) (xk (vp_in v5_20 256) (xk (vp_in (k_reached_16 v5_20.toNatClampNeg) 256) (some (.inl ((upd k_firsts_19 (k_reached_16 v5_20.toNatClampNeg).toNatClampNeg (k_inOrder_2 v3_11.toNatClampNeg)), (v5_20 + (1 : Int32)))))))
noncomputable def f_X0_make_L1 (k_n_1 : Int32) (k_inOrder_2 : (Nat → Int32)) (e_steps : (Nat → Int32)) (e_chains : (Nat → Int32)) (z : (Nat → Int32) × (Nat → Int32) × (Nat → Int32) × Int32 × Int32) : Option (((Nat → Int32) × (Nat → Int32) × (Nat → Int32) × Int32 × Int32) ⊕ ((Nat → Int32) × (Nat → Int32) × (Nat → Int32) × Int32)) := match z with
  | (k_firsts_7, k_reached_8, k_reachedAt_9, k_reachedCount_10, v3_11) => xb (((1 : Int32) <<< (k_n_1 &&& 31)) ≤ v3_11) (some (.inr (k_firsts_7, k_reached_8, k_reachedAt_9, k_reachedCount_10))) (xk (vp_in v3_11 256) (xk (vp_in (k_inOrder_2 v3_11.toNatClampNeg) 256) (xb ((k_firsts_7 (k_inOrder_2 v3_11.toNatClampNeg).toNatClampNeg) = (-1 : Int32)) (xn (f_X0_spread k_n_1 k_reached_8 k_reachedAt_9 k_reachedCount_10 e_steps e_chains (k_inOrder_2 v3_11.toNatClampNeg)) (fun (z : (Nat → Int32) × (Nat → Int32) × Int32) => match z with | (k_reached_16, k_reachedAt_17, k_reachedCount_18) => xn (xL (f_X0_make_L2 k_reachedCount_18 k_reached_16 k_inOrder_2 v3_11) (k_firsts_7, (0 : Int32))) (fun (k_firsts_21 : (Nat → Int32)) => some (.inl (k_firsts_21, k_reached_16, k_reachedAt_17, k_reachedCount_18, (v3_11 + (1 : Int32))))))) (some (.inl (k_firsts_7, k_reached_8, k_reachedAt_9, k_reachedCount_10, (v3_11 + (1 : Int32))))))))
noncomputable def f_X0_make (k_n : Int32) (k_inOrder : (Nat → Int32)) (k_starts : (Nat → Int32)) (k_firsts : (Nat → Int32)) (k_reached : (Nat → Int32)) (k_reachedAt : (Nat → Int32)) (k_reachedCount : Int32) (e_steps : (Nat → Int32)) (e_chains : (Nat → Int32)) (v2 : Int32) : Option (Int32 × (Nat → Int32) × (Nat → Int32) × (Nat → Int32) × (Nat → Int32) × (Nat → Int32) × Int32) := xn (xb (k_n = v2) (some (k_n, k_inOrder, k_starts)) (xn (f_X0_arrange v2 k_inOrder k_starts) (fun (z : (Nat → Int32) × (Nat → Int32)) => match z with | (k_inOrder_4, k_starts_5) => some (v2, k_inOrder_4, k_starts_5)))) (fun (z : Int32 × (Nat → Int32) × (Nat → Int32)) => match z with | (k_n_1, k_inOrder_2, k_starts_3) => xn (f_J7_fill_53178 256 k_firsts (-1 : Int32)) (fun (k_firsts_6 : (Nat → Int32)) => xn (xL (f_X0_make_L1 k_n_1 k_inOrder_2 e_steps e_chains) (k_firsts_6, k_reached, k_reachedAt, k_reachedCount, (0 : Int32))) (fun (z : (Nat → Int32) × (Nat → Int32) × (Nat → Int32) × Int32) => match z with | (k_firsts_12, k_reached_13, k_reachedAt_14, k_reachedCount_15) => some (k_n_1, k_inOrder_2, k_starts_3, k_firsts_12, k_reached_13, k_reachedAt_14, k_reachedCount_15))))
set_option maxHeartbeats 4000000 in
set_option maxRecDepth 100000 in
theorem c_X0_make (l : Launch) (dC : Nat → ClassId) (dI : Nat → Nat → Nat) (cI cZ cB cO : ClassId) (k_h : Nat) (k_p : Nat → Nat) (e_h : Nat) (e_p : Nat → Nat) (k_n : Int32) (k_inOrder : (Nat → Int32)) (k_starts : (Nat → Int32)) (k_firsts : (Nat → Int32)) (k_reached : (Nat → Int32)) (k_reachedAt : (Nat → Int32)) (k_reachedCount : Int32) (e_n : Int32) (e_steps : (Nat → Int32)) (e_undoing : (Nat → Int32)) (e_chains : (Nat → Int32)) (e_leaving : (Nat → Int32)) (e_found : (Nat → Int32)) (e_foundAt : (Nat → Int32)) (e_foundCount : Int32) (v2 : Int32) (o : Int32 × (Nat → Int32) × (Nat → Int32) × (Nat → Int32) × (Nat → Int32) × (Nat → Int32) × Int32) (h : f_X0_make k_n k_inOrder k_starts k_firsts k_reached k_reachedAt k_reachedCount e_steps e_chains v2 = some o) (sz : Nat) : Met l yX0_make (xW yX0_make cX0_make 6 none) { frames := 3, cells := 0, slots := 0, locals := 74 } (xPre dC dI (xT cI cZ cB cO) [.ref k_h, .ref e_h, .int v2] ((wK cI cZ cB cO k_h k_p k_n k_inOrder k_starts k_firsts k_reached k_reachedAt k_reachedCount) ++ (wE cI cZ cB cO e_h e_p e_n e_steps e_undoing e_chains e_leaving e_found e_foundAt e_foundCount)) sz) (xQv dC dI (xT cI cZ cB cO) ((wK cI cZ cB cO k_h k_p k_n k_inOrder k_starts k_firsts k_reached k_reachedAt k_reachedCount) ++ (wE cI cZ cB cO e_h e_p e_n e_steps e_undoing e_chains e_leaving e_found e_foundAt e_foundCount)) ((wK cI cZ cB cO k_h k_p o.1 o.2.1 o.2.2.1 o.2.2.2.1 o.2.2.2.2.1 o.2.2.2.2.2.1 o.2.2.2.2.2.2) ++ (wE cI cZ cB cO e_h e_p e_n e_steps e_undoing e_chains e_leaving e_found e_foundAt e_foundCount)) sz) 0 0 (va_A ((wK cI cZ cB cO k_h k_p k_n k_inOrder k_starts k_firsts k_reached k_reachedAt k_reachedCount) ++ (wE cI cZ cB cO e_h e_p e_n e_steps e_undoing e_chains e_leaving e_found e_foundAt e_foundCount)) sz) := by
  refine x_met (by decide) (Nat.le_of_ble_eq_true rfl) ?_
  intro p e s m args below meth c R Q A hR hsz hA hQ hin C hw ls hl
  have hx := C.1
  have hb := C.2.1
  have hown := C.2.2.2.1
  have htb := C.2.2.2.2.1
  have hl : lv_has ls 6 [(0, .ref k_h), (1, .ref e_h), (2, .int v2)] := hl
  refine lv_aload_n hx hb dX0_make_0 rfl (lv_at hl 0 rfl) ?_
  refine x_get (ci := 0) C hw inX0 rfl 0 (by decide) lkF_X0_9 rfl 0 rfl rfl dX0_make_1 ?_
  refine lv_iload_n hx hb dX0_make_4 rfl (lv_at hl 2 rfl) ?_
  obtain ⟨z, hj, h⟩ := xn_i h
  have k : ∀ (H : Heap) (locs : List Loc) (ls : Array Slot), xWd (dC, dI) A s.heap H locs ((wK cI cZ cB cO k_h k_p z.1 z.2.1 z.2.2 k_firsts k_reached k_reachedAt k_reachedCount) ++ (wE cI cZ cB cO e_h e_p e_n e_steps e_undoing e_chains e_leaving e_found e_foundAt e_foundCount)) → lv_has ls 6 [(0, .ref k_h), (1, .ref e_h)] → W p l e R s m args below meth c H locs 0 0 Q (F0 m 17 ls []) := by
    obtain ⟨k_n_1, k_inOrder_2, k_starts_3⟩ := z
    intro H locs ls hw hl
    have hw : xWd (dC, dI) A s.heap H locs ((wK cI cZ cB cO k_h k_p k_n_1 k_inOrder_2 k_starts_3 k_firsts k_reached k_reachedAt k_reachedCount) ++ (wE cI cZ cB cO e_h e_p e_n e_steps e_undoing e_chains e_leaving e_found e_foundAt e_foundCount)) := hw
    have hl : lv_has ls 6 [(0, .ref k_h), (1, .ref e_h)] := hl
    show W p l e R s m args below meth c H locs 0 0 Q (F0 m 17 ls [])
    refine lv_aload_n hx hb dX0_make_17 rfl (lv_at hl 0 rfl) ?_
    refine x_get (ci := 0) C hw inX0 rfl 3 (by decide) lkF_X0_22 rfl 0 rfl rfl dX0_make_18 ?_
    refine lv_iconst (v := (-1 : Int32)) hx hb dX0_make_21 (by decide) ?_
    obtain ⟨k_firsts_6, q3, h⟩ := xn_i h
    refine x_callSv (As := [.ref (k_p 3), .int (-1 : Int32)]) (rest := []) C hw gc_X0_34 ds_J7_fill_53178 (by rw [hR]; exact Nat.le_of_ble_eq_true rfl) (by rw [hR]; exact Nat.le_of_ble_eq_true rfl) rfl rfl (Nat.zero_le _) (Nat.zero_le _) (c_J7_fill_53178 l dC dI cI cZ cB cO (k_p 3) 256 k_firsts (-1 : Int32) _ q3 _) [3] [0, 1, 2, 4, 5, 6, 7, 8, 9, 10, 11, 12] (by decide) rfl rfl (by decide) (by decide) rfl hl.1 rfl (Nat.le_of_ble_eq_true rfl) dX0_make_22 (fun H locs hw => ?_)
    have hw : xWd (dC, dI) A s.heap H locs ((wK cI cZ cB cO k_h k_p k_n_1 k_inOrder_2 k_starts_3 k_firsts_6 k_reached k_reachedAt k_reachedCount) ++ (wE cI cZ cB cO e_h e_p e_n e_steps e_undoing e_chains e_leaving e_found e_foundAt e_foundCount)) := hw.sub [0, 1, 2, 12, 3, 4, 5, 6, 7, 8, 9, 10, 11] (by decide) rfl
    refine lv_iconst (v := (0 : Int32)) hx hb dX0_make_25 (by decide) ?_
    refine lv_istore_n (lv' := [(3, .int (0 : Int32)), (0, .ref k_h), (1, .ref e_h)]) hx hb dX0_make_26 rfl hl (by decide) rfl (fun ls hl => ?_)
    obtain ⟨z, hr, h⟩ := xn_i h
    refine xL_w (fun (z : (Nat → Int32) × (Nat → Int32) × (Nat → Int32) × Int32 × Int32) => ∀ (H : Heap) (locs : List Loc) (ls : Array Slot), xWd (dC, dI) A s.heap H locs ((wK cI cZ cB cO k_h k_p k_n_1 k_inOrder_2 k_starts_3 z.1 z.2.1 z.2.2.1 z.2.2.2.1) ++ (wE cI cZ cB cO e_h e_p e_n e_steps e_undoing e_chains e_leaving e_found e_foundAt e_foundCount)) → lv_has ls 6 [(0, .ref k_h), (1, .ref e_h), (3, .int z.2.2.2.2)] → W p l e R s m args below meth c H locs 0 0 Q (F0 m 27 ls [])) (fun (z : (Nat → Int32) × (Nat → Int32) × (Nat → Int32) × Int32) => ∀ (H : Heap) (locs : List Loc) (ls : Array Slot), xWd (dC, dI) A s.heap H locs ((wK cI cZ cB cO k_h k_p k_n_1 k_inOrder_2 k_starts_3 z.1 z.2.1 z.2.2.1 z.2.2.2) ++ (wE cI cZ cB cO e_h e_p e_n e_steps e_undoing e_chains e_leaving e_found e_foundAt e_foundCount)) → lv_has ls 6 [] → W p l e R s m args below meth c H locs 0 0 Q (F0 m 101 ls [])) ?_ hr ?_ _ _ _ hw (lv_sub hl [1, 2, 0] rfl)
    · rintro ⟨k_firsts_7, k_reached_8, k_reachedAt_9, k_reachedCount_10, v3_11⟩ o h k H locs ls hw hl
      have hw : xWd (dC, dI) A s.heap H locs ((wK cI cZ cB cO k_h k_p k_n_1 k_inOrder_2 k_starts_3 k_firsts_7 k_reached_8 k_reachedAt_9 k_reachedCount_10) ++ (wE cI cZ cB cO e_h e_p e_n e_steps e_undoing e_chains e_leaving e_found e_foundAt e_foundCount)) := hw
      have hl : lv_has ls 6 [(0, .ref k_h), (1, .ref e_h), (3, .int v3_11)] := hl
      refine lv_iload_n hx hb dX0_make_27 rfl (lv_at hl 2 rfl) ?_
      refine lv_iconst (v := (1 : Int32)) hx hb dX0_make_28 (by decide) ?_
      refine lv_aload_n hx hb dX0_make_29 rfl (lv_at hl 0 rfl) ?_
      refine x_get (ci := 0) C hw inX0 rfl 0 (by decide) lkF_X0_9 rfl 0 rfl rfl dX0_make_30 ?_
      refine lv_ishl hx hb dX0_make_33 ?_
      refine lv_icmp_ge (tgt := 101) hx hb dX0_make_34 (by decide) (fun b4 => ?_) (fun b4 => ?_)
      · replace h := xb_tt b4 h
        obtain rfl := Option.some.inj h
        exact k _ _ _ hw (lv_sub hl [] rfl)
      · replace h := xb_ff b4 h
        refine lv_aload_n hx hb dX0_make_37 rfl (lv_at hl 0 rfl) ?_
        refine x_get (ci := 0) C hw inX0 rfl 1 (by decide) lkF_X0_15 rfl 0 rfl rfl dX0_make_38 ?_
        refine lv_iload_n hx hb dX0_make_41 rfl (lv_at hl 2 rfl) ?_
        obtain ⟨b5, h⟩ := xk_i h
        refine x_iald C hw 1 0 rfl rfl b5 dX0_make_42 ?_
        refine lv_istore (lv' := [(4, .int (k_inOrder_2 v3_11.toNatClampNeg)), (0, .ref k_h), (1, .ref e_h), (3, .int v3_11)]) hx hb dX0_make_43 hl (by decide) rfl (fun ls hl => ?_)
        refine lv_aload_n hx hb dX0_make_45 rfl (lv_at hl 1 rfl) ?_
        refine x_get (ci := 0) C hw inX0 rfl 3 (by decide) lkF_X0_22 rfl 0 rfl rfl dX0_make_46 ?_
        refine lv_iload hx hb dX0_make_49 (lv_at hl 0 rfl) ?_
        obtain ⟨b6, h⟩ := xk_i h
        refine x_iald C hw 3 0 rfl rfl b6 dX0_make_51 ?_
        refine lv_iconst (v := (-1 : Int32)) hx hb dX0_make_52 (by decide) ?_
        refine lv_icmp_ne (tgt := 95) hx hb dX0_make_53 (by decide) (fun b7 => ?_) (fun b7 => ?_)
        · replace h := xb_ff b7 h
          refine lv_iinc (v := (v3_11 + (1 : Int32))) (lv' := [(3, .int (v3_11 + (1 : Int32))), (4, .int (k_inOrder_2 v3_11.toNatClampNeg)), (0, .ref k_h), (1, .ref e_h)]) hx hb dX0_make_95 hl (k := 3) rfl (congrArg (fun q => v3_11 + q) (by decide)) (by decide) rfl (fun ls hl => ?_)
          refine lv_goto (tgt := 27) hx hb dX0_make_98 (by decide) ?_
          obtain rfl := Option.some.inj h
          exact k _ _ _ hw (lv_sub hl [2, 3, 0] rfl)
        · replace h := xb_tt b7 h
          refine lv_aload_n hx hb dX0_make_56 rfl (lv_at hl 1 rfl) ?_
          refine lv_aload_n hx hb dX0_make_57 rfl (lv_at hl 2 rfl) ?_
          refine lv_iload hx hb dX0_make_58 (lv_at hl 0 rfl) ?_
          obtain ⟨⟨k_reached_16, k_reachedAt_17, k_reachedCount_18⟩, q8, h⟩ := xn_i h
          refine x_callVv (As := [.ref e_h, .int (k_inOrder_2 v3_11.toNatClampNeg)]) (rest := []) C hw gc_X0_43 ⟨rfl, rfl, ds_X0_spread, (by rw [hR]; exact Nat.le_of_ble_eq_true rfl), (by rw [hR]; exact Nat.le_of_ble_eq_true rfl), Nat.zero_le _, Nat.zero_le _⟩ (c_X0_spread l dC dI cI cZ cB cO k_h k_p e_h e_p k_n_1 k_inOrder_2 k_starts_3 k_firsts_7 k_reached_8 k_reachedAt_9 k_reachedCount_10 e_n e_steps e_undoing e_chains e_leaving e_found e_foundAt e_foundCount (k_inOrder_2 v3_11.toNatClampNeg) _ q8 _) [0, 1, 2, 3, 4, 5, 6, 7, 8, 9, 10, 11, 12] [] (by decide) rfl rfl (by decide) (by decide) rfl rfl rfl hl.1 rfl (Nat.le_of_ble_eq_true rfl) dX0_make_60 (fun H locs hw => ?_)
          have hw : xWd (dC, dI) A s.heap H locs ((wK cI cZ cB cO k_h k_p k_n_1 k_inOrder_2 k_starts_3 k_firsts_7 k_reached_16 k_reachedAt_17 k_reachedCount_18) ++ (wE cI cZ cB cO e_h e_p e_n e_steps e_undoing e_chains e_leaving e_found e_foundAt e_foundCount)) := hw
          refine lv_iconst (v := (0 : Int32)) hx hb dX0_make_63 (by decide) ?_
          refine lv_istore (lv' := [(5, .int (0 : Int32)), (4, .int (k_inOrder_2 v3_11.toNatClampNeg)), (0, .ref k_h), (1, .ref e_h), (3, .int v3_11)]) hx hb dX0_make_64 hl (by decide) rfl (fun ls hl => ?_)
          obtain ⟨z, hr, h⟩ := xn_i h
          refine xL_w (fun (z : (Nat → Int32) × Int32) => ∀ (H : Heap) (locs : List Loc) (ls : Array Slot), xWd (dC, dI) A s.heap H locs ((wK cI cZ cB cO k_h k_p k_n_1 k_inOrder_2 k_starts_3 z.1 k_reached_16 k_reachedAt_17 k_reachedCount_18) ++ (wE cI cZ cB cO e_h e_p e_n e_steps e_undoing e_chains e_leaving e_found e_foundAt e_foundCount)) → lv_has ls 6 [(0, .ref k_h), (1, .ref e_h), (3, .int v3_11), (4, .int (k_inOrder_2 v3_11.toNatClampNeg)), (5, .int z.2)] → W p l e R s m args below meth c H locs 0 0 Q (F0 m 66 ls [])) (fun (z : (Nat → Int32)) => ∀ (H : Heap) (locs : List Loc) (ls : Array Slot), xWd (dC, dI) A s.heap H locs ((wK cI cZ cB cO k_h k_p k_n_1 k_inOrder_2 k_starts_3 z k_reached_16 k_reachedAt_17 k_reachedCount_18) ++ (wE cI cZ cB cO e_h e_p e_n e_steps e_undoing e_chains e_leaving e_found e_foundAt e_foundCount)) → lv_has ls 6 [(0, .ref k_h), (1, .ref e_h), (3, .int v3_11)] → W p l e R s m args below meth c H locs 0 0 Q (F0 m 95 ls [])) ?_ hr ?_ _ _ _ hw (lv_sub hl [2, 3, 4, 1, 0] rfl)
          · rintro ⟨k_firsts_19, v5_20⟩ o h k H locs ls hw hl
            have hw : xWd (dC, dI) A s.heap H locs ((wK cI cZ cB cO k_h k_p k_n_1 k_inOrder_2 k_starts_3 k_firsts_19 k_reached_16 k_reachedAt_17 k_reachedCount_18) ++ (wE cI cZ cB cO e_h e_p e_n e_steps e_undoing e_chains e_leaving e_found e_foundAt e_foundCount)) := hw
            have hl : lv_has ls 6 [(0, .ref k_h), (1, .ref e_h), (3, .int v3_11), (4, .int (k_inOrder_2 v3_11.toNatClampNeg)), (5, .int v5_20)] := hl
            refine lv_iload hx hb dX0_make_66 (lv_at hl 4 rfl) ?_
            refine lv_aload_n hx hb dX0_make_68 rfl (lv_at hl 0 rfl) ?_
            refine x_get (ci := 0) C hw inX0 rfl 6 (by decide) lkF_X0_31 rfl 0 rfl rfl dX0_make_69 ?_
            refine lv_icmp_ge (tgt := 95) hx hb dX0_make_72 (by decide) (fun b9 => ?_) (fun b9 => ?_)
            · replace h := xb_tt b9 h
              obtain rfl := Option.some.inj h
              exact k _ _ _ hw (lv_sub hl [0, 1, 2] rfl)
            · replace h := xb_ff b9 h
              refine lv_aload_n hx hb dX0_make_75 rfl (lv_at hl 0 rfl) ?_
              refine x_get (ci := 0) C hw inX0 rfl 3 (by decide) lkF_X0_22 rfl 0 rfl rfl dX0_make_76 ?_
              refine lv_aload_n hx hb dX0_make_79 rfl (lv_at hl 0 rfl) ?_
              refine x_get (ci := 0) C hw inX0 rfl 4 (by decide) lkF_X0_25 rfl 0 rfl rfl dX0_make_80 ?_
              refine lv_iload hx hb dX0_make_83 (lv_at hl 4 rfl) ?_
              obtain ⟨b10, h⟩ := xk_i h
              refine x_iald C hw 4 0 rfl rfl b10 dX0_make_85 ?_
              refine lv_iload hx hb dX0_make_86 (lv_at hl 3 rfl) ?_
              obtain ⟨b11, h⟩ := xk_i h
              refine x_iast C hw 3 0 rfl rfl b11 dX0_make_88 (fun H locs hw => ?_)
              have hw : xWd (dC, dI) A s.heap H locs ((wK cI cZ cB cO k_h k_p k_n_1 k_inOrder_2 k_starts_3 (upd k_firsts_19 (k_reached_16 v5_20.toNatClampNeg).toNatClampNeg (k_inOrder_2 v3_11.toNatClampNeg)) k_reached_16 k_reachedAt_17 k_reachedCount_18) ++ (wE cI cZ cB cO e_h e_p e_n e_steps e_undoing e_chains e_leaving e_found e_foundAt e_foundCount)) := hw
              refine lv_iinc (v := (v5_20 + (1 : Int32))) (lv' := [(5, .int (v5_20 + (1 : Int32))), (0, .ref k_h), (1, .ref e_h), (3, .int v3_11), (4, .int (k_inOrder_2 v3_11.toNatClampNeg))]) hx hb dX0_make_89 hl (k := 4) rfl (congrArg (fun q => v5_20 + q) (by decide)) (by decide) rfl (fun ls hl => ?_)
              refine lv_goto (tgt := 66) hx hb dX0_make_92 (by decide) ?_
              obtain rfl := Option.some.inj h
              exact k _ _ _ hw (lv_sub hl [1, 2, 3, 4, 0] rfl)
          · obtain ⟨k_firsts_21, hz⟩ : ∃ q, q = z := ⟨z, rfl⟩
            subst hz
            intro H locs ls hw hl
            have hw : xWd (dC, dI) A s.heap H locs ((wK cI cZ cB cO k_h k_p k_n_1 k_inOrder_2 k_starts_3 k_firsts_21 k_reached_16 k_reachedAt_17 k_reachedCount_18) ++ (wE cI cZ cB cO e_h e_p e_n e_steps e_undoing e_chains e_leaving e_found e_foundAt e_foundCount)) := hw
            have hl : lv_has ls 6 [(0, .ref k_h), (1, .ref e_h), (3, .int v3_11)] := hl
            refine lv_iinc (v := (v3_11 + (1 : Int32))) (lv' := [(3, .int (v3_11 + (1 : Int32))), (0, .ref k_h), (1, .ref e_h)]) hx hb dX0_make_95 hl (k := 2) rfl (congrArg (fun q => v3_11 + q) (by decide)) (by decide) rfl (fun ls hl => ?_)
            refine lv_goto (tgt := 27) hx hb dX0_make_98 (by decide) ?_
            obtain rfl := Option.some.inj h
            exact k _ _ _ hw (lv_sub hl [1, 2, 0] rfl)
    · obtain ⟨k_firsts_12, k_reached_13, k_reachedAt_14, k_reachedCount_15⟩ := z
      intro H locs ls hw hl
      have hw : xWd (dC, dI) A s.heap H locs ((wK cI cZ cB cO k_h k_p k_n_1 k_inOrder_2 k_starts_3 k_firsts_12 k_reached_13 k_reachedAt_14 k_reachedCount_15) ++ (wE cI cZ cB cO e_h e_p e_n e_steps e_undoing e_chains e_leaving e_found e_foundAt e_foundCount)) := hw
      have hl : lv_has ls 6 [] := hl
      obtain rfl := Option.some.inj h
      exact x_retv C hQ hA hw dX0_make_101
  clear h
  have h := hj
  clear hj
  refine lv_icmp_eq (tgt := 17) hx hb dX0_make_5 (by decide) (fun b1 => ?_) (fun b1 => ?_)
  · replace h := xb_tt b1 h
    obtain rfl := Option.some.inj h
    exact k _ _ _ hw (lv_sub hl [0, 1] rfl)
  · replace h := xb_ff b1 h
    refine lv_aload_n hx hb dX0_make_8 rfl (lv_at hl 0 rfl) ?_
    refine lv_iload_n hx hb dX0_make_9 rfl (lv_at hl 2 rfl) ?_
    refine x_put (ci := 0) C hw inX0 tyX0 tyX0_ok nmX0 rfl 0 (by decide) lkF_X0_9 rfl rfl 0 rfl rfl rfl (Nat.le_of_ble_eq_true rfl) dX0_make_10 (fun H locs hw => ?_)
    have hw : xWd (dC, dI) A s.heap H locs ((wK cI cZ cB cO k_h k_p v2 k_inOrder k_starts k_firsts k_reached k_reachedAt k_reachedCount) ++ (wE cI cZ cB cO e_h e_p e_n e_steps e_undoing e_chains e_leaving e_found e_foundAt e_foundCount)) := hw
    refine lv_aload_n hx hb dX0_make_13 rfl (lv_at hl 0 rfl) ?_
    obtain ⟨⟨k_inOrder_4, k_starts_5⟩, q2, h⟩ := xn_i h
    refine x_callVv (As := []) (rest := []) C hw gc_X0_40 ⟨rfl, rfl, ds_X0_arrange, (by rw [hR]; exact Nat.le_of_ble_eq_true rfl), (by rw [hR]; exact Nat.le_of_ble_eq_true rfl), Nat.zero_le _, Nat.zero_le _⟩ (c_X0_arrange l dC dI cI cZ cB cO k_h k_p v2 k_inOrder k_starts k_firsts k_reached k_reachedAt k_reachedCount _ q2 _) [0, 1, 2, 3, 4, 5] [6, 7, 8, 9, 10, 11, 12] (by decide) rfl rfl (by decide) (by decide) rfl rfl rfl hl.1 rfl (Nat.le_of_ble_eq_true rfl) dX0_make_14 (fun H locs hw => ?_)
    have hw : xWd (dC, dI) A s.heap H locs ((wK cI cZ cB cO k_h k_p v2 k_inOrder_4 k_starts_5 k_firsts k_reached k_reachedAt k_reachedCount) ++ (wE cI cZ cB cO e_h e_p e_n e_steps e_undoing e_chains e_leaving e_found e_foundAt e_foundCount)) := hw.sub [7, 8, 9, 10, 11, 12, 0, 1, 2, 3, 4, 5, 6] (by decide) rfl
    obtain rfl := Option.some.inj h
    exact k _ _ _ hw (lv_sub hl [0, 1] rfl)
noncomputable def f_X0_goOnTowards_L1 (k_n : Int32) (r_1 : Int32) (e_steps : (Nat → Int32)) (v2 : Int32) (v3 : Int32) (v4 : Int32) (k_reachedAt : (Nat → Int32)) (v6_2 : Int32) : Option ((Int32) ⊕ ((Unit) ⊕ (Int32))) := xb (k_n ≤ v6_2) (some (.inr (.inl ()))) (xb (((r_1 >>> (v6_2 &&& 31)) &&& (1 : Int32)) = 0) (some (.inl (v6_2 + (1 : Int32)))) (xn (f_X1_goOn e_steps v2 v3 v6_2) (fun (r_3 : Int32) => xn (f_X2_inverse r_3) (fun (r_4 : Int32) => xn (f_X2_carry v4 r_4) (fun (r_5 : Int32) => xk (vp_in r_5 256) (xb ((k_reachedAt r_5.toNatClampNeg) ≤ v3) (some (.inl (v6_2 + (1 : Int32)))) (some (.inr (.inr r_3)))))))))
noncomputable def f_X0_goOnTowards (k_n : Int32) (k_reachedAt : (Nat → Int32)) (e_steps : (Nat → Int32)) (e_chains : (Nat → Int32)) (v2 : Int32) (v3 : Int32) (v4 : Int32) : Option (Int32) := xn (f_X1_choices e_chains v2 v3) (fun (r_1 : Int32) => xn (xL (f_X0_goOnTowards_L1 k_n r_1 e_steps v2 v3 v4 k_reachedAt) (0 : Int32)) (fun (x : (Unit) ⊕ (Int32)) => match x with | .inl z => (fun (_ : Unit) => some v2) z | .inr z => some z))
set_option maxHeartbeats 4000000 in
set_option maxRecDepth 100000 in
theorem c_X0_goOnTowards (l : Launch) (dC : Nat → ClassId) (dI : Nat → Nat → Nat) (cI cZ cB cO : ClassId) (k_h : Nat) (k_p : Nat → Nat) (e_h : Nat) (e_p : Nat → Nat) (k_n : Int32) (k_inOrder : (Nat → Int32)) (k_starts : (Nat → Int32)) (k_firsts : (Nat → Int32)) (k_reached : (Nat → Int32)) (k_reachedAt : (Nat → Int32)) (k_reachedCount : Int32) (e_n : Int32) (e_steps : (Nat → Int32)) (e_undoing : (Nat → Int32)) (e_chains : (Nat → Int32)) (e_leaving : (Nat → Int32)) (e_found : (Nat → Int32)) (e_foundAt : (Nat → Int32)) (e_foundCount : Int32) (v2 : Int32) (v3 : Int32) (v4 : Int32) (o : Int32) (h : f_X0_goOnTowards k_n k_reachedAt e_steps e_chains v2 v3 v4 = some o) (sz : Nat) : Met l yX0_goOnTowards (xW yX0_goOnTowards cX0_goOnTowards 8 (some .int)) { frames := 2, cells := 0, slots := 0, locals := 46 } (xPre dC dI (xT cI cZ cB cO) [.ref k_h, .ref e_h, .int v2, .int v3, .int v4] ((wK cI cZ cB cO k_h k_p k_n k_inOrder k_starts k_firsts k_reached k_reachedAt k_reachedCount) ++ (wE cI cZ cB cO e_h e_p e_n e_steps e_undoing e_chains e_leaving e_found e_foundAt e_foundCount)) sz) (xQi dC dI (xT cI cZ cB cO) o ((wK cI cZ cB cO k_h k_p k_n k_inOrder k_starts k_firsts k_reached k_reachedAt k_reachedCount) ++ (wE cI cZ cB cO e_h e_p e_n e_steps e_undoing e_chains e_leaving e_found e_foundAt e_foundCount)) ((wK cI cZ cB cO k_h k_p k_n k_inOrder k_starts k_firsts k_reached k_reachedAt k_reachedCount) ++ (wE cI cZ cB cO e_h e_p e_n e_steps e_undoing e_chains e_leaving e_found e_foundAt e_foundCount)) sz) 0 0 (va_A ((wK cI cZ cB cO k_h k_p k_n k_inOrder k_starts k_firsts k_reached k_reachedAt k_reachedCount) ++ (wE cI cZ cB cO e_h e_p e_n e_steps e_undoing e_chains e_leaving e_found e_foundAt e_foundCount)) sz) := by
  refine x_met (by decide) (Nat.le_of_ble_eq_true rfl) ?_
  intro p e s m args below meth c R Q A hR hsz hA hQ hin C hw ls hl
  have hx := C.1
  have hb := C.2.1
  have hown := C.2.2.2.1
  have htb := C.2.2.2.2.1
  have hl : lv_has ls 8 [(0, .ref k_h), (1, .ref e_h), (2, .int v2), (3, .int v3), (4, .int v4)] := hl
  refine lv_aload_n hx hb dX0_goOnTowards_0 rfl (lv_at hl 1 rfl) ?_
  refine lv_iload_n hx hb dX0_goOnTowards_1 rfl (lv_at hl 2 rfl) ?_
  refine lv_iload_n hx hb dX0_goOnTowards_2 rfl (lv_at hl 3 rfl) ?_
  obtain ⟨r_1, q1, h⟩ := xn_i h
  refine x_callVi (As := [.int v2, .int v3]) (rest := []) C hw gc_X0_83 ⟨rfl, rfl, ds_X1_choices, (by rw [hR]; exact Nat.le_of_ble_eq_true rfl), (by rw [hR]; exact Nat.le_of_ble_eq_true rfl), Nat.zero_le _, Nat.zero_le _⟩ (c_X1_choices l dC dI cI cZ cB cO e_h e_p e_n e_steps e_undoing e_chains e_leaving e_found e_foundAt e_foundCount v2 v3 _ q1 _) [6, 7, 8, 9, 10, 11, 12] [0, 1, 2, 3, 4, 5] (by decide) rfl rfl (by decide) (by decide) rfl rfl rfl hl.1 rfl (Nat.le_of_ble_eq_true rfl) dX0_goOnTowards_3 (fun H locs hw => ?_)
  have hw : xWd (dC, dI) A s.heap H locs ((wK cI cZ cB cO k_h k_p k_n k_inOrder k_starts k_firsts k_reached k_reachedAt k_reachedCount) ++ (wE cI cZ cB cO e_h e_p e_n e_steps e_undoing e_chains e_leaving e_found e_foundAt e_foundCount)) := hw
  refine lv_istore (lv' := [(5, .int r_1), (0, .ref k_h), (1, .ref e_h), (2, .int v2), (3, .int v3), (4, .int v4)]) hx hb dX0_goOnTowards_6 hl (by decide) rfl (fun ls hl => ?_)
  refine lv_iconst (v := (0 : Int32)) hx hb dX0_goOnTowards_8 (by decide) ?_
  refine lv_istore (lv' := [(6, .int (0 : Int32)), (5, .int r_1), (0, .ref k_h), (1, .ref e_h), (2, .int v2), (3, .int v3), (4, .int v4)]) hx hb dX0_goOnTowards_9 hl (by decide) rfl (fun ls hl => ?_)
  obtain ⟨z, hr, h⟩ := xn_i h
  refine xL_w (fun (z : Int32) => ∀ (H : Heap) (locs : List Loc) (ls : Array Slot), xWd (dC, dI) A s.heap H locs ((wK cI cZ cB cO k_h k_p k_n k_inOrder k_starts k_firsts k_reached k_reachedAt k_reachedCount) ++ (wE cI cZ cB cO e_h e_p e_n e_steps e_undoing e_chains e_leaving e_found e_foundAt e_foundCount)) → lv_has ls 8 [(0, .ref k_h), (1, .ref e_h), (2, .int v2), (3, .int v3), (4, .int v4), (5, .int r_1), (6, .int z)] → W p l e R s m args below meth c H locs 0 0 Q (F0 m 11 ls [])) (Sum.elim (fun (z : Unit) => ∀ (H : Heap) (locs : List Loc) (ls : Array Slot), xWd (dC, dI) A s.heap H locs ((wK cI cZ cB cO k_h k_p k_n k_inOrder k_starts k_firsts k_reached k_reachedAt k_reachedCount) ++ (wE cI cZ cB cO e_h e_p e_n e_steps e_undoing e_chains e_leaving e_found e_foundAt e_foundCount)) → lv_has ls 8 [(2, .int v2)] → W p l e R s m args below meth c H locs 0 0 Q (F0 m 68 ls [])) (fun (z : Int32) => ∀ (H : Heap) (locs : List Loc), xWd (dC, dI) A s.heap H locs ((wK cI cZ cB cO k_h k_p k_n k_inOrder k_starts k_firsts k_reached k_reachedAt k_reachedCount) ++ (wE cI cZ cB cO e_h e_p e_n e_steps e_undoing e_chains e_leaving e_found e_foundAt e_foundCount)) → ∀ (pc : Nat) (ls : Array Slot), decode cX0_goOnTowards pc = .ok (.ireturn, 1) → W p l e R s m args below meth c H locs 0 0 Q (F0 m pc ls [.int z]))) ?_ hr ?_ _ _ _ hw (lv_sub hl [2, 3, 4, 5, 6, 1, 0] rfl)
  · intro v6_2 o h k H locs ls hw hl
    have hw : xWd (dC, dI) A s.heap H locs ((wK cI cZ cB cO k_h k_p k_n k_inOrder k_starts k_firsts k_reached k_reachedAt k_reachedCount) ++ (wE cI cZ cB cO e_h e_p e_n e_steps e_undoing e_chains e_leaving e_found e_foundAt e_foundCount)) := hw
    have hl : lv_has ls 8 [(0, .ref k_h), (1, .ref e_h), (2, .int v2), (3, .int v3), (4, .int v4), (5, .int r_1), (6, .int v6_2)] := hl
    refine lv_iload hx hb dX0_goOnTowards_11 (lv_at hl 6 rfl) ?_
    refine lv_aload_n hx hb dX0_goOnTowards_13 rfl (lv_at hl 0 rfl) ?_
    refine x_get (ci := 0) C hw inX0 rfl 0 (by decide) lkF_X0_9 rfl 0 rfl rfl dX0_goOnTowards_14 ?_
    refine lv_icmp_ge (tgt := 68) hx hb dX0_goOnTowards_17 (by decide) (fun b2 => ?_) (fun b2 => ?_)
    · replace h := xb_tt b2 h
      obtain rfl := Option.some.inj h
      exact k _ _ _ hw (lv_sub hl [2] rfl)
    · replace h := xb_ff b2 h
      refine lv_iload hx hb dX0_goOnTowards_20 (lv_at hl 5 rfl) ?_
      refine lv_iload hx hb dX0_goOnTowards_22 (lv_at hl 6 rfl) ?_
      refine lv_ishr hx hb dX0_goOnTowards_24 ?_
      refine lv_iconst (v := (1 : Int32)) hx hb dX0_goOnTowards_25 (by decide) ?_
      refine lv_iand hx hb dX0_goOnTowards_26 ?_
      refine lv_if_eq (tgt := 62) hx hb dX0_goOnTowards_27 (by decide) (fun b3 => ?_) (fun b3 => ?_)
      · replace h := xb_tt b3 h
        refine lv_iinc (v := (v6_2 + (1 : Int32))) (lv' := [(6, .int (v6_2 + (1 : Int32))), (0, .ref k_h), (1, .ref e_h), (2, .int v2), (3, .int v3), (4, .int v4), (5, .int r_1)]) hx hb dX0_goOnTowards_62 hl (k := 6) rfl (congrArg (fun q => v6_2 + q) (by decide)) (by decide) rfl (fun ls hl => ?_)
        refine lv_goto (tgt := 11) hx hb dX0_goOnTowards_65 (by decide) ?_
        obtain rfl := Option.some.inj h
        exact k _ _ _ hw (lv_sub hl [1, 2, 3, 4, 5, 6, 0] rfl)
      · replace h := xb_ff b3 h
        refine lv_aload_n hx hb dX0_goOnTowards_30 rfl (lv_at hl 1 rfl) ?_
        refine lv_iload_n hx hb dX0_goOnTowards_31 rfl (lv_at hl 2 rfl) ?_
        refine lv_iload_n hx hb dX0_goOnTowards_32 rfl (lv_at hl 3 rfl) ?_
        refine lv_iload hx hb dX0_goOnTowards_33 (lv_at hl 6 rfl) ?_
        obtain ⟨r_3, q4, h⟩ := xn_i h
        refine x_callVi (As := [.int v2, .int v3, .int v6_2]) (rest := []) C hw gc_X0_86 ⟨rfl, rfl, ds_X1_goOn, (by rw [hR]; exact Nat.le_of_ble_eq_true rfl), (by rw [hR]; exact Nat.le_of_ble_eq_true rfl), Nat.zero_le _, Nat.zero_le _⟩ (c_X1_goOn l dC dI cI cZ cB cO e_h e_p e_n e_steps e_undoing e_chains e_leaving e_found e_foundAt e_foundCount v2 v3 v6_2 _ q4 _) [6, 7, 8, 9, 10, 11, 12] [0, 1, 2, 3, 4, 5] (by decide) rfl rfl (by decide) (by decide) rfl rfl rfl hl.1 rfl (Nat.le_of_ble_eq_true rfl) dX0_goOnTowards_35 (fun H locs hw => ?_)
        have hw : xWd (dC, dI) A s.heap H locs ((wK cI cZ cB cO k_h k_p k_n k_inOrder k_starts k_firsts k_reached k_reachedAt k_reachedCount) ++ (wE cI cZ cB cO e_h e_p e_n e_steps e_undoing e_chains e_leaving e_found e_foundAt e_foundCount)) := hw
        refine lv_istore (lv' := [(7, .int r_3), (0, .ref k_h), (1, .ref e_h), (2, .int v2), (3, .int v3), (4, .int v4), (5, .int r_1), (6, .int v6_2)]) hx hb dX0_goOnTowards_38 hl (by decide) rfl (fun ls hl => ?_)
        refine lv_aload_n hx hb dX0_goOnTowards_40 rfl (lv_at hl 1 rfl) ?_
        refine x_get (ci := 0) C hw inX0 rfl 5 (by decide) lkF_X0_28 rfl 0 rfl rfl dX0_goOnTowards_41 ?_
        refine lv_iload hx hb dX0_goOnTowards_44 (lv_at hl 5 rfl) ?_
        refine lv_iload hx hb dX0_goOnTowards_46 (lv_at hl 0 rfl) ?_
        obtain ⟨r_4, q5, h⟩ := xn_i h
        refine x_callSi (As := [.int r_3]) (rest := [.int v4, .ref (k_p 5)]) C hw gc_X0_90 ds_X2_inverse (by rw [hR]; exact Nat.le_of_ble_eq_true rfl) (by rw [hR]; exact Nat.le_of_ble_eq_true rfl) rfl rfl (Nat.zero_le _) (Nat.zero_le _) (c_X2_inverse l dC dI cI cZ cB cO r_3 _ q5 _) [] [0, 1, 2, 3, 4, 5, 6, 7, 8, 9, 10, 11, 12] (by decide) rfl rfl (by decide) (by decide) rfl hl.1 rfl (Nat.le_of_ble_eq_true rfl) dX0_goOnTowards_48 (fun H locs hw => ?_)
        have hw : xWd (dC, dI) A s.heap H locs ((wK cI cZ cB cO k_h k_p k_n k_inOrder k_starts k_firsts k_reached k_reachedAt k_reachedCount) ++ (wE cI cZ cB cO e_h e_p e_n e_steps e_undoing e_chains e_leaving e_found e_foundAt e_foundCount)) := hw.sub [0, 1, 2, 3, 4, 5, 6, 7, 8, 9, 10, 11, 12] (by decide) rfl
        obtain ⟨r_5, q6, h⟩ := xn_i h
        refine x_callSi (As := [.int v4, .int r_4]) (rest := [.ref (k_p 5)]) C hw gc_X0_73 ds_X2_carry (by rw [hR]; exact Nat.le_of_ble_eq_true rfl) (by rw [hR]; exact Nat.le_of_ble_eq_true rfl) rfl rfl (Nat.zero_le _) (Nat.zero_le _) (c_X2_carry l dC dI cI cZ cB cO v4 r_4 _ q6 _) [] [0, 1, 2, 3, 4, 5, 6, 7, 8, 9, 10, 11, 12] (by decide) rfl rfl (by decide) (by decide) rfl hl.1 rfl (Nat.le_of_ble_eq_true rfl) dX0_goOnTowards_51 (fun H locs hw => ?_)
        have hw : xWd (dC, dI) A s.heap H locs ((wK cI cZ cB cO k_h k_p k_n k_inOrder k_starts k_firsts k_reached k_reachedAt k_reachedCount) ++ (wE cI cZ cB cO e_h e_p e_n e_steps e_undoing e_chains e_leaving e_found e_foundAt e_foundCount)) := hw.sub [0, 1, 2, 3, 4, 5, 6, 7, 8, 9, 10, 11, 12] (by decide) rfl
        obtain ⟨b7, h⟩ := xk_i h
        refine x_iald C hw 5 0 rfl rfl b7 dX0_goOnTowards_54 ?_
        refine lv_iload_n hx hb dX0_goOnTowards_55 rfl (lv_at hl 4 rfl) ?_
        refine lv_icmp_le (tgt := 62) hx hb dX0_goOnTowards_56 (by decide) (fun b8 => ?_) (fun b8 => ?_)
        · replace h := xb_tt b8 h
          refine lv_iinc (v := (v6_2 + (1 : Int32))) (lv' := [(6, .int (v6_2 + (1 : Int32))), (7, .int r_3), (0, .ref k_h), (1, .ref e_h), (2, .int v2), (3, .int v3), (4, .int v4), (5, .int r_1)]) hx hb dX0_goOnTowards_62 hl (k := 7) rfl (congrArg (fun q => v6_2 + q) (by decide)) (by decide) rfl (fun ls hl => ?_)
          refine lv_goto (tgt := 11) hx hb dX0_goOnTowards_65 (by decide) ?_
          obtain rfl := Option.some.inj h
          exact k _ _ _ hw (lv_sub hl [2, 3, 4, 5, 6, 7, 0] rfl)
        · replace h := xb_ff b8 h
          refine lv_iload hx hb dX0_goOnTowards_59 (lv_at hl 0 rfl) ?_
          obtain rfl := Option.some.inj h
          exact k _ _ hw _ _ dX0_goOnTowards_61
  · rcases z with z | z
    · intro H locs ls hw hl
      have hw : xWd (dC, dI) A s.heap H locs ((wK cI cZ cB cO k_h k_p k_n k_inOrder k_starts k_firsts k_reached k_reachedAt k_reachedCount) ++ (wE cI cZ cB cO e_h e_p e_n e_steps e_undoing e_chains e_leaving e_found e_foundAt e_foundCount)) := hw
      have hl : lv_has ls 8 [(2, .int v2)] := hl
      refine lv_iload_n hx hb dX0_goOnTowards_68 rfl (lv_at hl 0 rfl) ?_
      obtain rfl := Option.some.inj h
      exact x_reti C hQ hA hw dX0_goOnTowards_69
    · obtain rfl := Option.some.inj h
      intro H locs hw pc ls hd
      exact x_reti C hQ hA hw hd
noncomputable def f_X0_firstMove_L1 (k_n : Int32) (k_reachedAt_2 : (Nat → Int32)) (e_steps : (Nat → Int32)) (e_chains : (Nat → Int32)) (v3 : Int32) (z : Int32 × Int32) : Option ((Int32 × Int32) ⊕ (Int32)) := match z with
  | (v4_4, v5_5) => xb (k_n ≤ v5_5) (some (.inr v4_4)) (xn (f_X0_goOnTowards k_n k_reachedAt_2 e_steps e_chains v4_4 v5_5 v3) (fun (r_7 : Int32) => some (.inl (r_7, (v5_5 + (1 : Int32))))))
noncomputable def f_X0_firstMove (k_n : Int32) (k_reached : (Nat → Int32)) (k_reachedAt : (Nat → Int32)) (k_reachedCount : Int32) (e_steps : (Nat → Int32)) (e_chains : (Nat → Int32)) (v2 : Int32) (v3 : Int32) : Option ((Nat → Int32) × (Nat → Int32) × Int32 × Int32) := xn (f_X0_spread k_n k_reached k_reachedAt k_reachedCount e_steps e_chains v2) (fun (z : (Nat → Int32) × (Nat → Int32) × Int32) => match z with | (k_reached_1, k_reachedAt_2, k_reachedCount_3) => xk (vp_in v3 256) (xb ((k_reachedAt_2 v3.toNatClampNeg) = (-1 : Int32)) (some (k_reached_1, k_reachedAt_2, k_reachedCount_3, (-1 : Int32))) (xn (xL (f_X0_firstMove_L1 k_n k_reachedAt_2 e_steps e_chains v3) ((16434824 : Int32), (0 : Int32))) (fun (v4_6 : Int32) => some (k_reached_1, k_reachedAt_2, k_reachedCount_3, v4_6)))))
set_option maxHeartbeats 4000000 in
set_option maxRecDepth 100000 in
theorem c_X0_firstMove (l : Launch) (dC : Nat → ClassId) (dI : Nat → Nat → Nat) (cI cZ cB cO : ClassId) (k_h : Nat) (k_p : Nat → Nat) (e_h : Nat) (e_p : Nat → Nat) (k_n : Int32) (k_inOrder : (Nat → Int32)) (k_starts : (Nat → Int32)) (k_firsts : (Nat → Int32)) (k_reached : (Nat → Int32)) (k_reachedAt : (Nat → Int32)) (k_reachedCount : Int32) (e_n : Int32) (e_steps : (Nat → Int32)) (e_undoing : (Nat → Int32)) (e_chains : (Nat → Int32)) (e_leaving : (Nat → Int32)) (e_found : (Nat → Int32)) (e_foundAt : (Nat → Int32)) (e_foundCount : Int32) (v2 : Int32) (v3 : Int32) (o : (Nat → Int32) × (Nat → Int32) × Int32 × Int32) (h : f_X0_firstMove k_n k_reached k_reachedAt k_reachedCount e_steps e_chains v2 v3 = some o) (sz : Nat) : Met l yX0_firstMove (xW yX0_firstMove cX0_firstMove 6 (some .int)) { frames := 3, cells := 0, slots := 0, locals := 74 } (xPre dC dI (xT cI cZ cB cO) [.ref k_h, .ref e_h, .int v2, .int v3] ((wK cI cZ cB cO k_h k_p k_n k_inOrder k_starts k_firsts k_reached k_reachedAt k_reachedCount) ++ (wE cI cZ cB cO e_h e_p e_n e_steps e_undoing e_chains e_leaving e_found e_foundAt e_foundCount)) sz) (xQi dC dI (xT cI cZ cB cO) o.2.2.2 ((wK cI cZ cB cO k_h k_p k_n k_inOrder k_starts k_firsts k_reached k_reachedAt k_reachedCount) ++ (wE cI cZ cB cO e_h e_p e_n e_steps e_undoing e_chains e_leaving e_found e_foundAt e_foundCount)) ((wK cI cZ cB cO k_h k_p k_n k_inOrder k_starts k_firsts o.1 o.2.1 o.2.2.1) ++ (wE cI cZ cB cO e_h e_p e_n e_steps e_undoing e_chains e_leaving e_found e_foundAt e_foundCount)) sz) 0 0 (va_A ((wK cI cZ cB cO k_h k_p k_n k_inOrder k_starts k_firsts k_reached k_reachedAt k_reachedCount) ++ (wE cI cZ cB cO e_h e_p e_n e_steps e_undoing e_chains e_leaving e_found e_foundAt e_foundCount)) sz) := by
  refine x_met (by decide) (Nat.le_of_ble_eq_true rfl) ?_
  intro p e s m args below meth c R Q A hR hsz hA hQ hin C hw ls hl
  have hx := C.1
  have hb := C.2.1
  have hown := C.2.2.2.1
  have htb := C.2.2.2.2.1
  have hl : lv_has ls 6 [(0, .ref k_h), (1, .ref e_h), (2, .int v2), (3, .int v3)] := hl
  refine lv_aload_n hx hb dX0_firstMove_0 rfl (lv_at hl 0 rfl) ?_
  refine lv_aload_n hx hb dX0_firstMove_1 rfl (lv_at hl 1 rfl) ?_
  refine lv_iload_n hx hb dX0_firstMove_2 rfl (lv_at hl 2 rfl) ?_
  obtain ⟨⟨k_reached_1, k_reachedAt_2, k_reachedCount_3⟩, q1, h⟩ := xn_i h
  refine x_callVv (As := [.ref e_h, .int v2]) (rest := []) C hw gc_X0_43 ⟨rfl, rfl, ds_X0_spread, (by rw [hR]; exact Nat.le_of_ble_eq_true rfl), (by rw [hR]; exact Nat.le_of_ble_eq_true rfl), Nat.zero_le _, Nat.zero_le _⟩ (c_X0_spread l dC dI cI cZ cB cO k_h k_p e_h e_p k_n k_inOrder k_starts k_firsts k_reached k_reachedAt k_reachedCount e_n e_steps e_undoing e_chains e_leaving e_found e_foundAt e_foundCount v2 _ q1 _) [0, 1, 2, 3, 4, 5, 6, 7, 8, 9, 10, 11, 12] [] (by decide) rfl rfl (by decide) (by decide) rfl rfl rfl hl.1 rfl (Nat.le_of_ble_eq_true rfl) dX0_firstMove_3 (fun H locs hw => ?_)
  have hw : xWd (dC, dI) A s.heap H locs ((wK cI cZ cB cO k_h k_p k_n k_inOrder k_starts k_firsts k_reached_1 k_reachedAt_2 k_reachedCount_3) ++ (wE cI cZ cB cO e_h e_p e_n e_steps e_undoing e_chains e_leaving e_found e_foundAt e_foundCount)) := hw
  refine lv_aload_n hx hb dX0_firstMove_6 rfl (lv_at hl 0 rfl) ?_
  refine x_get (ci := 0) C hw inX0 rfl 5 (by decide) lkF_X0_28 rfl 0 rfl rfl dX0_firstMove_7 ?_
  refine lv_iload_n hx hb dX0_firstMove_10 rfl (lv_at hl 3 rfl) ?_
  obtain ⟨b2, h⟩ := xk_i h
  refine x_iald C hw 5 0 rfl rfl b2 dX0_firstMove_11 ?_
  refine lv_iconst (v := (-1 : Int32)) hx hb dX0_firstMove_12 (by decide) ?_
  refine lv_icmp_ne (tgt := 18) hx hb dX0_firstMove_13 (by decide) (fun b3 => ?_) (fun b3 => ?_)
  · replace h := xb_ff b3 h
    refine lv_ldc hx hb hown (htb _ kI_X0_78) dX0_firstMove_18 ?_
    refine lv_istore (lv' := [(4, .int (16434824 : Int32)), (0, .ref k_h), (1, .ref e_h), (2, .int v2), (3, .int v3)]) hx hb dX0_firstMove_20 hl (by decide) rfl (fun ls hl => ?_)
    refine lv_iconst (v := (0 : Int32)) hx hb dX0_firstMove_22 (by decide) ?_
    refine lv_istore (lv' := [(5, .int (0 : Int32)), (4, .int (16434824 : Int32)), (0, .ref k_h), (1, .ref e_h), (2, .int v2), (3, .int v3)]) hx hb dX0_firstMove_23 hl (by decide) rfl (fun ls hl => ?_)
    obtain ⟨z, hr, h⟩ := xn_i h
    refine xL_w (fun (z : Int32 × Int32) => ∀ (H : Heap) (locs : List Loc) (ls : Array Slot), xWd (dC, dI) A s.heap H locs ((wK cI cZ cB cO k_h k_p k_n k_inOrder k_starts k_firsts k_reached_1 k_reachedAt_2 k_reachedCount_3) ++ (wE cI cZ cB cO e_h e_p e_n e_steps e_undoing e_chains e_leaving e_found e_foundAt e_foundCount)) → lv_has ls 6 [(0, .ref k_h), (1, .ref e_h), (3, .int v3), (4, .int z.1), (5, .int z.2)] → W p l e R s m args below meth c H locs 0 0 Q (F0 m 25 ls [])) (fun (z : Int32) => ∀ (H : Heap) (locs : List Loc) (ls : Array Slot), xWd (dC, dI) A s.heap H locs ((wK cI cZ cB cO k_h k_p k_n k_inOrder k_starts k_firsts k_reached_1 k_reachedAt_2 k_reachedCount_3) ++ (wE cI cZ cB cO e_h e_p e_n e_steps e_undoing e_chains e_leaving e_found e_foundAt e_foundCount)) → lv_has ls 6 [(4, .int z)] → W p l e R s m args below meth c H locs 0 0 Q (F0 m 52 ls [])) ?_ hr ?_ _ _ _ hw (lv_sub hl [2, 3, 5, 1, 0] rfl)
    · rintro ⟨v4_4, v5_5⟩ o h k H locs ls hw hl
      have hw : xWd (dC, dI) A s.heap H locs ((wK cI cZ cB cO k_h k_p k_n k_inOrder k_starts k_firsts k_reached_1 k_reachedAt_2 k_reachedCount_3) ++ (wE cI cZ cB cO e_h e_p e_n e_steps e_undoing e_chains e_leaving e_found e_foundAt e_foundCount)) := hw
      have hl : lv_has ls 6 [(0, .ref k_h), (1, .ref e_h), (3, .int v3), (4, .int v4_4), (5, .int v5_5)] := hl
      refine lv_iload hx hb dX0_firstMove_25 (lv_at hl 4 rfl) ?_
      refine lv_aload_n hx hb dX0_firstMove_27 rfl (lv_at hl 0 rfl) ?_
      refine x_get (ci := 0) C hw inX0 rfl 0 (by decide) lkF_X0_9 rfl 0 rfl rfl dX0_firstMove_28 ?_
      refine lv_icmp_ge (tgt := 52) hx hb dX0_firstMove_31 (by decide) (fun b4 => ?_) (fun b4 => ?_)
      · replace h := xb_tt b4 h
        obtain rfl := Option.some.inj h
        exact k _ _ _ hw (lv_sub hl [3] rfl)
      · replace h := xb_ff b4 h
        refine lv_aload_n hx hb dX0_firstMove_34 rfl (lv_at hl 0 rfl) ?_
        refine lv_aload_n hx hb dX0_firstMove_35 rfl (lv_at hl 1 rfl) ?_
        refine lv_iload hx hb dX0_firstMove_36 (lv_at hl 3 rfl) ?_
        refine lv_iload hx hb dX0_firstMove_38 (lv_at hl 4 rfl) ?_
        refine lv_iload_n hx hb dX0_firstMove_40 rfl (lv_at hl 2 rfl) ?_
        obtain ⟨r_7, q5, h⟩ := xn_i h
        refine x_callVi (As := [.ref e_h, .int v4_4, .int v5_5, .int v3]) (rest := []) C hw gc_X0_79 ⟨rfl, rfl, ds_X0_goOnTowards, (by rw [hR]; exact Nat.le_of_ble_eq_true rfl), (by rw [hR]; exact Nat.le_of_ble_eq_true rfl), Nat.zero_le _, Nat.zero_le _⟩ (c_X0_goOnTowards l dC dI cI cZ cB cO k_h k_p e_h e_p k_n k_inOrder k_starts k_firsts k_reached_1 k_reachedAt_2 k_reachedCount_3 e_n e_steps e_undoing e_chains e_leaving e_found e_foundAt e_foundCount v4_4 v5_5 v3 _ q5 _) [0, 1, 2, 3, 4, 5, 6, 7, 8, 9, 10, 11, 12] [] (by decide) rfl rfl (by decide) (by decide) rfl rfl rfl hl.1 rfl (Nat.le_of_ble_eq_true rfl) dX0_firstMove_41 (fun H locs hw => ?_)
        have hw : xWd (dC, dI) A s.heap H locs ((wK cI cZ cB cO k_h k_p k_n k_inOrder k_starts k_firsts k_reached_1 k_reachedAt_2 k_reachedCount_3) ++ (wE cI cZ cB cO e_h e_p e_n e_steps e_undoing e_chains e_leaving e_found e_foundAt e_foundCount)) := hw
        refine lv_istore (lv' := [(4, .int r_7), (0, .ref k_h), (1, .ref e_h), (3, .int v3), (5, .int v5_5)]) hx hb dX0_firstMove_44 hl (by decide) rfl (fun ls hl => ?_)
        refine lv_iinc (v := (v5_5 + (1 : Int32))) (lv' := [(5, .int (v5_5 + (1 : Int32))), (4, .int r_7), (0, .ref k_h), (1, .ref e_h), (3, .int v3)]) hx hb dX0_firstMove_46 hl (k := 4) rfl (congrArg (fun q => v5_5 + q) (by decide)) (by decide) rfl (fun ls hl => ?_)
        refine lv_goto (tgt := 25) hx hb dX0_firstMove_49 (by decide) ?_
        obtain rfl := Option.some.inj h
        exact k _ _ _ hw (lv_sub hl [2, 3, 4, 1, 0] rfl)
    · obtain ⟨v4_6, hz⟩ : ∃ q, q = z := ⟨z, rfl⟩
      subst hz
      intro H locs ls hw hl
      have hw : xWd (dC, dI) A s.heap H locs ((wK cI cZ cB cO k_h k_p k_n k_inOrder k_starts k_firsts k_reached_1 k_reachedAt_2 k_reachedCount_3) ++ (wE cI cZ cB cO e_h e_p e_n e_steps e_undoing e_chains e_leaving e_found e_foundAt e_foundCount)) := hw
      have hl : lv_has ls 6 [(4, .int v4_6)] := hl
      refine lv_iload hx hb dX0_firstMove_52 (lv_at hl 0 rfl) ?_
      obtain rfl := Option.some.inj h
      exact x_reti C hQ hA hw dX0_firstMove_54
  · replace h := xb_tt b3 h
    refine lv_iconst (v := (-1 : Int32)) hx hb dX0_firstMove_16 (by decide) ?_
    obtain rfl := Option.some.inj h
    exact x_reti C hQ hA hw dX0_firstMove_17
noncomputable def f_X0_first (k_firsts : (Nat → Int32)) (v1 : Int32) : Option (Int32) := xk (vp_in (v1 &&& (255 : Int32)) 256) (some (k_firsts (v1 &&& (255 : Int32)).toNatClampNeg))
set_option maxHeartbeats 4000000 in
set_option maxRecDepth 100000 in
theorem c_X0_first (l : Launch) (dC : Nat → ClassId) (dI : Nat → Nat → Nat) (cI cZ cB cO : ClassId) (k_h : Nat) (k_p : Nat → Nat) (k_n : Int32) (k_inOrder : (Nat → Int32)) (k_starts : (Nat → Int32)) (k_firsts : (Nat → Int32)) (k_reached : (Nat → Int32)) (k_reachedAt : (Nat → Int32)) (k_reachedCount : Int32) (v1 : Int32) (o : Int32) (h : f_X0_first k_firsts v1 = some o) (sz : Nat) : Met l yX0_first (xW yX0_first cX0_first 2 (some .int)) { frames := 0, cells := 0, slots := 0, locals := 0 } (xPre dC dI (xT cI cZ cB cO) [.ref k_h, .int v1] (wK cI cZ cB cO k_h k_p k_n k_inOrder k_starts k_firsts k_reached k_reachedAt k_reachedCount) sz) (xQi dC dI (xT cI cZ cB cO) o (wK cI cZ cB cO k_h k_p k_n k_inOrder k_starts k_firsts k_reached k_reachedAt k_reachedCount) (wK cI cZ cB cO k_h k_p k_n k_inOrder k_starts k_firsts k_reached k_reachedAt k_reachedCount) sz) 0 0 (va_A (wK cI cZ cB cO k_h k_p k_n k_inOrder k_starts k_firsts k_reached k_reachedAt k_reachedCount) sz) := by
  refine x_met (by decide) (Nat.le_of_ble_eq_true rfl) ?_
  intro p e s m args below meth c R Q A hR hsz hA hQ hin C hw ls hl
  have hx := C.1
  have hb := C.2.1
  have hown := C.2.2.2.1
  have htb := C.2.2.2.2.1
  have hl : lv_has ls 2 [(0, .ref k_h), (1, .int v1)] := hl
  refine lv_aload_n hx hb dX0_first_0 rfl (lv_at hl 0 rfl) ?_
  refine x_get (ci := 0) C hw inX0 rfl 3 (by decide) lkF_X0_22 rfl 0 rfl rfl dX0_first_1 ?_
  refine lv_iload_n hx hb dX0_first_4 rfl (lv_at hl 1 rfl) ?_
  refine lv_sipush (v := (255 : Int32)) hx hb dX0_first_5 (by decide) ?_
  refine lv_iand hx hb dX0_first_8 ?_
  obtain ⟨b1, h⟩ := xk_i h
  refine x_iald C hw 3 0 rfl rfl b1 dX0_first_9 ?_
  obtain rfl := Option.some.inj h
  exact x_reti C hQ hA hw dX0_first_10
noncomputable def f_X0_start (k_n : Int32) (k_starts : (Nat → Int32)) (v1 : Int32) : Option (Int32) := xk (vp_in (if (0 : Int32) < (if (k_n + (1 : Int32)) < v1 then (k_n + (1 : Int32)) else v1) then (if (k_n + (1 : Int32)) < v1 then (k_n + (1 : Int32)) else v1) else (0 : Int32)) 10) (some (k_starts (if (0 : Int32) < (if (k_n + (1 : Int32)) < v1 then (k_n + (1 : Int32)) else v1) then (if (k_n + (1 : Int32)) < v1 then (k_n + (1 : Int32)) else v1) else (0 : Int32)).toNatClampNeg))
set_option maxHeartbeats 4000000 in
set_option maxRecDepth 100000 in
theorem c_X0_start (l : Launch) (dC : Nat → ClassId) (dI : Nat → Nat → Nat) (cI cZ cB cO : ClassId) (k_h : Nat) (k_p : Nat → Nat) (k_n : Int32) (k_inOrder : (Nat → Int32)) (k_starts : (Nat → Int32)) (k_firsts : (Nat → Int32)) (k_reached : (Nat → Int32)) (k_reachedAt : (Nat → Int32)) (k_reachedCount : Int32) (v1 : Int32) (o : Int32) (h : f_X0_start k_n k_starts v1 = some o) (sz : Nat) : Met l yX0_start (xW yX0_start cX0_start 2 (some .int)) { frames := 1, cells := 0, slots := 0, locals := 24 } (xPre dC dI (xT cI cZ cB cO) [.ref k_h, .int v1] (wK cI cZ cB cO k_h k_p k_n k_inOrder k_starts k_firsts k_reached k_reachedAt k_reachedCount) sz) (xQi dC dI (xT cI cZ cB cO) o (wK cI cZ cB cO k_h k_p k_n k_inOrder k_starts k_firsts k_reached k_reachedAt k_reachedCount) (wK cI cZ cB cO k_h k_p k_n k_inOrder k_starts k_firsts k_reached k_reachedAt k_reachedCount) sz) 0 0 (va_A (wK cI cZ cB cO k_h k_p k_n k_inOrder k_starts k_firsts k_reached k_reachedAt k_reachedCount) sz) := by
  refine x_met (by decide) (Nat.le_of_ble_eq_true rfl) ?_
  intro p e s m args below meth c R Q A hR hsz hA hQ hin C hw ls hl
  have hx := C.1
  have hb := C.2.1
  have hown := C.2.2.2.1
  have htb := C.2.2.2.2.1
  have hl : lv_has ls 2 [(0, .ref k_h), (1, .int v1)] := hl
  refine lv_aload_n hx hb dX0_start_0 rfl (lv_at hl 0 rfl) ?_
  refine x_get (ci := 0) C hw inX0 rfl 2 (by decide) lkF_X0_19 rfl 0 rfl rfl dX0_start_1 ?_
  refine lv_iconst (v := (0 : Int32)) hx hb dX0_start_4 (by decide) ?_
  refine lv_iload_n hx hb dX0_start_5 rfl (lv_at hl 1 rfl) ?_
  refine lv_aload_n hx hb dX0_start_6 rfl (lv_at hl 0 rfl) ?_
  refine x_get (ci := 0) C hw inX0 rfl 0 (by decide) lkF_X0_9 rfl 0 rfl rfl dX0_start_7 ?_
  refine lv_iconst (v := (1 : Int32)) hx hb dX0_start_10 (by decide) ?_
  refine lv_iadd hx hb dX0_start_11 ?_
  refine x_min (rest := [.int (0 : Int32), .ref (k_p 2)]) C lkM_X0_93 (by rw [hR]; exact Nat.le_of_ble_eq_true rfl) (by rw [hR]; exact Nat.le_of_ble_eq_true rfl) (Nat.zero_le _) (Nat.zero_le _) hl.1 dX0_start_12 ?_
  refine x_max (rest := [.ref (k_p 2)]) C lkM_X0_98 (by rw [hR]; exact Nat.le_of_ble_eq_true rfl) (by rw [hR]; exact Nat.le_of_ble_eq_true rfl) (Nat.zero_le _) (Nat.zero_le _) hl.1 dX0_start_15 ?_
  obtain ⟨b1, h⟩ := xk_i h
  refine x_iald C hw 2 0 rfl rfl b1 dX0_start_18 ?_
  obtain rfl := Option.some.inj h
  exact x_reti C hQ hA hw dX0_start_19
noncomputable def f_X0_countWith_L1 (k_n : Int32) (k_starts : (Nat → Int32)) (r_1 : Int32) (k_firsts : (Nat → Int32)) (k_inOrder : (Nat → Int32)) (r_2 : Int32) (z : Int32 × Int32) : Option ((Int32 × Int32) ⊕ (Int32)) := match z with
  | (v4_4, v5_5) => xn (f_X0_start k_n k_starts (r_1 + (1 : Int32))) (fun (r_7 : Int32) => xb (r_7 ≤ v5_5) (some (.inr v4_4)) (xk (vp_in v5_5 256) (xn (f_X0_first k_firsts (k_inOrder v5_5.toNatClampNeg)) (fun (r_8 : Int32) => xb (r_8 = r_2) (some (.inl ((v4_4 + (1 : Int32)), (v5_5 + (1 : Int32))))) (some (.inl (v4_4, (v5_5 + (1 : Int32)))))))))
noncomputable def f_X0_countWith (k_n : Int32) (k_inOrder : (Nat → Int32)) (k_starts : (Nat → Int32)) (k_firsts : (Nat → Int32)) (v1 : Int32) : Option (Int32) := xn (f_J6_bitCount_0f7a4 v1) (fun (r_1 : Int32) => xn (f_X0_first k_firsts v1) (fun (r_2 : Int32) => xn (f_X0_start k_n k_starts r_1) (fun (r_3 : Int32) => xn (xL (f_X0_countWith_L1 k_n k_starts r_1 k_firsts k_inOrder r_2) ((0 : Int32), r_3)) (fun (v4_6 : Int32) => some v4_6))))
set_option maxHeartbeats 4000000 in
set_option maxRecDepth 100000 in
theorem c_X0_countWith (l : Launch) (dC : Nat → ClassId) (dI : Nat → Nat → Nat) (cI cZ cB cO : ClassId) (k_h : Nat) (k_p : Nat → Nat) (k_n : Int32) (k_inOrder : (Nat → Int32)) (k_starts : (Nat → Int32)) (k_firsts : (Nat → Int32)) (k_reached : (Nat → Int32)) (k_reachedAt : (Nat → Int32)) (k_reachedCount : Int32) (v1 : Int32) (o : Int32) (h : f_X0_countWith k_n k_inOrder k_starts k_firsts v1 = some o) (sz : Nat) : Met l yX0_countWith (xW yX0_countWith cX0_countWith 6 (some .int)) { frames := 2, cells := 0, slots := 0, locals := 45 } (xPre dC dI (xT cI cZ cB cO) [.ref k_h, .int v1] (wK cI cZ cB cO k_h k_p k_n k_inOrder k_starts k_firsts k_reached k_reachedAt k_reachedCount) sz) (xQi dC dI (xT cI cZ cB cO) o (wK cI cZ cB cO k_h k_p k_n k_inOrder k_starts k_firsts k_reached k_reachedAt k_reachedCount) (wK cI cZ cB cO k_h k_p k_n k_inOrder k_starts k_firsts k_reached k_reachedAt k_reachedCount) sz) 0 0 (va_A (wK cI cZ cB cO k_h k_p k_n k_inOrder k_starts k_firsts k_reached k_reachedAt k_reachedCount) sz) := by
  refine x_met (by decide) (Nat.le_of_ble_eq_true rfl) ?_
  intro p e s m args below meth c R Q A hR hsz hA hQ hin C hw ls hl
  have hx := C.1
  have hb := C.2.1
  have hown := C.2.2.2.1
  have htb := C.2.2.2.2.1
  have hl : lv_has ls 6 [(0, .ref k_h), (1, .int v1)] := hl
  refine lv_iload_n hx hb dX0_countWith_0 rfl (lv_at hl 1 rfl) ?_
  obtain ⟨r_1, q1, h⟩ := xn_i h
  refine x_callSi (As := [.int v1]) (rest := []) C hw gc_X0_47 ds_J6_bitCount_0f7a4 (by rw [hR]; exact Nat.le_of_ble_eq_true rfl) (by rw [hR]; exact Nat.le_of_ble_eq_true rfl) rfl rfl (Nat.zero_le _) (Nat.zero_le _) (c_J6_bitCount_0f7a4 l dC dI cI cZ cB cO v1 _ q1 _) [] [0, 1, 2, 3, 4, 5] (by decide) rfl rfl (by decide) (by decide) rfl hl.1 rfl (Nat.le_of_ble_eq_true rfl) dX0_countWith_1 (fun H locs hw => ?_)
  have hw : xWd (dC, dI) A s.heap H locs (wK cI cZ cB cO k_h k_p k_n k_inOrder k_starts k_firsts k_reached k_reachedAt k_reachedCount) := hw.sub [0, 1, 2, 3, 4, 5] (by decide) rfl
  refine lv_istore_n (lv' := [(2, .int r_1), (0, .ref k_h), (1, .int v1)]) hx hb dX0_countWith_4 rfl hl (by decide) rfl (fun ls hl => ?_)
  refine lv_aload_n hx hb dX0_countWith_5 rfl (lv_at hl 1 rfl) ?_
  refine lv_iload_n hx hb dX0_countWith_6 rfl (lv_at hl 2 rfl) ?_
  obtain ⟨r_2, q2, h⟩ := xn_i h
  refine x_callVi (As := [.int v1]) (rest := []) C hw gc_X0_101 ⟨rfl, rfl, ds_X0_first, (by rw [hR]; exact Nat.le_of_ble_eq_true rfl), (by rw [hR]; exact Nat.le_of_ble_eq_true rfl), Nat.zero_le _, Nat.zero_le _⟩ (c_X0_first l dC dI cI cZ cB cO k_h k_p k_n k_inOrder k_starts k_firsts k_reached k_reachedAt k_reachedCount v1 _ q2 _) [0, 1, 2, 3, 4, 5] [] (by decide) rfl rfl (by decide) (by decide) rfl rfl rfl hl.1 rfl (Nat.le_of_ble_eq_true rfl) dX0_countWith_7 (fun H locs hw => ?_)
  have hw : xWd (dC, dI) A s.heap H locs (wK cI cZ cB cO k_h k_p k_n k_inOrder k_starts k_firsts k_reached k_reachedAt k_reachedCount) := hw
  refine lv_istore_n (lv' := [(3, .int r_2), (2, .int r_1), (0, .ref k_h), (1, .int v1)]) hx hb dX0_countWith_10 rfl hl (by decide) rfl (fun ls hl => ?_)
  refine lv_iconst (v := (0 : Int32)) hx hb dX0_countWith_11 (by decide) ?_
  refine lv_istore (lv' := [(4, .int (0 : Int32)), (3, .int r_2), (2, .int r_1), (0, .ref k_h), (1, .int v1)]) hx hb dX0_countWith_12 hl (by decide) rfl (fun ls hl => ?_)
  refine lv_aload_n hx hb dX0_countWith_14 rfl (lv_at hl 3 rfl) ?_
  refine lv_iload_n hx hb dX0_countWith_15 rfl (lv_at hl 2 rfl) ?_
  obtain ⟨r_3, q3, h⟩ := xn_i h
  refine x_callVi (As := [.int r_1]) (rest := []) C hw gc_X0_104 ⟨rfl, rfl, ds_X0_start, (by rw [hR]; exact Nat.le_of_ble_eq_true rfl), (by rw [hR]; exact Nat.le_of_ble_eq_true rfl), Nat.zero_le _, Nat.zero_le _⟩ (c_X0_start l dC dI cI cZ cB cO k_h k_p k_n k_inOrder k_starts k_firsts k_reached k_reachedAt k_reachedCount r_1 _ q3 _) [0, 1, 2, 3, 4, 5] [] (by decide) rfl rfl (by decide) (by decide) rfl rfl rfl hl.1 rfl (Nat.le_of_ble_eq_true rfl) dX0_countWith_16 (fun H locs hw => ?_)
  have hw : xWd (dC, dI) A s.heap H locs (wK cI cZ cB cO k_h k_p k_n k_inOrder k_starts k_firsts k_reached k_reachedAt k_reachedCount) := hw
  refine lv_istore (lv' := [(5, .int r_3), (4, .int (0 : Int32)), (3, .int r_2), (2, .int r_1), (0, .ref k_h), (1, .int v1)]) hx hb dX0_countWith_19 hl (by decide) rfl (fun ls hl => ?_)
  obtain ⟨z, hr, h⟩ := xn_i h
  refine xL_w (fun (z : Int32 × Int32) => ∀ (H : Heap) (locs : List Loc) (ls : Array Slot), xWd (dC, dI) A s.heap H locs (wK cI cZ cB cO k_h k_p k_n k_inOrder k_starts k_firsts k_reached k_reachedAt k_reachedCount) → lv_has ls 6 [(0, .ref k_h), (2, .int r_1), (3, .int r_2), (4, .int z.1), (5, .int z.2)] → W p l e R s m args below meth c H locs 0 0 Q (F0 m 21 ls [])) (fun (z : Int32) => ∀ (H : Heap) (locs : List Loc) (ls : Array Slot), xWd (dC, dI) A s.heap H locs (wK cI cZ cB cO k_h k_p k_n k_inOrder k_starts k_firsts k_reached k_reachedAt k_reachedCount) → lv_has ls 6 [(4, .int z)] → W p l e R s m args below meth c H locs 0 0 Q (F0 m 57 ls [])) ?_ hr ?_ _ _ _ hw (lv_sub hl [4, 3, 2, 1, 0] rfl)
  · rintro ⟨v4_4, v5_5⟩ o h k H locs ls hw hl
    have hw : xWd (dC, dI) A s.heap H locs (wK cI cZ cB cO k_h k_p k_n k_inOrder k_starts k_firsts k_reached k_reachedAt k_reachedCount) := hw
    have hl : lv_has ls 6 [(0, .ref k_h), (2, .int r_1), (3, .int r_2), (4, .int v4_4), (5, .int v5_5)] := hl
    refine lv_iload hx hb dX0_countWith_21 (lv_at hl 4 rfl) ?_
    refine lv_aload_n hx hb dX0_countWith_23 rfl (lv_at hl 0 rfl) ?_
    refine lv_iload_n hx hb dX0_countWith_24 rfl (lv_at hl 1 rfl) ?_
    refine lv_iconst (v := (1 : Int32)) hx hb dX0_countWith_25 (by decide) ?_
    refine lv_iadd hx hb dX0_countWith_26 ?_
    obtain ⟨r_7, q4, h⟩ := xn_i h
    refine x_callVi (As := [.int (r_1 + (1 : Int32))]) (rest := [.int v5_5]) C hw gc_X0_104 ⟨rfl, rfl, ds_X0_start, (by rw [hR]; exact Nat.le_of_ble_eq_true rfl), (by rw [hR]; exact Nat.le_of_ble_eq_true rfl), Nat.zero_le _, Nat.zero_le _⟩ (c_X0_start l dC dI cI cZ cB cO k_h k_p k_n k_inOrder k_starts k_firsts k_reached k_reachedAt k_reachedCount (r_1 + (1 : Int32)) _ q4 _) [0, 1, 2, 3, 4, 5] [] (by decide) rfl rfl (by decide) (by decide) rfl rfl rfl hl.1 rfl (Nat.le_of_ble_eq_true rfl) dX0_countWith_27 (fun H locs hw => ?_)
    have hw : xWd (dC, dI) A s.heap H locs (wK cI cZ cB cO k_h k_p k_n k_inOrder k_starts k_firsts k_reached k_reachedAt k_reachedCount) := hw
    refine lv_icmp_ge (tgt := 57) hx hb dX0_countWith_30 (by decide) (fun b5 => ?_) (fun b5 => ?_)
    · replace h := xb_tt b5 h
      obtain rfl := Option.some.inj h
      exact k _ _ _ hw (lv_sub hl [3] rfl)
    · replace h := xb_ff b5 h
      refine lv_aload_n hx hb dX0_countWith_33 rfl (lv_at hl 0 rfl) ?_
      refine lv_aload_n hx hb dX0_countWith_34 rfl (lv_at hl 0 rfl) ?_
      refine x_get (ci := 0) C hw inX0 rfl 1 (by decide) lkF_X0_15 rfl 0 rfl rfl dX0_countWith_35 ?_
      refine lv_iload hx hb dX0_countWith_38 (lv_at hl 4 rfl) ?_
      obtain ⟨b6, h⟩ := xk_i h
      refine x_iald C hw 1 0 rfl rfl b6 dX0_countWith_40 ?_
      obtain ⟨r_8, q7, h⟩ := xn_i h
      refine x_callVi (As := [.int (k_inOrder v5_5.toNatClampNeg)]) (rest := []) C hw gc_X0_101 ⟨rfl, rfl, ds_X0_first, (by rw [hR]; exact Nat.le_of_ble_eq_true rfl), (by rw [hR]; exact Nat.le_of_ble_eq_true rfl), Nat.zero_le _, Nat.zero_le _⟩ (c_X0_first l dC dI cI cZ cB cO k_h k_p k_n k_inOrder k_starts k_firsts k_reached k_reachedAt k_reachedCount (k_inOrder v5_5.toNatClampNeg) _ q7 _) [0, 1, 2, 3, 4, 5] [] (by decide) rfl rfl (by decide) (by decide) rfl rfl rfl hl.1 rfl (Nat.le_of_ble_eq_true rfl) dX0_countWith_41 (fun H locs hw => ?_)
      have hw : xWd (dC, dI) A s.heap H locs (wK cI cZ cB cO k_h k_p k_n k_inOrder k_starts k_firsts k_reached k_reachedAt k_reachedCount) := hw
      refine lv_iload_n hx hb dX0_countWith_44 rfl (lv_at hl 2 rfl) ?_
      refine lv_icmp_ne (tgt := 51) hx hb dX0_countWith_45 (by decide) (fun b8 => ?_) (fun b8 => ?_)
      · replace h := xb_ff b8 h
        refine lv_iinc (v := (v5_5 + (1 : Int32))) (lv' := [(5, .int (v5_5 + (1 : Int32))), (0, .ref k_h), (2, .int r_1), (3, .int r_2), (4, .int v4_4)]) hx hb dX0_countWith_51 hl (k := 4) rfl (congrArg (fun q => v5_5 + q) (by decide)) (by decide) rfl (fun ls hl => ?_)
        refine lv_goto (tgt := 21) hx hb dX0_countWith_54 (by decide) ?_
        obtain rfl := Option.some.inj h
        exact k _ _ _ hw (lv_sub hl [1, 2, 3, 4, 0] rfl)
      · replace h := xb_tt b8 h
        refine lv_iinc (v := (v4_4 + (1 : Int32))) (lv' := [(4, .int (v4_4 + (1 : Int32))), (0, .ref k_h), (2, .int r_1), (3, .int r_2), (5, .int v5_5)]) hx hb dX0_countWith_48 hl (k := 3) rfl (congrArg (fun q => v4_4 + q) (by decide)) (by decide) rfl (fun ls hl => ?_)
        refine lv_iinc (v := (v5_5 + (1 : Int32))) (lv' := [(5, .int (v5_5 + (1 : Int32))), (4, .int (v4_4 + (1 : Int32))), (0, .ref k_h), (2, .int r_1), (3, .int r_2)]) hx hb dX0_countWith_51 hl (k := 4) rfl (congrArg (fun q => v5_5 + q) (by decide)) (by decide) rfl (fun ls hl => ?_)
        refine lv_goto (tgt := 21) hx hb dX0_countWith_54 (by decide) ?_
        obtain rfl := Option.some.inj h
        exact k _ _ _ hw (lv_sub hl [2, 3, 4, 1, 0] rfl)
  · obtain ⟨v4_6, hz⟩ : ∃ q, q = z := ⟨z, rfl⟩
    subst hz
    intro H locs ls hw hl
    have hw : xWd (dC, dI) A s.heap H locs (wK cI cZ cB cO k_h k_p k_n k_inOrder k_starts k_firsts k_reached k_reachedAt k_reachedCount) := hw
    have hl : lv_has ls 6 [(4, .int v4_6)] := hl
    refine lv_iload hx hb dX0_countWith_57 (lv_at hl 0 rfl) ?_
    obtain rfl := Option.some.inj h
    exact x_reti C hQ hA hw dX0_countWith_59
noncomputable def f_X0_nthWith_L1 (k_n : Int32) (k_starts : (Nat → Int32)) (r_1 : Int32) (k_firsts : (Nat → Int32)) (k_inOrder : (Nat → Int32)) (r_2 : Int32) (z : Int32 × Int32) : Option ((Int32 × Int32) ⊕ ((Unit) ⊕ (Int32))) := match z with
  | (v5_4, v6_5) => xn (f_X0_start k_n k_starts (r_1 + (1 : Int32))) (fun (r_6 : Int32) => xb (r_6 ≤ v6_5) (some (.inr (.inl ()))) (xk (vp_in v6_5 256) (xn (f_X0_first k_firsts (k_inOrder v6_5.toNatClampNeg)) (fun (r_7 : Int32) => xb (r_7 = r_2) (xb (v5_4 = 0) (some (.inr (.inr (k_inOrder v6_5.toNatClampNeg)))) (some (.inl ((v5_4 + (-1 : Int32)), (v6_5 + (1 : Int32)))))) (some (.inl (v5_4, (v6_5 + (1 : Int32)))))))))
noncomputable def f_X0_nthWith (k_n : Int32) (k_inOrder : (Nat → Int32)) (k_starts : (Nat → Int32)) (k_firsts : (Nat → Int32)) (v1 : Int32) (v2 : Int32) : Option (Int32) := xn (f_J6_bitCount_0f7a4 v1) (fun (r_1 : Int32) => xn (f_X0_first k_firsts v1) (fun (r_2 : Int32) => xn (f_X0_start k_n k_starts r_1) (fun (r_3 : Int32) => xn (xL (f_X0_nthWith_L1 k_n k_starts r_1 k_firsts k_inOrder r_2) (v2, r_3)) (fun (x : (Unit) ⊕ (Int32)) => match x with | .inl z => (fun (_ : Unit) => some (-5 : Int32)) z | .inr z => some z))))
set_option maxHeartbeats 4000000 in
set_option maxRecDepth 100000 in
theorem c_X0_nthWith (l : Launch) (dC : Nat → ClassId) (dI : Nat → Nat → Nat) (cI cZ cB cO : ClassId) (k_h : Nat) (k_p : Nat → Nat) (k_n : Int32) (k_inOrder : (Nat → Int32)) (k_starts : (Nat → Int32)) (k_firsts : (Nat → Int32)) (k_reached : (Nat → Int32)) (k_reachedAt : (Nat → Int32)) (k_reachedCount : Int32) (v1 : Int32) (v2 : Int32) (o : Int32) (h : f_X0_nthWith k_n k_inOrder k_starts k_firsts v1 v2 = some o) (sz : Nat) : Met l yX0_nthWith (xW yX0_nthWith cX0_nthWith 7 (some .int)) { frames := 2, cells := 0, slots := 0, locals := 45 } (xPre dC dI (xT cI cZ cB cO) [.ref k_h, .int v1, .int v2] (wK cI cZ cB cO k_h k_p k_n k_inOrder k_starts k_firsts k_reached k_reachedAt k_reachedCount) sz) (xQi dC dI (xT cI cZ cB cO) o (wK cI cZ cB cO k_h k_p k_n k_inOrder k_starts k_firsts k_reached k_reachedAt k_reachedCount) (wK cI cZ cB cO k_h k_p k_n k_inOrder k_starts k_firsts k_reached k_reachedAt k_reachedCount) sz) 0 0 (va_A (wK cI cZ cB cO k_h k_p k_n k_inOrder k_starts k_firsts k_reached k_reachedAt k_reachedCount) sz) := by
  refine x_met (by decide) (Nat.le_of_ble_eq_true rfl) ?_
  intro p e s m args below meth c R Q A hR hsz hA hQ hin C hw ls hl
  have hx := C.1
  have hb := C.2.1
  have hown := C.2.2.2.1
  have htb := C.2.2.2.2.1
  have hl : lv_has ls 7 [(0, .ref k_h), (1, .int v1), (2, .int v2)] := hl
  refine lv_iload_n hx hb dX0_nthWith_0 rfl (lv_at hl 1 rfl) ?_
  obtain ⟨r_1, q1, h⟩ := xn_i h
  refine x_callSi (As := [.int v1]) (rest := []) C hw gc_X0_47 ds_J6_bitCount_0f7a4 (by rw [hR]; exact Nat.le_of_ble_eq_true rfl) (by rw [hR]; exact Nat.le_of_ble_eq_true rfl) rfl rfl (Nat.zero_le _) (Nat.zero_le _) (c_J6_bitCount_0f7a4 l dC dI cI cZ cB cO v1 _ q1 _) [] [0, 1, 2, 3, 4, 5] (by decide) rfl rfl (by decide) (by decide) rfl hl.1 rfl (Nat.le_of_ble_eq_true rfl) dX0_nthWith_1 (fun H locs hw => ?_)
  have hw : xWd (dC, dI) A s.heap H locs (wK cI cZ cB cO k_h k_p k_n k_inOrder k_starts k_firsts k_reached k_reachedAt k_reachedCount) := hw.sub [0, 1, 2, 3, 4, 5] (by decide) rfl
  refine lv_istore_n (lv' := [(3, .int r_1), (0, .ref k_h), (1, .int v1), (2, .int v2)]) hx hb dX0_nthWith_4 rfl hl (by decide) rfl (fun ls hl => ?_)
  refine lv_aload_n hx hb dX0_nthWith_5 rfl (lv_at hl 1 rfl) ?_
  refine lv_iload_n hx hb dX0_nthWith_6 rfl (lv_at hl 2 rfl) ?_
  obtain ⟨r_2, q2, h⟩ := xn_i h
  refine x_callVi (As := [.int v1]) (rest := []) C hw gc_X0_101 ⟨rfl, rfl, ds_X0_first, (by rw [hR]; exact Nat.le_of_ble_eq_true rfl), (by rw [hR]; exact Nat.le_of_ble_eq_true rfl), Nat.zero_le _, Nat.zero_le _⟩ (c_X0_first l dC dI cI cZ cB cO k_h k_p k_n k_inOrder k_starts k_firsts k_reached k_reachedAt k_reachedCount v1 _ q2 _) [0, 1, 2, 3, 4, 5] [] (by decide) rfl rfl (by decide) (by decide) rfl rfl rfl hl.1 rfl (Nat.le_of_ble_eq_true rfl) dX0_nthWith_7 (fun H locs hw => ?_)
  have hw : xWd (dC, dI) A s.heap H locs (wK cI cZ cB cO k_h k_p k_n k_inOrder k_starts k_firsts k_reached k_reachedAt k_reachedCount) := hw
  refine lv_istore (lv' := [(4, .int r_2), (3, .int r_1), (0, .ref k_h), (1, .int v1), (2, .int v2)]) hx hb dX0_nthWith_10 hl (by decide) rfl (fun ls hl => ?_)
  refine lv_iload_n hx hb dX0_nthWith_12 rfl (lv_at hl 4 rfl) ?_
  refine lv_istore (lv' := [(5, .int v2), (4, .int r_2), (3, .int r_1), (0, .ref k_h), (1, .int v1), (2, .int v2)]) hx hb dX0_nthWith_13 hl (by decide) rfl (fun ls hl => ?_)
  refine lv_aload_n hx hb dX0_nthWith_15 rfl (lv_at hl 3 rfl) ?_
  refine lv_iload_n hx hb dX0_nthWith_16 rfl (lv_at hl 2 rfl) ?_
  obtain ⟨r_3, q3, h⟩ := xn_i h
  refine x_callVi (As := [.int r_1]) (rest := []) C hw gc_X0_104 ⟨rfl, rfl, ds_X0_start, (by rw [hR]; exact Nat.le_of_ble_eq_true rfl), (by rw [hR]; exact Nat.le_of_ble_eq_true rfl), Nat.zero_le _, Nat.zero_le _⟩ (c_X0_start l dC dI cI cZ cB cO k_h k_p k_n k_inOrder k_starts k_firsts k_reached k_reachedAt k_reachedCount r_1 _ q3 _) [0, 1, 2, 3, 4, 5] [] (by decide) rfl rfl (by decide) (by decide) rfl rfl rfl hl.1 rfl (Nat.le_of_ble_eq_true rfl) dX0_nthWith_17 (fun H locs hw => ?_)
  have hw : xWd (dC, dI) A s.heap H locs (wK cI cZ cB cO k_h k_p k_n k_inOrder k_starts k_firsts k_reached k_reachedAt k_reachedCount) := hw
  refine lv_istore (lv' := [(6, .int r_3), (5, .int v2), (4, .int r_2), (3, .int r_1), (0, .ref k_h), (1, .int v1), (2, .int v2)]) hx hb dX0_nthWith_20 hl (by decide) rfl (fun ls hl => ?_)
  obtain ⟨z, hr, h⟩ := xn_i h
  refine xL_w (fun (z : Int32 × Int32) => ∀ (H : Heap) (locs : List Loc) (ls : Array Slot), xWd (dC, dI) A s.heap H locs (wK cI cZ cB cO k_h k_p k_n k_inOrder k_starts k_firsts k_reached k_reachedAt k_reachedCount) → lv_has ls 7 [(0, .ref k_h), (3, .int r_1), (4, .int r_2), (5, .int z.1), (6, .int z.2)] → W p l e R s m args below meth c H locs 0 0 Q (F0 m 22 ls [])) (Sum.elim (fun (z : Unit) => ∀ (H : Heap) (locs : List Loc) (ls : Array Slot), xWd (dC, dI) A s.heap H locs (wK cI cZ cB cO k_h k_p k_n k_inOrder k_starts k_firsts k_reached k_reachedAt k_reachedCount) → lv_has ls 7 [] → W p l e R s m args below meth c H locs 0 0 Q (F0 m 72 ls [])) (fun (z : Int32) => ∀ (H : Heap) (locs : List Loc), xWd (dC, dI) A s.heap H locs (wK cI cZ cB cO k_h k_p k_n k_inOrder k_starts k_firsts k_reached k_reachedAt k_reachedCount) → ∀ (pc : Nat) (ls : Array Slot), decode cX0_nthWith pc = .ok (.ireturn, 1) → W p l e R s m args below meth c H locs 0 0 Q (F0 m pc ls [.int z]))) ?_ hr ?_ _ _ _ hw (lv_sub hl [4, 3, 2, 1, 0] rfl)
  · rintro ⟨v5_4, v6_5⟩ o h k H locs ls hw hl
    have hw : xWd (dC, dI) A s.heap H locs (wK cI cZ cB cO k_h k_p k_n k_inOrder k_starts k_firsts k_reached k_reachedAt k_reachedCount) := hw
    have hl : lv_has ls 7 [(0, .ref k_h), (3, .int r_1), (4, .int r_2), (5, .int v5_4), (6, .int v6_5)] := hl
    refine lv_iload hx hb dX0_nthWith_22 (lv_at hl 4 rfl) ?_
    refine lv_aload_n hx hb dX0_nthWith_24 rfl (lv_at hl 0 rfl) ?_
    refine lv_iload_n hx hb dX0_nthWith_25 rfl (lv_at hl 1 rfl) ?_
    refine lv_iconst (v := (1 : Int32)) hx hb dX0_nthWith_26 (by decide) ?_
    refine lv_iadd hx hb dX0_nthWith_27 ?_
    obtain ⟨r_6, q4, h⟩ := xn_i h
    refine x_callVi (As := [.int (r_1 + (1 : Int32))]) (rest := [.int v6_5]) C hw gc_X0_104 ⟨rfl, rfl, ds_X0_start, (by rw [hR]; exact Nat.le_of_ble_eq_true rfl), (by rw [hR]; exact Nat.le_of_ble_eq_true rfl), Nat.zero_le _, Nat.zero_le _⟩ (c_X0_start l dC dI cI cZ cB cO k_h k_p k_n k_inOrder k_starts k_firsts k_reached k_reachedAt k_reachedCount (r_1 + (1 : Int32)) _ q4 _) [0, 1, 2, 3, 4, 5] [] (by decide) rfl rfl (by decide) (by decide) rfl rfl rfl hl.1 rfl (Nat.le_of_ble_eq_true rfl) dX0_nthWith_28 (fun H locs hw => ?_)
    have hw : xWd (dC, dI) A s.heap H locs (wK cI cZ cB cO k_h k_p k_n k_inOrder k_starts k_firsts k_reached k_reachedAt k_reachedCount) := hw
    refine lv_icmp_ge (tgt := 72) hx hb dX0_nthWith_31 (by decide) (fun b5 => ?_) (fun b5 => ?_)
    · replace h := xb_tt b5 h
      obtain rfl := Option.some.inj h
      exact k _ _ _ hw (lv_sub hl [] rfl)
    · replace h := xb_ff b5 h
      refine lv_aload_n hx hb dX0_nthWith_34 rfl (lv_at hl 0 rfl) ?_
      refine lv_aload_n hx hb dX0_nthWith_35 rfl (lv_at hl 0 rfl) ?_
      refine x_get (ci := 0) C hw inX0 rfl 1 (by decide) lkF_X0_15 rfl 0 rfl rfl dX0_nthWith_36 ?_
      refine lv_iload hx hb dX0_nthWith_39 (lv_at hl 4 rfl) ?_
      obtain ⟨b6, h⟩ := xk_i h
      refine x_iald C hw 1 0 rfl rfl b6 dX0_nthWith_41 ?_
      obtain ⟨r_7, q7, h⟩ := xn_i h
      refine x_callVi (As := [.int (k_inOrder v6_5.toNatClampNeg)]) (rest := []) C hw gc_X0_101 ⟨rfl, rfl, ds_X0_first, (by rw [hR]; exact Nat.le_of_ble_eq_true rfl), (by rw [hR]; exact Nat.le_of_ble_eq_true rfl), Nat.zero_le _, Nat.zero_le _⟩ (c_X0_first l dC dI cI cZ cB cO k_h k_p k_n k_inOrder k_starts k_firsts k_reached k_reachedAt k_reachedCount (k_inOrder v6_5.toNatClampNeg) _ q7 _) [0, 1, 2, 3, 4, 5] [] (by decide) rfl rfl (by decide) (by decide) rfl rfl rfl hl.1 rfl (Nat.le_of_ble_eq_true rfl) dX0_nthWith_42 (fun H locs hw => ?_)
      have hw : xWd (dC, dI) A s.heap H locs (wK cI cZ cB cO k_h k_p k_n k_inOrder k_starts k_firsts k_reached k_reachedAt k_reachedCount) := hw
      refine lv_iload hx hb dX0_nthWith_45 (lv_at hl 2 rfl) ?_
      refine lv_icmp_ne (tgt := 66) hx hb dX0_nthWith_47 (by decide) (fun b8 => ?_) (fun b8 => ?_)
      · replace h := xb_ff b8 h
        refine lv_iinc (v := (v6_5 + (1 : Int32))) (lv' := [(6, .int (v6_5 + (1 : Int32))), (0, .ref k_h), (3, .int r_1), (4, .int r_2), (5, .int v5_4)]) hx hb dX0_nthWith_66 hl (k := 4) rfl (congrArg (fun q => v6_5 + q) (by decide)) (by decide) rfl (fun ls hl => ?_)
        refine lv_goto (tgt := 22) hx hb dX0_nthWith_69 (by decide) ?_
        obtain rfl := Option.some.inj h
        exact k _ _ _ hw (lv_sub hl [1, 2, 3, 4, 0] rfl)
      · replace h := xb_tt b8 h
        refine lv_iload hx hb dX0_nthWith_50 (lv_at hl 3 rfl) ?_
        refine lv_if_ne (tgt := 63) hx hb dX0_nthWith_52 (by decide) (fun b9 => ?_) (fun b9 => ?_)
        · replace h := xb_ff b9 h
          refine lv_iinc (v := (v5_4 + (-1 : Int32))) (lv' := [(5, .int (v5_4 + (-1 : Int32))), (0, .ref k_h), (3, .int r_1), (4, .int r_2), (6, .int v6_5)]) hx hb dX0_nthWith_63 hl (k := 3) rfl (congrArg (fun q => v5_4 + q) (by decide)) (by decide) rfl (fun ls hl => ?_)
          refine lv_iinc (v := (v6_5 + (1 : Int32))) (lv' := [(6, .int (v6_5 + (1 : Int32))), (5, .int (v5_4 + (-1 : Int32))), (0, .ref k_h), (3, .int r_1), (4, .int r_2)]) hx hb dX0_nthWith_66 hl (k := 4) rfl (congrArg (fun q => v6_5 + q) (by decide)) (by decide) rfl (fun ls hl => ?_)
          refine lv_goto (tgt := 22) hx hb dX0_nthWith_69 (by decide) ?_
          obtain rfl := Option.some.inj h
          exact k _ _ _ hw (lv_sub hl [2, 3, 4, 1, 0] rfl)
        · replace h := xb_tt b9 h
          refine lv_aload_n hx hb dX0_nthWith_55 rfl (lv_at hl 0 rfl) ?_
          refine x_get (ci := 0) C hw inX0 rfl 1 (by decide) lkF_X0_15 rfl 0 rfl rfl dX0_nthWith_56 ?_
          refine lv_iload hx hb dX0_nthWith_59 (lv_at hl 4 rfl) ?_
          refine x_iald C hw 1 0 rfl rfl b6 dX0_nthWith_61 ?_
          obtain rfl := Option.some.inj h
          exact k _ _ hw _ _ dX0_nthWith_62
  · rcases z with z | z
    · intro H locs ls hw hl
      have hw : xWd (dC, dI) A s.heap H locs (wK cI cZ cB cO k_h k_p k_n k_inOrder k_starts k_firsts k_reached k_reachedAt k_reachedCount) := hw
      have hl : lv_has ls 7 [] := hl
      refine lv_bipush (v := (-5 : Int32)) hx hb dX0_nthWith_72 (by decide) ?_
      obtain rfl := Option.some.inj h
      exact x_reti C hQ hA hw dX0_nthWith_74
    · obtain rfl := Option.some.inj h
      intro H locs hw pc ls hd
      exact x_reti C hQ hA hw hd
noncomputable def f_X0_isFirst (k_firsts : (Nat → Int32)) (v1 : Int32) : Option (Int32) := xn (f_X0_first k_firsts v1) (fun (r_1 : Int32) => xb (r_1 = v1) (some (1 : Int32)) (some (0 : Int32)))
set_option maxHeartbeats 4000000 in
set_option maxRecDepth 100000 in
theorem c_X0_isFirst (l : Launch) (dC : Nat → ClassId) (dI : Nat → Nat → Nat) (cI cZ cB cO : ClassId) (k_h : Nat) (k_p : Nat → Nat) (k_n : Int32) (k_inOrder : (Nat → Int32)) (k_starts : (Nat → Int32)) (k_firsts : (Nat → Int32)) (k_reached : (Nat → Int32)) (k_reachedAt : (Nat → Int32)) (k_reachedCount : Int32) (v1 : Int32) (o : Int32) (h : f_X0_isFirst k_firsts v1 = some o) (sz : Nat) : Met l yX0_isFirst (xW yX0_isFirst cX0_isFirst 2 (some .boolean)) { frames := 1, cells := 0, slots := 0, locals := 21 } (xPre dC dI (xT cI cZ cB cO) [.ref k_h, .int v1] (wK cI cZ cB cO k_h k_p k_n k_inOrder k_starts k_firsts k_reached k_reachedAt k_reachedCount) sz) (xQi dC dI (xT cI cZ cB cO) o (wK cI cZ cB cO k_h k_p k_n k_inOrder k_starts k_firsts k_reached k_reachedAt k_reachedCount) (wK cI cZ cB cO k_h k_p k_n k_inOrder k_starts k_firsts k_reached k_reachedAt k_reachedCount) sz) 0 0 (va_A (wK cI cZ cB cO k_h k_p k_n k_inOrder k_starts k_firsts k_reached k_reachedAt k_reachedCount) sz) := by
  refine x_met (by decide) (Nat.le_of_ble_eq_true rfl) ?_
  intro p e s m args below meth c R Q A hR hsz hA hQ hin C hw ls hl
  have hx := C.1
  have hb := C.2.1
  have hown := C.2.2.2.1
  have htb := C.2.2.2.2.1
  have hl : lv_has ls 2 [(0, .ref k_h), (1, .int v1)] := hl
  refine lv_aload_n hx hb dX0_isFirst_0 rfl (lv_at hl 0 rfl) ?_
  refine lv_iload_n hx hb dX0_isFirst_1 rfl (lv_at hl 1 rfl) ?_
  obtain ⟨r_1, q1, h⟩ := xn_i h
  refine x_callVi (As := [.int v1]) (rest := []) C hw gc_X0_101 ⟨rfl, rfl, ds_X0_first, (by rw [hR]; exact Nat.le_of_ble_eq_true rfl), (by rw [hR]; exact Nat.le_of_ble_eq_true rfl), Nat.zero_le _, Nat.zero_le _⟩ (c_X0_first l dC dI cI cZ cB cO k_h k_p k_n k_inOrder k_starts k_firsts k_reached k_reachedAt k_reachedCount v1 _ q1 _) [0, 1, 2, 3, 4, 5] [] (by decide) rfl rfl (by decide) (by decide) rfl rfl rfl hl.1 rfl (Nat.le_of_ble_eq_true rfl) dX0_isFirst_2 (fun H locs hw => ?_)
  have hw : xWd (dC, dI) A s.heap H locs (wK cI cZ cB cO k_h k_p k_n k_inOrder k_starts k_firsts k_reached k_reachedAt k_reachedCount) := hw
  refine lv_iload_n hx hb dX0_isFirst_5 rfl (lv_at hl 1 rfl) ?_
  refine lv_icmp_ne (tgt := 13) hx hb dX0_isFirst_6 (by decide) (fun b2 => ?_) (fun b2 => ?_)
  · replace h := xb_ff b2 h
    refine lv_iconst (v := (0 : Int32)) hx hb dX0_isFirst_13 (by decide) ?_
    obtain rfl := Option.some.inj h
    exact x_retz C hQ hA hw (by decide) dX0_isFirst_14
  · replace h := xb_tt b2 h
    refine lv_iconst (v := (1 : Int32)) hx hb dX0_isFirst_9 (by decide) ?_
    refine lv_goto (tgt := 14) hx hb dX0_isFirst_10 (by decide) ?_
    obtain rfl := Option.some.inj h
    exact x_retz C hQ hA hw (by decide) dX0_isFirst_14
noncomputable def f_X0_countFirsts_L1 (k_n : Int32) (k_starts : (Nat → Int32)) (v1 : Int32) (k_firsts : (Nat → Int32)) (k_inOrder : (Nat → Int32)) (z : Int32 × Int32) : Option ((Int32 × Int32) ⊕ (Int32)) := match z with
  | (v2_2, v3_3) => xn (f_X0_start k_n k_starts (v1 + (1 : Int32))) (fun (r_5 : Int32) => xb (r_5 ≤ v3_3) (some (.inr v2_2)) (xk (vp_in v3_3 256) (xn (f_X0_isFirst k_firsts (k_inOrder v3_3.toNatClampNeg)) (fun (r_6 : Int32) => xb (r_6 = 0) (some (.inl (v2_2, (v3_3 + (1 : Int32))))) (some (.inl ((v2_2 + (1 : Int32)), (v3_3 + (1 : Int32)))))))))
noncomputable def f_X0_countFirsts (k_n : Int32) (k_inOrder : (Nat → Int32)) (k_starts : (Nat → Int32)) (k_firsts : (Nat → Int32)) (v1 : Int32) : Option (Int32) := xn (f_X0_start k_n k_starts v1) (fun (r_1 : Int32) => xn (xL (f_X0_countFirsts_L1 k_n k_starts v1 k_firsts k_inOrder) ((0 : Int32), r_1)) (fun (v2_4 : Int32) => some v2_4))
set_option maxHeartbeats 4000000 in
set_option maxRecDepth 100000 in
theorem c_X0_countFirsts (l : Launch) (dC : Nat → ClassId) (dI : Nat → Nat → Nat) (cI cZ cB cO : ClassId) (k_h : Nat) (k_p : Nat → Nat) (k_n : Int32) (k_inOrder : (Nat → Int32)) (k_starts : (Nat → Int32)) (k_firsts : (Nat → Int32)) (k_reached : (Nat → Int32)) (k_reachedAt : (Nat → Int32)) (k_reachedCount : Int32) (v1 : Int32) (o : Int32) (h : f_X0_countFirsts k_n k_inOrder k_starts k_firsts v1 = some o) (sz : Nat) : Met l yX0_countFirsts (xW yX0_countFirsts cX0_countFirsts 4 (some .int)) { frames := 2, cells := 0, slots := 0, locals := 45 } (xPre dC dI (xT cI cZ cB cO) [.ref k_h, .int v1] (wK cI cZ cB cO k_h k_p k_n k_inOrder k_starts k_firsts k_reached k_reachedAt k_reachedCount) sz) (xQi dC dI (xT cI cZ cB cO) o (wK cI cZ cB cO k_h k_p k_n k_inOrder k_starts k_firsts k_reached k_reachedAt k_reachedCount) (wK cI cZ cB cO k_h k_p k_n k_inOrder k_starts k_firsts k_reached k_reachedAt k_reachedCount) sz) 0 0 (va_A (wK cI cZ cB cO k_h k_p k_n k_inOrder k_starts k_firsts k_reached k_reachedAt k_reachedCount) sz) := by
  refine x_met (by decide) (Nat.le_of_ble_eq_true rfl) ?_
  intro p e s m args below meth c R Q A hR hsz hA hQ hin C hw ls hl
  have hx := C.1
  have hb := C.2.1
  have hown := C.2.2.2.1
  have htb := C.2.2.2.2.1
  have hl : lv_has ls 4 [(0, .ref k_h), (1, .int v1)] := hl
  refine lv_iconst (v := (0 : Int32)) hx hb dX0_countFirsts_0 (by decide) ?_
  refine lv_istore_n (lv' := [(2, .int (0 : Int32)), (0, .ref k_h), (1, .int v1)]) hx hb dX0_countFirsts_1 rfl hl (by decide) rfl (fun ls hl => ?_)
  refine lv_aload_n hx hb dX0_countFirsts_2 rfl (lv_at hl 1 rfl) ?_
  refine lv_iload_n hx hb dX0_countFirsts_3 rfl (lv_at hl 2 rfl) ?_
  obtain ⟨r_1, q1, h⟩ := xn_i h
  refine x_callVi (As := [.int v1]) (rest := []) C hw gc_X0_104 ⟨rfl, rfl, ds_X0_start, (by rw [hR]; exact Nat.le_of_ble_eq_true rfl), (by rw [hR]; exact Nat.le_of_ble_eq_true rfl), Nat.zero_le _, Nat.zero_le _⟩ (c_X0_start l dC dI cI cZ cB cO k_h k_p k_n k_inOrder k_starts k_firsts k_reached k_reachedAt k_reachedCount v1 _ q1 _) [0, 1, 2, 3, 4, 5] [] (by decide) rfl rfl (by decide) (by decide) rfl rfl rfl hl.1 rfl (Nat.le_of_ble_eq_true rfl) dX0_countFirsts_4 (fun H locs hw => ?_)
  have hw : xWd (dC, dI) A s.heap H locs (wK cI cZ cB cO k_h k_p k_n k_inOrder k_starts k_firsts k_reached k_reachedAt k_reachedCount) := hw
  refine lv_istore_n (lv' := [(3, .int r_1), (2, .int (0 : Int32)), (0, .ref k_h), (1, .int v1)]) hx hb dX0_countFirsts_7 rfl hl (by decide) rfl (fun ls hl => ?_)
  obtain ⟨z, hr, h⟩ := xn_i h
  refine xL_w (fun (z : Int32 × Int32) => ∀ (H : Heap) (locs : List Loc) (ls : Array Slot), xWd (dC, dI) A s.heap H locs (wK cI cZ cB cO k_h k_p k_n k_inOrder k_starts k_firsts k_reached k_reachedAt k_reachedCount) → lv_has ls 4 [(0, .ref k_h), (1, .int v1), (2, .int z.1), (3, .int z.2)] → W p l e R s m args below meth c H locs 0 0 Q (F0 m 8 ls [])) (fun (z : Int32) => ∀ (H : Heap) (locs : List Loc) (ls : Array Slot), xWd (dC, dI) A s.heap H locs (wK cI cZ cB cO k_h k_p k_n k_inOrder k_starts k_firsts k_reached k_reachedAt k_reachedCount) → lv_has ls 4 [(2, .int z)] → W p l e R s m args below meth c H locs 0 0 Q (F0 m 41 ls [])) ?_ hr ?_ _ _ _ hw (lv_sub hl [2, 3, 1, 0] rfl)
  · rintro ⟨v2_2, v3_3⟩ o h k H locs ls hw hl
    have hw : xWd (dC, dI) A s.heap H locs (wK cI cZ cB cO k_h k_p k_n k_inOrder k_starts k_firsts k_reached k_reachedAt k_reachedCount) := hw
    have hl : lv_has ls 4 [(0, .ref k_h), (1, .int v1), (2, .int v2_2), (3, .int v3_3)] := hl
    refine lv_iload_n hx hb dX0_countFirsts_8 rfl (lv_at hl 3 rfl) ?_
    refine lv_aload_n hx hb dX0_countFirsts_9 rfl (lv_at hl 0 rfl) ?_
    refine lv_iload_n hx hb dX0_countFirsts_10 rfl (lv_at hl 1 rfl) ?_
    refine lv_iconst (v := (1 : Int32)) hx hb dX0_countFirsts_11 (by decide) ?_
    refine lv_iadd hx hb dX0_countFirsts_12 ?_
    obtain ⟨r_5, q2, h⟩ := xn_i h
    refine x_callVi (As := [.int (v1 + (1 : Int32))]) (rest := [.int v3_3]) C hw gc_X0_104 ⟨rfl, rfl, ds_X0_start, (by rw [hR]; exact Nat.le_of_ble_eq_true rfl), (by rw [hR]; exact Nat.le_of_ble_eq_true rfl), Nat.zero_le _, Nat.zero_le _⟩ (c_X0_start l dC dI cI cZ cB cO k_h k_p k_n k_inOrder k_starts k_firsts k_reached k_reachedAt k_reachedCount (v1 + (1 : Int32)) _ q2 _) [0, 1, 2, 3, 4, 5] [] (by decide) rfl rfl (by decide) (by decide) rfl rfl rfl hl.1 rfl (Nat.le_of_ble_eq_true rfl) dX0_countFirsts_13 (fun H locs hw => ?_)
    have hw : xWd (dC, dI) A s.heap H locs (wK cI cZ cB cO k_h k_p k_n k_inOrder k_starts k_firsts k_reached k_reachedAt k_reachedCount) := hw
    refine lv_icmp_ge (tgt := 41) hx hb dX0_countFirsts_16 (by decide) (fun b3 => ?_) (fun b3 => ?_)
    · replace h := xb_tt b3 h
      obtain rfl := Option.some.inj h
      exact k _ _ _ hw (lv_sub hl [2] rfl)
    · replace h := xb_ff b3 h
      refine lv_aload_n hx hb dX0_countFirsts_19 rfl (lv_at hl 0 rfl) ?_
      refine lv_aload_n hx hb dX0_countFirsts_20 rfl (lv_at hl 0 rfl) ?_
      refine x_get (ci := 0) C hw inX0 rfl 1 (by decide) lkF_X0_15 rfl 0 rfl rfl dX0_countFirsts_21 ?_
      refine lv_iload_n hx hb dX0_countFirsts_24 rfl (lv_at hl 3 rfl) ?_
      obtain ⟨b4, h⟩ := xk_i h
      refine x_iald C hw 1 0 rfl rfl b4 dX0_countFirsts_25 ?_
      obtain ⟨r_6, q5, h⟩ := xn_i h
      refine x_callVi (As := [.int (k_inOrder v3_3.toNatClampNeg)]) (rest := []) C hw gc_X0_107 ⟨rfl, rfl, ds_X0_isFirst, (by rw [hR]; exact Nat.le_of_ble_eq_true rfl), (by rw [hR]; exact Nat.le_of_ble_eq_true rfl), Nat.zero_le _, Nat.zero_le _⟩ (c_X0_isFirst l dC dI cI cZ cB cO k_h k_p k_n k_inOrder k_starts k_firsts k_reached k_reachedAt k_reachedCount (k_inOrder v3_3.toNatClampNeg) _ q5 _) [0, 1, 2, 3, 4, 5] [] (by decide) rfl rfl (by decide) (by decide) rfl rfl rfl hl.1 rfl (Nat.le_of_ble_eq_true rfl) dX0_countFirsts_26 (fun H locs hw => ?_)
      have hw : xWd (dC, dI) A s.heap H locs (wK cI cZ cB cO k_h k_p k_n k_inOrder k_starts k_firsts k_reached k_reachedAt k_reachedCount) := hw
      refine lv_if_eq (tgt := 35) hx hb dX0_countFirsts_29 (by decide) (fun b6 => ?_) (fun b6 => ?_)
      · replace h := xb_tt b6 h
        refine lv_iinc (v := (v3_3 + (1 : Int32))) (lv' := [(3, .int (v3_3 + (1 : Int32))), (0, .ref k_h), (1, .int v1), (2, .int v2_2)]) hx hb dX0_countFirsts_35 hl (k := 3) rfl (congrArg (fun q => v3_3 + q) (by decide)) (by decide) rfl (fun ls hl => ?_)
        refine lv_goto (tgt := 8) hx hb dX0_countFirsts_38 (by decide) ?_
        obtain rfl := Option.some.inj h
        exact k _ _ _ hw (lv_sub hl [1, 2, 3, 0] rfl)
      · replace h := xb_ff b6 h
        refine lv_iinc (v := (v2_2 + (1 : Int32))) (lv' := [(2, .int (v2_2 + (1 : Int32))), (0, .ref k_h), (1, .int v1), (3, .int v3_3)]) hx hb dX0_countFirsts_32 hl (k := 2) rfl (congrArg (fun q => v2_2 + q) (by decide)) (by decide) rfl (fun ls hl => ?_)
        refine lv_iinc (v := (v3_3 + (1 : Int32))) (lv' := [(3, .int (v3_3 + (1 : Int32))), (2, .int (v2_2 + (1 : Int32))), (0, .ref k_h), (1, .int v1)]) hx hb dX0_countFirsts_35 hl (k := 3) rfl (congrArg (fun q => v3_3 + q) (by decide)) (by decide) rfl (fun ls hl => ?_)
        refine lv_goto (tgt := 8) hx hb dX0_countFirsts_38 (by decide) ?_
        obtain rfl := Option.some.inj h
        exact k _ _ _ hw (lv_sub hl [2, 3, 1, 0] rfl)
  · obtain ⟨v2_4, hz⟩ : ∃ q, q = z := ⟨z, rfl⟩
    subst hz
    intro H locs ls hw hl
    have hw : xWd (dC, dI) A s.heap H locs (wK cI cZ cB cO k_h k_p k_n k_inOrder k_starts k_firsts k_reached k_reachedAt k_reachedCount) := hw
    have hl : lv_has ls 4 [(2, .int v2_4)] := hl
    refine lv_iload_n hx hb dX0_countFirsts_41 rfl (lv_at hl 0 rfl) ?_
    obtain rfl := Option.some.inj h
    exact x_reti C hQ hA hw dX0_countFirsts_42
noncomputable def f_X0_nthFirst_L1 (k_n : Int32) (k_starts : (Nat → Int32)) (v1 : Int32) (k_firsts : (Nat → Int32)) (k_inOrder : (Nat → Int32)) (z : Int32 × Int32) : Option ((Int32 × Int32) ⊕ ((Unit) ⊕ (Int32))) := match z with
  | (v3_2, v4_3) => xn (f_X0_start k_n k_starts (v1 + (1 : Int32))) (fun (r_4 : Int32) => xb (r_4 ≤ v4_3) (some (.inr (.inl ()))) (xk (vp_in v4_3 256) (xn (f_X0_isFirst k_firsts (k_inOrder v4_3.toNatClampNeg)) (fun (r_5 : Int32) => xb (r_5 = 0) (some (.inl (v3_2, (v4_3 + (1 : Int32))))) (xb (v3_2 = 0) (some (.inr (.inr (k_inOrder v4_3.toNatClampNeg)))) (some (.inl ((v3_2 + (-1 : Int32)), (v4_3 + (1 : Int32))))))))))
noncomputable def f_X0_nthFirst (k_n : Int32) (k_inOrder : (Nat → Int32)) (k_starts : (Nat → Int32)) (k_firsts : (Nat → Int32)) (v1 : Int32) (v2 : Int32) : Option (Int32) := xn (f_X0_start k_n k_starts v1) (fun (r_1 : Int32) => xn (xL (f_X0_nthFirst_L1 k_n k_starts v1 k_firsts k_inOrder) (v2, r_1)) (fun (x : (Unit) ⊕ (Int32)) => match x with | .inl z => (fun (_ : Unit) => some (-5 : Int32)) z | .inr z => some z))
set_option maxHeartbeats 4000000 in
set_option maxRecDepth 100000 in
theorem c_X0_nthFirst (l : Launch) (dC : Nat → ClassId) (dI : Nat → Nat → Nat) (cI cZ cB cO : ClassId) (k_h : Nat) (k_p : Nat → Nat) (k_n : Int32) (k_inOrder : (Nat → Int32)) (k_starts : (Nat → Int32)) (k_firsts : (Nat → Int32)) (k_reached : (Nat → Int32)) (k_reachedAt : (Nat → Int32)) (k_reachedCount : Int32) (v1 : Int32) (v2 : Int32) (o : Int32) (h : f_X0_nthFirst k_n k_inOrder k_starts k_firsts v1 v2 = some o) (sz : Nat) : Met l yX0_nthFirst (xW yX0_nthFirst cX0_nthFirst 5 (some .int)) { frames := 2, cells := 0, slots := 0, locals := 45 } (xPre dC dI (xT cI cZ cB cO) [.ref k_h, .int v1, .int v2] (wK cI cZ cB cO k_h k_p k_n k_inOrder k_starts k_firsts k_reached k_reachedAt k_reachedCount) sz) (xQi dC dI (xT cI cZ cB cO) o (wK cI cZ cB cO k_h k_p k_n k_inOrder k_starts k_firsts k_reached k_reachedAt k_reachedCount) (wK cI cZ cB cO k_h k_p k_n k_inOrder k_starts k_firsts k_reached k_reachedAt k_reachedCount) sz) 0 0 (va_A (wK cI cZ cB cO k_h k_p k_n k_inOrder k_starts k_firsts k_reached k_reachedAt k_reachedCount) sz) := by
  refine x_met (by decide) (Nat.le_of_ble_eq_true rfl) ?_
  intro p e s m args below meth c R Q A hR hsz hA hQ hin C hw ls hl
  have hx := C.1
  have hb := C.2.1
  have hown := C.2.2.2.1
  have htb := C.2.2.2.2.1
  have hl : lv_has ls 5 [(0, .ref k_h), (1, .int v1), (2, .int v2)] := hl
  refine lv_iload_n hx hb dX0_nthFirst_0 rfl (lv_at hl 2 rfl) ?_
  refine lv_istore_n (lv' := [(3, .int v2), (0, .ref k_h), (1, .int v1), (2, .int v2)]) hx hb dX0_nthFirst_1 rfl hl (by decide) rfl (fun ls hl => ?_)
  refine lv_aload_n hx hb dX0_nthFirst_2 rfl (lv_at hl 1 rfl) ?_
  refine lv_iload_n hx hb dX0_nthFirst_3 rfl (lv_at hl 2 rfl) ?_
  obtain ⟨r_1, q1, h⟩ := xn_i h
  refine x_callVi (As := [.int v1]) (rest := []) C hw gc_X0_104 ⟨rfl, rfl, ds_X0_start, (by rw [hR]; exact Nat.le_of_ble_eq_true rfl), (by rw [hR]; exact Nat.le_of_ble_eq_true rfl), Nat.zero_le _, Nat.zero_le _⟩ (c_X0_start l dC dI cI cZ cB cO k_h k_p k_n k_inOrder k_starts k_firsts k_reached k_reachedAt k_reachedCount v1 _ q1 _) [0, 1, 2, 3, 4, 5] [] (by decide) rfl rfl (by decide) (by decide) rfl rfl rfl hl.1 rfl (Nat.le_of_ble_eq_true rfl) dX0_nthFirst_4 (fun H locs hw => ?_)
  have hw : xWd (dC, dI) A s.heap H locs (wK cI cZ cB cO k_h k_p k_n k_inOrder k_starts k_firsts k_reached k_reachedAt k_reachedCount) := hw
  refine lv_istore (lv' := [(4, .int r_1), (3, .int v2), (0, .ref k_h), (1, .int v1), (2, .int v2)]) hx hb dX0_nthFirst_7 hl (by decide) rfl (fun ls hl => ?_)
  obtain ⟨z, hr, h⟩ := xn_i h
  refine xL_w (fun (z : Int32 × Int32) => ∀ (H : Heap) (locs : List Loc) (ls : Array Slot), xWd (dC, dI) A s.heap H locs (wK cI cZ cB cO k_h k_p k_n k_inOrder k_starts k_firsts k_reached k_reachedAt k_reachedCount) → lv_has ls 5 [(0, .ref k_h), (1, .int v1), (3, .int z.1), (4, .int z.2)] → W p l e R s m args below meth c H locs 0 0 Q (F0 m 9 ls [])) (Sum.elim (fun (z : Unit) => ∀ (H : Heap) (locs : List Loc) (ls : Array Slot), xWd (dC, dI) A s.heap H locs (wK cI cZ cB cO k_h k_p k_n k_inOrder k_starts k_firsts k_reached k_reachedAt k_reachedCount) → lv_has ls 5 [] → W p l e R s m args below meth c H locs 0 0 Q (F0 m 56 ls [])) (fun (z : Int32) => ∀ (H : Heap) (locs : List Loc), xWd (dC, dI) A s.heap H locs (wK cI cZ cB cO k_h k_p k_n k_inOrder k_starts k_firsts k_reached k_reachedAt k_reachedCount) → ∀ (pc : Nat) (ls : Array Slot), decode cX0_nthFirst pc = .ok (.ireturn, 1) → W p l e R s m args below meth c H locs 0 0 Q (F0 m pc ls [.int z]))) ?_ hr ?_ _ _ _ hw (lv_sub hl [2, 3, 1, 0] rfl)
  · rintro ⟨v3_2, v4_3⟩ o h k H locs ls hw hl
    have hw : xWd (dC, dI) A s.heap H locs (wK cI cZ cB cO k_h k_p k_n k_inOrder k_starts k_firsts k_reached k_reachedAt k_reachedCount) := hw
    have hl : lv_has ls 5 [(0, .ref k_h), (1, .int v1), (3, .int v3_2), (4, .int v4_3)] := hl
    refine lv_iload hx hb dX0_nthFirst_9 (lv_at hl 3 rfl) ?_
    refine lv_aload_n hx hb dX0_nthFirst_11 rfl (lv_at hl 0 rfl) ?_
    refine lv_iload_n hx hb dX0_nthFirst_12 rfl (lv_at hl 1 rfl) ?_
    refine lv_iconst (v := (1 : Int32)) hx hb dX0_nthFirst_13 (by decide) ?_
    refine lv_iadd hx hb dX0_nthFirst_14 ?_
    obtain ⟨r_4, q2, h⟩ := xn_i h
    refine x_callVi (As := [.int (v1 + (1 : Int32))]) (rest := [.int v4_3]) C hw gc_X0_104 ⟨rfl, rfl, ds_X0_start, (by rw [hR]; exact Nat.le_of_ble_eq_true rfl), (by rw [hR]; exact Nat.le_of_ble_eq_true rfl), Nat.zero_le _, Nat.zero_le _⟩ (c_X0_start l dC dI cI cZ cB cO k_h k_p k_n k_inOrder k_starts k_firsts k_reached k_reachedAt k_reachedCount (v1 + (1 : Int32)) _ q2 _) [0, 1, 2, 3, 4, 5] [] (by decide) rfl rfl (by decide) (by decide) rfl rfl rfl hl.1 rfl (Nat.le_of_ble_eq_true rfl) dX0_nthFirst_15 (fun H locs hw => ?_)
    have hw : xWd (dC, dI) A s.heap H locs (wK cI cZ cB cO k_h k_p k_n k_inOrder k_starts k_firsts k_reached k_reachedAt k_reachedCount) := hw
    refine lv_icmp_ge (tgt := 56) hx hb dX0_nthFirst_18 (by decide) (fun b3 => ?_) (fun b3 => ?_)
    · replace h := xb_tt b3 h
      obtain rfl := Option.some.inj h
      exact k _ _ _ hw (lv_sub hl [] rfl)
    · replace h := xb_ff b3 h
      refine lv_aload_n hx hb dX0_nthFirst_21 rfl (lv_at hl 0 rfl) ?_
      refine lv_aload_n hx hb dX0_nthFirst_22 rfl (lv_at hl 0 rfl) ?_
      refine x_get (ci := 0) C hw inX0 rfl 1 (by decide) lkF_X0_15 rfl 0 rfl rfl dX0_nthFirst_23 ?_
      refine lv_iload hx hb dX0_nthFirst_26 (lv_at hl 3 rfl) ?_
      obtain ⟨b4, h⟩ := xk_i h
      refine x_iald C hw 1 0 rfl rfl b4 dX0_nthFirst_28 ?_
      obtain ⟨r_5, q5, h⟩ := xn_i h
      refine x_callVi (As := [.int (k_inOrder v4_3.toNatClampNeg)]) (rest := []) C hw gc_X0_107 ⟨rfl, rfl, ds_X0_isFirst, (by rw [hR]; exact Nat.le_of_ble_eq_true rfl), (by rw [hR]; exact Nat.le_of_ble_eq_true rfl), Nat.zero_le _, Nat.zero_le _⟩ (c_X0_isFirst l dC dI cI cZ cB cO k_h k_p k_n k_inOrder k_starts k_firsts k_reached k_reachedAt k_reachedCount (k_inOrder v4_3.toNatClampNeg) _ q5 _) [0, 1, 2, 3, 4, 5] [] (by decide) rfl rfl (by decide) (by decide) rfl rfl rfl hl.1 rfl (Nat.le_of_ble_eq_true rfl) dX0_nthFirst_29 (fun H locs hw => ?_)
      have hw : xWd (dC, dI) A s.heap H locs (wK cI cZ cB cO k_h k_p k_n k_inOrder k_starts k_firsts k_reached k_reachedAt k_reachedCount) := hw
      refine lv_if_eq (tgt := 50) hx hb dX0_nthFirst_32 (by decide) (fun b6 => ?_) (fun b6 => ?_)
      · replace h := xb_tt b6 h
        refine lv_iinc (v := (v4_3 + (1 : Int32))) (lv' := [(4, .int (v4_3 + (1 : Int32))), (0, .ref k_h), (1, .int v1), (3, .int v3_2)]) hx hb dX0_nthFirst_50 hl (k := 3) rfl (congrArg (fun q => v4_3 + q) (by decide)) (by decide) rfl (fun ls hl => ?_)
        refine lv_goto (tgt := 9) hx hb dX0_nthFirst_53 (by decide) ?_
        obtain rfl := Option.some.inj h
        exact k _ _ _ hw (lv_sub hl [1, 2, 3, 0] rfl)
      · replace h := xb_ff b6 h
        refine lv_iload_n hx hb dX0_nthFirst_35 rfl (lv_at hl 2 rfl) ?_
        refine lv_if_ne (tgt := 47) hx hb dX0_nthFirst_36 (by decide) (fun b7 => ?_) (fun b7 => ?_)
        · replace h := xb_ff b7 h
          refine lv_iinc (v := (v3_2 + (-1 : Int32))) (lv' := [(3, .int (v3_2 + (-1 : Int32))), (0, .ref k_h), (1, .int v1), (4, .int v4_3)]) hx hb dX0_nthFirst_47 hl (k := 2) rfl (congrArg (fun q => v3_2 + q) (by decide)) (by decide) rfl (fun ls hl => ?_)
          refine lv_iinc (v := (v4_3 + (1 : Int32))) (lv' := [(4, .int (v4_3 + (1 : Int32))), (3, .int (v3_2 + (-1 : Int32))), (0, .ref k_h), (1, .int v1)]) hx hb dX0_nthFirst_50 hl (k := 3) rfl (congrArg (fun q => v4_3 + q) (by decide)) (by decide) rfl (fun ls hl => ?_)
          refine lv_goto (tgt := 9) hx hb dX0_nthFirst_53 (by decide) ?_
          obtain rfl := Option.some.inj h
          exact k _ _ _ hw (lv_sub hl [2, 3, 1, 0] rfl)
        · replace h := xb_tt b7 h
          refine lv_aload_n hx hb dX0_nthFirst_39 rfl (lv_at hl 0 rfl) ?_
          refine x_get (ci := 0) C hw inX0 rfl 1 (by decide) lkF_X0_15 rfl 0 rfl rfl dX0_nthFirst_40 ?_
          refine lv_iload hx hb dX0_nthFirst_43 (lv_at hl 3 rfl) ?_
          refine x_iald C hw 1 0 rfl rfl b4 dX0_nthFirst_45 ?_
          obtain rfl := Option.some.inj h
          exact k _ _ hw _ _ dX0_nthFirst_46
  · rcases z with z | z
    · intro H locs ls hw hl
      have hw : xWd (dC, dI) A s.heap H locs (wK cI cZ cB cO k_h k_p k_n k_inOrder k_starts k_firsts k_reached k_reachedAt k_reachedCount) := hw
      have hl : lv_has ls 5 [] := hl
      refine lv_bipush (v := (-5 : Int32)) hx hb dX0_nthFirst_56 (by decide) ?_
      obtain rfl := Option.some.inj h
      exact x_reti C hQ hA hw dX0_nthFirst_58
    · obtain rfl := Option.some.inj h
      intro H locs hw pc ls hd
      exact x_reti C hQ hA hw hd
noncomputable def f_X0_placeOfFirst_L1 (k_n : Int32) (k_starts : (Nat → Int32)) (r_1 : Int32) (k_firsts : (Nat → Int32)) (v1 : Int32) (k_inOrder : (Nat → Int32)) (z : Int32 × Int32) : Option ((Int32 × Int32) ⊕ (Int32)) := match z with
  | (v3_3, v4_4) => xn (f_X0_start k_n k_starts (r_1 + (1 : Int32))) (fun (r_6 : Int32) => xb (r_6 ≤ v4_4) (some (.inr v3_3)) (xk (vp_in v4_4 256) (xn (f_X0_first k_firsts v1) (fun (r_7 : Int32) => xb ((k_inOrder v4_4.toNatClampNeg) = r_7) (some (.inr v3_3)) (xn (f_X0_isFirst k_firsts (k_inOrder v4_4.toNatClampNeg)) (fun (r_8 : Int32) => xb (r_8 = 0) (some (.inl (v3_3, (v4_4 + (1 : Int32))))) (some (.inl ((v3_3 + (1 : Int32)), (v4_4 + (1 : Int32)))))))))))
noncomputable def f_X0_placeOfFirst (k_n : Int32) (k_inOrder : (Nat → Int32)) (k_starts : (Nat → Int32)) (k_firsts : (Nat → Int32)) (v1 : Int32) : Option (Int32) := xn (f_J6_bitCount_0f7a4 v1) (fun (r_1 : Int32) => xn (f_X0_start k_n k_starts r_1) (fun (r_2 : Int32) => xn (xL (f_X0_placeOfFirst_L1 k_n k_starts r_1 k_firsts v1 k_inOrder) ((0 : Int32), r_2)) (fun (v3_5 : Int32) => some v3_5)))
set_option maxHeartbeats 4000000 in
set_option maxRecDepth 100000 in
theorem c_X0_placeOfFirst (l : Launch) (dC : Nat → ClassId) (dI : Nat → Nat → Nat) (cI cZ cB cO : ClassId) (k_h : Nat) (k_p : Nat → Nat) (k_n : Int32) (k_inOrder : (Nat → Int32)) (k_starts : (Nat → Int32)) (k_firsts : (Nat → Int32)) (k_reached : (Nat → Int32)) (k_reachedAt : (Nat → Int32)) (k_reachedCount : Int32) (v1 : Int32) (o : Int32) (h : f_X0_placeOfFirst k_n k_inOrder k_starts k_firsts v1 = some o) (sz : Nat) : Met l yX0_placeOfFirst (xW yX0_placeOfFirst cX0_placeOfFirst 5 (some .int)) { frames := 2, cells := 0, slots := 0, locals := 45 } (xPre dC dI (xT cI cZ cB cO) [.ref k_h, .int v1] (wK cI cZ cB cO k_h k_p k_n k_inOrder k_starts k_firsts k_reached k_reachedAt k_reachedCount) sz) (xQi dC dI (xT cI cZ cB cO) o (wK cI cZ cB cO k_h k_p k_n k_inOrder k_starts k_firsts k_reached k_reachedAt k_reachedCount) (wK cI cZ cB cO k_h k_p k_n k_inOrder k_starts k_firsts k_reached k_reachedAt k_reachedCount) sz) 0 0 (va_A (wK cI cZ cB cO k_h k_p k_n k_inOrder k_starts k_firsts k_reached k_reachedAt k_reachedCount) sz) := by
  refine x_met (by decide) (Nat.le_of_ble_eq_true rfl) ?_
  intro p e s m args below meth c R Q A hR hsz hA hQ hin C hw ls hl
  have hx := C.1
  have hb := C.2.1
  have hown := C.2.2.2.1
  have htb := C.2.2.2.2.1
  have hl : lv_has ls 5 [(0, .ref k_h), (1, .int v1)] := hl
  refine lv_iload_n hx hb dX0_placeOfFirst_0 rfl (lv_at hl 1 rfl) ?_
  obtain ⟨r_1, q1, h⟩ := xn_i h
  refine x_callSi (As := [.int v1]) (rest := []) C hw gc_X0_47 ds_J6_bitCount_0f7a4 (by rw [hR]; exact Nat.le_of_ble_eq_true rfl) (by rw [hR]; exact Nat.le_of_ble_eq_true rfl) rfl rfl (Nat.zero_le _) (Nat.zero_le _) (c_J6_bitCount_0f7a4 l dC dI cI cZ cB cO v1 _ q1 _) [] [0, 1, 2, 3, 4, 5] (by decide) rfl rfl (by decide) (by decide) rfl hl.1 rfl (Nat.le_of_ble_eq_true rfl) dX0_placeOfFirst_1 (fun H locs hw => ?_)
  have hw : xWd (dC, dI) A s.heap H locs (wK cI cZ cB cO k_h k_p k_n k_inOrder k_starts k_firsts k_reached k_reachedAt k_reachedCount) := hw.sub [0, 1, 2, 3, 4, 5] (by decide) rfl
  refine lv_istore_n (lv' := [(2, .int r_1), (0, .ref k_h), (1, .int v1)]) hx hb dX0_placeOfFirst_4 rfl hl (by decide) rfl (fun ls hl => ?_)
  refine lv_iconst (v := (0 : Int32)) hx hb dX0_placeOfFirst_5 (by decide) ?_
  refine lv_istore_n (lv' := [(3, .int (0 : Int32)), (2, .int r_1), (0, .ref k_h), (1, .int v1)]) hx hb dX0_placeOfFirst_6 rfl hl (by decide) rfl (fun ls hl => ?_)
  refine lv_aload_n hx hb dX0_placeOfFirst_7 rfl (lv_at hl 2 rfl) ?_
  refine lv_iload_n hx hb dX0_placeOfFirst_8 rfl (lv_at hl 1 rfl) ?_
  obtain ⟨r_2, q2, h⟩ := xn_i h
  refine x_callVi (As := [.int r_1]) (rest := []) C hw gc_X0_104 ⟨rfl, rfl, ds_X0_start, (by rw [hR]; exact Nat.le_of_ble_eq_true rfl), (by rw [hR]; exact Nat.le_of_ble_eq_true rfl), Nat.zero_le _, Nat.zero_le _⟩ (c_X0_start l dC dI cI cZ cB cO k_h k_p k_n k_inOrder k_starts k_firsts k_reached k_reachedAt k_reachedCount r_1 _ q2 _) [0, 1, 2, 3, 4, 5] [] (by decide) rfl rfl (by decide) (by decide) rfl rfl rfl hl.1 rfl (Nat.le_of_ble_eq_true rfl) dX0_placeOfFirst_9 (fun H locs hw => ?_)
  have hw : xWd (dC, dI) A s.heap H locs (wK cI cZ cB cO k_h k_p k_n k_inOrder k_starts k_firsts k_reached k_reachedAt k_reachedCount) := hw
  refine lv_istore (lv' := [(4, .int r_2), (3, .int (0 : Int32)), (2, .int r_1), (0, .ref k_h), (1, .int v1)]) hx hb dX0_placeOfFirst_12 hl (by decide) rfl (fun ls hl => ?_)
  obtain ⟨z, hr, h⟩ := xn_i h
  refine xL_w (fun (z : Int32 × Int32) => ∀ (H : Heap) (locs : List Loc) (ls : Array Slot), xWd (dC, dI) A s.heap H locs (wK cI cZ cB cO k_h k_p k_n k_inOrder k_starts k_firsts k_reached k_reachedAt k_reachedCount) → lv_has ls 5 [(0, .ref k_h), (1, .int v1), (2, .int r_1), (3, .int z.1), (4, .int z.2)] → W p l e R s m args below meth c H locs 0 0 Q (F0 m 14 ls [])) (fun (z : Int32) => ∀ (H : Heap) (locs : List Loc) (ls : Array Slot), xWd (dC, dI) A s.heap H locs (wK cI cZ cB cO k_h k_p k_n k_inOrder k_starts k_firsts k_reached k_reachedAt k_reachedCount) → lv_has ls 5 [(3, .int z)] → W p l e R s m args below meth c H locs 0 0 Q (F0 m 64 ls [])) ?_ hr ?_ _ _ _ hw (lv_sub hl [3, 4, 2, 1, 0] rfl)
  · rintro ⟨v3_3, v4_4⟩ o h k H locs ls hw hl
    have hw : xWd (dC, dI) A s.heap H locs (wK cI cZ cB cO k_h k_p k_n k_inOrder k_starts k_firsts k_reached k_reachedAt k_reachedCount) := hw
    have hl : lv_has ls 5 [(0, .ref k_h), (1, .int v1), (2, .int r_1), (3, .int v3_3), (4, .int v4_4)] := hl
    refine lv_iload hx hb dX0_placeOfFirst_14 (lv_at hl 4 rfl) ?_
    refine lv_aload_n hx hb dX0_placeOfFirst_16 rfl (lv_at hl 0 rfl) ?_
    refine lv_iload_n hx hb dX0_placeOfFirst_17 rfl (lv_at hl 2 rfl) ?_
    refine lv_iconst (v := (1 : Int32)) hx hb dX0_placeOfFirst_18 (by decide) ?_
    refine lv_iadd hx hb dX0_placeOfFirst_19 ?_
    obtain ⟨r_6, q3, h⟩ := xn_i h
    refine x_callVi (As := [.int (r_1 + (1 : Int32))]) (rest := [.int v4_4]) C hw gc_X0_104 ⟨rfl, rfl, ds_X0_start, (by rw [hR]; exact Nat.le_of_ble_eq_true rfl), (by rw [hR]; exact Nat.le_of_ble_eq_true rfl), Nat.zero_le _, Nat.zero_le _⟩ (c_X0_start l dC dI cI cZ cB cO k_h k_p k_n k_inOrder k_starts k_firsts k_reached k_reachedAt k_reachedCount (r_1 + (1 : Int32)) _ q3 _) [0, 1, 2, 3, 4, 5] [] (by decide) rfl rfl (by decide) (by decide) rfl rfl rfl hl.1 rfl (Nat.le_of_ble_eq_true rfl) dX0_placeOfFirst_20 (fun H locs hw => ?_)
    have hw : xWd (dC, dI) A s.heap H locs (wK cI cZ cB cO k_h k_p k_n k_inOrder k_starts k_firsts k_reached k_reachedAt k_reachedCount) := hw
    refine lv_icmp_ge (tgt := 64) hx hb dX0_placeOfFirst_23 (by decide) (fun b4 => ?_) (fun b4 => ?_)
    · replace h := xb_tt b4 h
      obtain rfl := Option.some.inj h
      exact k _ _ _ hw (lv_sub hl [3] rfl)
    · replace h := xb_ff b4 h
      refine lv_aload_n hx hb dX0_placeOfFirst_26 rfl (lv_at hl 0 rfl) ?_
      refine x_get (ci := 0) C hw inX0 rfl 1 (by decide) lkF_X0_15 rfl 0 rfl rfl dX0_placeOfFirst_27 ?_
      refine lv_iload hx hb dX0_placeOfFirst_30 (lv_at hl 4 rfl) ?_
      obtain ⟨b5, h⟩ := xk_i h
      refine x_iald C hw 1 0 rfl rfl b5 dX0_placeOfFirst_32 ?_
      refine lv_aload_n hx hb dX0_placeOfFirst_33 rfl (lv_at hl 0 rfl) ?_
      refine lv_iload_n hx hb dX0_placeOfFirst_34 rfl (lv_at hl 1 rfl) ?_
      obtain ⟨r_7, q6, h⟩ := xn_i h
      refine x_callVi (As := [.int v1]) (rest := [.int (k_inOrder v4_4.toNatClampNeg)]) C hw gc_X0_101 ⟨rfl, rfl, ds_X0_first, (by rw [hR]; exact Nat.le_of_ble_eq_true rfl), (by rw [hR]; exact Nat.le_of_ble_eq_true rfl), Nat.zero_le _, Nat.zero_le _⟩ (c_X0_first l dC dI cI cZ cB cO k_h k_p k_n k_inOrder k_starts k_firsts k_reached k_reachedAt k_reachedCount v1 _ q6 _) [0, 1, 2, 3, 4, 5] [] (by decide) rfl rfl (by decide) (by decide) rfl rfl rfl hl.1 rfl (Nat.le_of_ble_eq_true rfl) dX0_placeOfFirst_35 (fun H locs hw => ?_)
      have hw : xWd (dC, dI) A s.heap H locs (wK cI cZ cB cO k_h k_p k_n k_inOrder k_starts k_firsts k_reached k_reachedAt k_reachedCount) := hw
      refine lv_icmp_eq (tgt := 64) hx hb dX0_placeOfFirst_38 (by decide) (fun b7 => ?_) (fun b7 => ?_)
      · replace h := xb_tt b7 h
        obtain rfl := Option.some.inj h
        exact k _ _ _ hw (lv_sub hl [3] rfl)
      · replace h := xb_ff b7 h
        refine lv_aload_n hx hb dX0_placeOfFirst_41 rfl (lv_at hl 0 rfl) ?_
        refine lv_aload_n hx hb dX0_placeOfFirst_42 rfl (lv_at hl 0 rfl) ?_
        refine x_get (ci := 0) C hw inX0 rfl 1 (by decide) lkF_X0_15 rfl 0 rfl rfl dX0_placeOfFirst_43 ?_
        refine lv_iload hx hb dX0_placeOfFirst_46 (lv_at hl 4 rfl) ?_
        refine x_iald C hw 1 0 rfl rfl b5 dX0_placeOfFirst_48 ?_
        obtain ⟨r_8, q8, h⟩ := xn_i h
        refine x_callVi (As := [.int (k_inOrder v4_4.toNatClampNeg)]) (rest := []) C hw gc_X0_107 ⟨rfl, rfl, ds_X0_isFirst, (by rw [hR]; exact Nat.le_of_ble_eq_true rfl), (by rw [hR]; exact Nat.le_of_ble_eq_true rfl), Nat.zero_le _, Nat.zero_le _⟩ (c_X0_isFirst l dC dI cI cZ cB cO k_h k_p k_n k_inOrder k_starts k_firsts k_reached k_reachedAt k_reachedCount (k_inOrder v4_4.toNatClampNeg) _ q8 _) [0, 1, 2, 3, 4, 5] [] (by decide) rfl rfl (by decide) (by decide) rfl rfl rfl hl.1 rfl (Nat.le_of_ble_eq_true rfl) dX0_placeOfFirst_49 (fun H locs hw => ?_)
        have hw : xWd (dC, dI) A s.heap H locs (wK cI cZ cB cO k_h k_p k_n k_inOrder k_starts k_firsts k_reached k_reachedAt k_reachedCount) := hw
        refine lv_if_eq (tgt := 58) hx hb dX0_placeOfFirst_52 (by decide) (fun b9 => ?_) (fun b9 => ?_)
        · replace h := xb_tt b9 h
          refine lv_iinc (v := (v4_4 + (1 : Int32))) (lv' := [(4, .int (v4_4 + (1 : Int32))), (0, .ref k_h), (1, .int v1), (2, .int r_1), (3, .int v3_3)]) hx hb dX0_placeOfFirst_58 hl (k := 4) rfl (congrArg (fun q => v4_4 + q) (by decide)) (by decide) rfl (fun ls hl => ?_)
          refine lv_goto (tgt := 14) hx hb dX0_placeOfFirst_61 (by decide) ?_
          obtain rfl := Option.some.inj h
          exact k _ _ _ hw (lv_sub hl [1, 2, 3, 4, 0] rfl)
        · replace h := xb_ff b9 h
          refine lv_iinc (v := (v3_3 + (1 : Int32))) (lv' := [(3, .int (v3_3 + (1 : Int32))), (0, .ref k_h), (1, .int v1), (2, .int r_1), (4, .int v4_4)]) hx hb dX0_placeOfFirst_55 hl (k := 3) rfl (congrArg (fun q => v3_3 + q) (by decide)) (by decide) rfl (fun ls hl => ?_)
          refine lv_iinc (v := (v4_4 + (1 : Int32))) (lv' := [(4, .int (v4_4 + (1 : Int32))), (3, .int (v3_3 + (1 : Int32))), (0, .ref k_h), (1, .int v1), (2, .int r_1)]) hx hb dX0_placeOfFirst_58 hl (k := 4) rfl (congrArg (fun q => v4_4 + q) (by decide)) (by decide) rfl (fun ls hl => ?_)
          refine lv_goto (tgt := 14) hx hb dX0_placeOfFirst_61 (by decide) ?_
          obtain rfl := Option.some.inj h
          exact k _ _ _ hw (lv_sub hl [2, 3, 4, 1, 0] rfl)
  · obtain ⟨v3_5, hz⟩ : ∃ q, q = z := ⟨z, rfl⟩
    subst hz
    intro H locs ls hw hl
    have hw : xWd (dC, dI) A s.heap H locs (wK cI cZ cB cO k_h k_p k_n k_inOrder k_starts k_firsts k_reached k_reachedAt k_reachedCount) := hw
    have hl : lv_has ls 5 [(3, .int v3_5)] := hl
    refine lv_iload_n hx hb dX0_placeOfFirst_64 rfl (lv_at hl 0 rfl) ?_
    obtain rfl := Option.some.inj h
    exact x_reti C hQ hA hw dX0_placeOfFirst_65
noncomputable def f_X0_digestFirsts_L1 (k_n : Int32) (k_starts : (Nat → Int32)) (v1 : Int32) (k_firsts : (Nat → Int32)) (k_inOrder : (Nat → Int32)) (z : Int64 × Int32) : Option ((Int64 × Int32) ⊕ (Int64)) := match z with
  | (v4_3, v6_4) => xn (f_X0_start k_n k_starts (v1 + (1 : Int32))) (fun (r_6 : Int32) => xb (r_6 ≤ v6_4) (some (.inr v4_3)) (xk (vp_in v6_4 256) (xn (f_X0_isFirst k_firsts (k_inOrder v6_4.toNatClampNeg)) (fun (r_7 : Int32) => xb (r_7 = 0) (some (.inl (v4_3, (v6_4 + (1 : Int32))))) (some (.inl ((((31 : Int64) * v4_3) + (((k_inOrder v6_4.toNatClampNeg)).toInt64)), (v6_4 + (1 : Int32)))))))))
noncomputable def f_X0_digestFirsts (k_n : Int32) (k_inOrder : (Nat → Int32)) (k_starts : (Nat → Int32)) (k_firsts : (Nat → Int32)) (v1 : Int32) (v2 : Int64) : Option (Int64) := xn (f_X0_countFirsts k_n k_inOrder k_starts k_firsts v1) (fun (r_1 : Int32) => xn (f_X0_start k_n k_starts v1) (fun (r_2 : Int32) => xn (xL (f_X0_digestFirsts_L1 k_n k_starts v1 k_firsts k_inOrder) ((((31 : Int64) * v2) + r_1.toInt64), r_2)) (fun (v4_5 : Int64) => some v4_5)))
set_option maxHeartbeats 4000000 in
set_option maxRecDepth 100000 in
theorem c_X0_digestFirsts (l : Launch) (dC : Nat → ClassId) (dI : Nat → Nat → Nat) (cI cZ cB cO : ClassId) (k_h : Nat) (k_p : Nat → Nat) (k_n : Int32) (k_inOrder : (Nat → Int32)) (k_starts : (Nat → Int32)) (k_firsts : (Nat → Int32)) (k_reached : (Nat → Int32)) (k_reachedAt : (Nat → Int32)) (k_reachedCount : Int32) (v1 : Int32) (v2 : Int64) (o : Int64) (h : f_X0_digestFirsts k_n k_inOrder k_starts k_firsts v1 v2 = some o) (sz : Nat) : Met l yX0_digestFirsts (xW yX0_digestFirsts cX0_digestFirsts 7 (some .long)) { frames := 3, cells := 0, slots := 0, locals := 68 } (xPre dC dI (xT cI cZ cB cO) [.ref k_h, .int v1, .long v2] (wK cI cZ cB cO k_h k_p k_n k_inOrder k_starts k_firsts k_reached k_reachedAt k_reachedCount) sz) (xQl dC dI (xT cI cZ cB cO) o (wK cI cZ cB cO k_h k_p k_n k_inOrder k_starts k_firsts k_reached k_reachedAt k_reachedCount) (wK cI cZ cB cO k_h k_p k_n k_inOrder k_starts k_firsts k_reached k_reachedAt k_reachedCount) sz) 0 0 (va_A (wK cI cZ cB cO k_h k_p k_n k_inOrder k_starts k_firsts k_reached k_reachedAt k_reachedCount) sz) := by
  refine x_met (by decide) (Nat.le_of_ble_eq_true rfl) ?_
  intro p e s m args below meth c R Q A hR hsz hA hQ hin C hw ls hl
  have hx := C.1
  have hb := C.2.1
  have hown := C.2.2.2.1
  have htb := C.2.2.2.2.1
  have hl : lv_has ls 7 [(0, .ref k_h), (1, .int v1), (2, .long v2)] := hl
  refine lv_ldc2 hx hb hown (htb _ kJ_X0_111) dX0_digestFirsts_0 ?_
  refine lv_lload_n hx hb dX0_digestFirsts_3 rfl (lv_at hl 2 rfl) ?_
  refine lv_lmul hx hb dX0_digestFirsts_4 ?_
  refine lv_aload_n hx hb dX0_digestFirsts_5 rfl (lv_at hl 0 rfl) ?_
  refine lv_iload_n hx hb dX0_digestFirsts_6 rfl (lv_at hl 1 rfl) ?_
  obtain ⟨r_1, q1, h⟩ := xn_i h
  refine x_callVi (As := [.int v1]) (rest := [.long ((31 : Int64) * v2)]) C hw gc_X0_113 ⟨rfl, rfl, ds_X0_countFirsts, (by rw [hR]; exact Nat.le_of_ble_eq_true rfl), (by rw [hR]; exact Nat.le_of_ble_eq_true rfl), Nat.zero_le _, Nat.zero_le _⟩ (c_X0_countFirsts l dC dI cI cZ cB cO k_h k_p k_n k_inOrder k_starts k_firsts k_reached k_reachedAt k_reachedCount v1 _ q1 _) [0, 1, 2, 3, 4, 5] [] (by decide) rfl rfl (by decide) (by decide) rfl rfl rfl hl.1 rfl (Nat.le_of_ble_eq_true rfl) dX0_digestFirsts_7 (fun H locs hw => ?_)
  have hw : xWd (dC, dI) A s.heap H locs (wK cI cZ cB cO k_h k_p k_n k_inOrder k_starts k_firsts k_reached k_reachedAt k_reachedCount) := hw
  refine lv_i2l hx hb dX0_digestFirsts_10 rfl ?_
  refine lv_ladd hx hb dX0_digestFirsts_11 ?_
  refine lv_lstore (lv' := [(4, .long (((31 : Int64) * v2) + r_1.toInt64)), (0, .ref k_h), (1, .int v1), (2, .long v2)]) hx hb dX0_digestFirsts_12 hl (by decide) rfl (fun ls hl => ?_)
  refine lv_aload_n hx hb dX0_digestFirsts_14 rfl (lv_at hl 1 rfl) ?_
  refine lv_iload_n hx hb dX0_digestFirsts_15 rfl (lv_at hl 2 rfl) ?_
  obtain ⟨r_2, q2, h⟩ := xn_i h
  refine x_callVi (As := [.int v1]) (rest := []) C hw gc_X0_104 ⟨rfl, rfl, ds_X0_start, (by rw [hR]; exact Nat.le_of_ble_eq_true rfl), (by rw [hR]; exact Nat.le_of_ble_eq_true rfl), Nat.zero_le _, Nat.zero_le _⟩ (c_X0_start l dC dI cI cZ cB cO k_h k_p k_n k_inOrder k_starts k_firsts k_reached k_reachedAt k_reachedCount v1 _ q2 _) [0, 1, 2, 3, 4, 5] [] (by decide) rfl rfl (by decide) (by decide) rfl rfl rfl hl.1 rfl (Nat.le_of_ble_eq_true rfl) dX0_digestFirsts_16 (fun H locs hw => ?_)
  have hw : xWd (dC, dI) A s.heap H locs (wK cI cZ cB cO k_h k_p k_n k_inOrder k_starts k_firsts k_reached k_reachedAt k_reachedCount) := hw
  refine lv_istore (lv' := [(6, .int r_2), (4, .long (((31 : Int64) * v2) + r_1.toInt64)), (0, .ref k_h), (1, .int v1), (2, .long v2)]) hx hb dX0_digestFirsts_19 hl (by decide) rfl (fun ls hl => ?_)
  obtain ⟨z, hr, h⟩ := xn_i h
  refine xL_w (fun (z : Int64 × Int32) => ∀ (H : Heap) (locs : List Loc) (ls : Array Slot), xWd (dC, dI) A s.heap H locs (wK cI cZ cB cO k_h k_p k_n k_inOrder k_starts k_firsts k_reached k_reachedAt k_reachedCount) → lv_has ls 7 [(0, .ref k_h), (1, .int v1), (4, .long z.1), (6, .int z.2)] → W p l e R s m args below meth c H locs 0 0 Q (F0 m 21 ls [])) (fun (z : Int64) => ∀ (H : Heap) (locs : List Loc) (ls : Array Slot), xWd (dC, dI) A s.heap H locs (wK cI cZ cB cO k_h k_p k_n k_inOrder k_starts k_firsts k_reached k_reachedAt k_reachedCount) → lv_has ls 7 [(4, .long z)] → W p l e R s m args below meth c H locs 0 0 Q (F0 m 70 ls [])) ?_ hr ?_ _ _ _ hw (lv_sub hl [2, 3, 1, 0] rfl)
  · rintro ⟨v4_3, v6_4⟩ o h k H locs ls hw hl
    have hw : xWd (dC, dI) A s.heap H locs (wK cI cZ cB cO k_h k_p k_n k_inOrder k_starts k_firsts k_reached k_reachedAt k_reachedCount) := hw
    have hl : lv_has ls 7 [(0, .ref k_h), (1, .int v1), (4, .long v4_3), (6, .int v6_4)] := hl
    refine lv_iload hx hb dX0_digestFirsts_21 (lv_at hl 3 rfl) ?_
    refine lv_aload_n hx hb dX0_digestFirsts_23 rfl (lv_at hl 0 rfl) ?_
    refine lv_iload_n hx hb dX0_digestFirsts_24 rfl (lv_at hl 1 rfl) ?_
    refine lv_iconst (v := (1 : Int32)) hx hb dX0_digestFirsts_25 (by decide) ?_
    refine lv_iadd hx hb dX0_digestFirsts_26 ?_
    obtain ⟨r_6, q3, h⟩ := xn_i h
    refine x_callVi (As := [.int (v1 + (1 : Int32))]) (rest := [.int v6_4]) C hw gc_X0_104 ⟨rfl, rfl, ds_X0_start, (by rw [hR]; exact Nat.le_of_ble_eq_true rfl), (by rw [hR]; exact Nat.le_of_ble_eq_true rfl), Nat.zero_le _, Nat.zero_le _⟩ (c_X0_start l dC dI cI cZ cB cO k_h k_p k_n k_inOrder k_starts k_firsts k_reached k_reachedAt k_reachedCount (v1 + (1 : Int32)) _ q3 _) [0, 1, 2, 3, 4, 5] [] (by decide) rfl rfl (by decide) (by decide) rfl rfl rfl hl.1 rfl (Nat.le_of_ble_eq_true rfl) dX0_digestFirsts_27 (fun H locs hw => ?_)
    have hw : xWd (dC, dI) A s.heap H locs (wK cI cZ cB cO k_h k_p k_n k_inOrder k_starts k_firsts k_reached k_reachedAt k_reachedCount) := hw
    refine lv_icmp_ge (tgt := 70) hx hb dX0_digestFirsts_30 (by decide) (fun b4 => ?_) (fun b4 => ?_)
    · replace h := xb_tt b4 h
      obtain rfl := Option.some.inj h
      exact k _ _ _ hw (lv_sub hl [2] rfl)
    · replace h := xb_ff b4 h
      refine lv_aload_n hx hb dX0_digestFirsts_33 rfl (lv_at hl 0 rfl) ?_
      refine lv_aload_n hx hb dX0_digestFirsts_34 rfl (lv_at hl 0 rfl) ?_
      refine x_get (ci := 0) C hw inX0 rfl 1 (by decide) lkF_X0_15 rfl 0 rfl rfl dX0_digestFirsts_35 ?_
      refine lv_iload hx hb dX0_digestFirsts_38 (lv_at hl 3 rfl) ?_
      obtain ⟨b5, h⟩ := xk_i h
      refine x_iald C hw 1 0 rfl rfl b5 dX0_digestFirsts_40 ?_
      obtain ⟨r_7, q6, h⟩ := xn_i h
      refine x_callVi (As := [.int (k_inOrder v6_4.toNatClampNeg)]) (rest := []) C hw gc_X0_107 ⟨rfl, rfl, ds_X0_isFirst, (by rw [hR]; exact Nat.le_of_ble_eq_true rfl), (by rw [hR]; exact Nat.le_of_ble_eq_true rfl), Nat.zero_le _, Nat.zero_le _⟩ (c_X0_isFirst l dC dI cI cZ cB cO k_h k_p k_n k_inOrder k_starts k_firsts k_reached k_reachedAt k_reachedCount (k_inOrder v6_4.toNatClampNeg) _ q6 _) [0, 1, 2, 3, 4, 5] [] (by decide) rfl rfl (by decide) (by decide) rfl rfl rfl hl.1 rfl (Nat.le_of_ble_eq_true rfl) dX0_digestFirsts_41 (fun H locs hw => ?_)
      have hw : xWd (dC, dI) A s.heap H locs (wK cI cZ cB cO k_h k_p k_n k_inOrder k_starts k_firsts k_reached k_reachedAt k_reachedCount) := hw
      refine lv_if_eq (tgt := 64) hx hb dX0_digestFirsts_44 (by decide) (fun b7 => ?_) (fun b7 => ?_)
      · replace h := xb_tt b7 h
        refine lv_iinc (v := (v6_4 + (1 : Int32))) (lv' := [(6, .int (v6_4 + (1 : Int32))), (0, .ref k_h), (1, .int v1), (4, .long v4_3)]) hx hb dX0_digestFirsts_64 hl (k := 3) rfl (congrArg (fun q => v6_4 + q) (by decide)) (by decide) rfl (fun ls hl => ?_)
        refine lv_goto (tgt := 21) hx hb dX0_digestFirsts_67 (by decide) ?_
        obtain rfl := Option.some.inj h
        exact k _ _ _ hw (lv_sub hl [1, 2, 3, 0] rfl)
      · replace h := xb_ff b7 h
        refine lv_ldc2 hx hb hown (htb _ kJ_X0_111) dX0_digestFirsts_47 ?_
        refine lv_lload hx hb dX0_digestFirsts_50 (lv_at hl 2 rfl) ?_
        refine lv_lmul hx hb dX0_digestFirsts_52 ?_
        refine lv_aload_n hx hb dX0_digestFirsts_53 rfl (lv_at hl 0 rfl) ?_
        refine x_get (ci := 0) C hw inX0 rfl 1 (by decide) lkF_X0_15 rfl 0 rfl rfl dX0_digestFirsts_54 ?_
        refine lv_iload hx hb dX0_digestFirsts_57 (lv_at hl 3 rfl) ?_
        refine x_iald C hw 1 0 rfl rfl b5 dX0_digestFirsts_59 ?_
        refine lv_i2l hx hb dX0_digestFirsts_60 rfl ?_
        refine lv_ladd hx hb dX0_digestFirsts_61 ?_
        refine lv_lstore (lv' := [(4, .long (((31 : Int64) * v4_3) + (((k_inOrder v6_4.toNatClampNeg)).toInt64))), (0, .ref k_h), (1, .int v1), (6, .int v6_4)]) hx hb dX0_digestFirsts_62 hl (by decide) rfl (fun ls hl => ?_)
        refine lv_iinc (v := (v6_4 + (1 : Int32))) (lv' := [(6, .int (v6_4 + (1 : Int32))), (4, .long (((31 : Int64) * v4_3) + (((k_inOrder v6_4.toNatClampNeg)).toInt64))), (0, .ref k_h), (1, .int v1)]) hx hb dX0_digestFirsts_64 hl (k := 3) rfl (congrArg (fun q => v6_4 + q) (by decide)) (by decide) rfl (fun ls hl => ?_)
        refine lv_goto (tgt := 21) hx hb dX0_digestFirsts_67 (by decide) ?_
        obtain rfl := Option.some.inj h
        exact k _ _ _ hw (lv_sub hl [2, 3, 1, 0] rfl)
  · obtain ⟨v4_5, hz⟩ : ∃ q, q = z := ⟨z, rfl⟩
    subst hz
    intro H locs ls hw hl
    have hw : xWd (dC, dI) A s.heap H locs (wK cI cZ cB cO k_h k_p k_n k_inOrder k_starts k_firsts k_reached k_reachedAt k_reachedCount) := hw
    have hl : lv_has ls 7 [(4, .long v4_5)] := hl
    refine lv_lload hx hb dX0_digestFirsts_70 (lv_at hl 0 rfl) ?_
    obtain rfl := Option.some.inj h
    exact x_retl C hQ hA hw dX0_digestFirsts_72
noncomputable def f_X0_orbit_L1 (k_n : Int32) (k_firsts : (Nat → Int32)) (v1 : Int32) (z : Int32 × Int32) : Option ((Int32 × Int32) ⊕ (Int32)) := match z with
  | (v2_1, v3_2) => xb (k_n ≤ v3_2) (some (.inr v2_1)) (xn (f_X0_first k_firsts ((1 : Int32) <<< (v3_2 &&& 31))) (fun (r_4 : Int32) => xn (f_X0_first k_firsts ((1 : Int32) <<< (v1 &&& 31))) (fun (r_5 : Int32) => xb (r_4 = r_5) (some (.inl ((v2_1 ||| ((1 : Int32) <<< (v3_2 &&& 31))), (v3_2 + (1 : Int32))))) (some (.inl (v2_1, (v3_2 + (1 : Int32))))))))
noncomputable def f_X0_orbit (k_n : Int32) (k_firsts : (Nat → Int32)) (v1 : Int32) : Option (Int32) := xn (xL (f_X0_orbit_L1 k_n k_firsts v1) ((0 : Int32), (0 : Int32))) (fun (v2_3 : Int32) => some v2_3)
set_option maxHeartbeats 4000000 in
set_option maxRecDepth 100000 in
theorem c_X0_orbit (l : Launch) (dC : Nat → ClassId) (dI : Nat → Nat → Nat) (cI cZ cB cO : ClassId) (k_h : Nat) (k_p : Nat → Nat) (k_n : Int32) (k_inOrder : (Nat → Int32)) (k_starts : (Nat → Int32)) (k_firsts : (Nat → Int32)) (k_reached : (Nat → Int32)) (k_reachedAt : (Nat → Int32)) (k_reachedCount : Int32) (v1 : Int32) (o : Int32) (h : f_X0_orbit k_n k_firsts v1 = some o) (sz : Nat) : Met l yX0_orbit (xW yX0_orbit cX0_orbit 4 (some .int)) { frames := 1, cells := 0, slots := 0, locals := 21 } (xPre dC dI (xT cI cZ cB cO) [.ref k_h, .int v1] (wK cI cZ cB cO k_h k_p k_n k_inOrder k_starts k_firsts k_reached k_reachedAt k_reachedCount) sz) (xQi dC dI (xT cI cZ cB cO) o (wK cI cZ cB cO k_h k_p k_n k_inOrder k_starts k_firsts k_reached k_reachedAt k_reachedCount) (wK cI cZ cB cO k_h k_p k_n k_inOrder k_starts k_firsts k_reached k_reachedAt k_reachedCount) sz) 0 0 (va_A (wK cI cZ cB cO k_h k_p k_n k_inOrder k_starts k_firsts k_reached k_reachedAt k_reachedCount) sz) := by
  refine x_met (by decide) (Nat.le_of_ble_eq_true rfl) ?_
  intro p e s m args below meth c R Q A hR hsz hA hQ hin C hw ls hl
  have hx := C.1
  have hb := C.2.1
  have hown := C.2.2.2.1
  have htb := C.2.2.2.2.1
  have hl : lv_has ls 4 [(0, .ref k_h), (1, .int v1)] := hl
  refine lv_iconst (v := (0 : Int32)) hx hb dX0_orbit_0 (by decide) ?_
  refine lv_istore_n (lv' := [(2, .int (0 : Int32)), (0, .ref k_h), (1, .int v1)]) hx hb dX0_orbit_1 rfl hl (by decide) rfl (fun ls hl => ?_)
  refine lv_iconst (v := (0 : Int32)) hx hb dX0_orbit_2 (by decide) ?_
  refine lv_istore_n (lv' := [(3, .int (0 : Int32)), (2, .int (0 : Int32)), (0, .ref k_h), (1, .int v1)]) hx hb dX0_orbit_3 rfl hl (by decide) rfl (fun ls hl => ?_)
  obtain ⟨z, hr, h⟩ := xn_i h
  refine xL_w (fun (z : Int32 × Int32) => ∀ (H : Heap) (locs : List Loc) (ls : Array Slot), xWd (dC, dI) A s.heap H locs (wK cI cZ cB cO k_h k_p k_n k_inOrder k_starts k_firsts k_reached k_reachedAt k_reachedCount) → lv_has ls 4 [(0, .ref k_h), (1, .int v1), (2, .int z.1), (3, .int z.2)] → W p l e R s m args below meth c H locs 0 0 Q (F0 m 4 ls [])) (fun (z : Int32) => ∀ (H : Heap) (locs : List Loc) (ls : Array Slot), xWd (dC, dI) A s.heap H locs (wK cI cZ cB cO k_h k_p k_n k_inOrder k_starts k_firsts k_reached k_reachedAt k_reachedCount) → lv_has ls 4 [(2, .int z)] → W p l e R s m args below meth c H locs 0 0 Q (F0 m 41 ls [])) ?_ hr ?_ _ _ _ hw (lv_sub hl [2, 3, 1, 0] rfl)
  · rintro ⟨v2_1, v3_2⟩ o h k H locs ls hw hl
    have hw : xWd (dC, dI) A s.heap H locs (wK cI cZ cB cO k_h k_p k_n k_inOrder k_starts k_firsts k_reached k_reachedAt k_reachedCount) := hw
    have hl : lv_has ls 4 [(0, .ref k_h), (1, .int v1), (2, .int v2_1), (3, .int v3_2)] := hl
    refine lv_iload_n hx hb dX0_orbit_4 rfl (lv_at hl 3 rfl) ?_
    refine lv_aload_n hx hb dX0_orbit_5 rfl (lv_at hl 0 rfl) ?_
    refine x_get (ci := 0) C hw inX0 rfl 0 (by decide) lkF_X0_9 rfl 0 rfl rfl dX0_orbit_6 ?_
    refine lv_icmp_ge (tgt := 41) hx hb dX0_orbit_9 (by decide) (fun b1 => ?_) (fun b1 => ?_)
    · replace h := xb_tt b1 h
      obtain rfl := Option.some.inj h
      exact k _ _ _ hw (lv_sub hl [2] rfl)
    · replace h := xb_ff b1 h
      refine lv_aload_n hx hb dX0_orbit_12 rfl (lv_at hl 0 rfl) ?_
      refine lv_iconst (v := (1 : Int32)) hx hb dX0_orbit_13 (by decide) ?_
      refine lv_iload_n hx hb dX0_orbit_14 rfl (lv_at hl 3 rfl) ?_
      refine lv_ishl hx hb dX0_orbit_15 ?_
      obtain ⟨r_4, q2, h⟩ := xn_i h
      refine x_callVi (As := [.int ((1 : Int32) <<< (v3_2 &&& 31))]) (rest := []) C hw gc_X0_101 ⟨rfl, rfl, ds_X0_first, (by rw [hR]; exact Nat.le_of_ble_eq_true rfl), (by rw [hR]; exact Nat.le_of_ble_eq_true rfl), Nat.zero_le _, Nat.zero_le _⟩ (c_X0_first l dC dI cI cZ cB cO k_h k_p k_n k_inOrder k_starts k_firsts k_reached k_reachedAt k_reachedCount ((1 : Int32) <<< (v3_2 &&& 31)) _ q2 _) [0, 1, 2, 3, 4, 5] [] (by decide) rfl rfl (by decide) (by decide) rfl rfl rfl hl.1 rfl (Nat.le_of_ble_eq_true rfl) dX0_orbit_16 (fun H locs hw => ?_)
      have hw : xWd (dC, dI) A s.heap H locs (wK cI cZ cB cO k_h k_p k_n k_inOrder k_starts k_firsts k_reached k_reachedAt k_reachedCount) := hw
      refine lv_aload_n hx hb dX0_orbit_19 rfl (lv_at hl 0 rfl) ?_
      refine lv_iconst (v := (1 : Int32)) hx hb dX0_orbit_20 (by decide) ?_
      refine lv_iload_n hx hb dX0_orbit_21 rfl (lv_at hl 1 rfl) ?_
      refine lv_ishl hx hb dX0_orbit_22 ?_
      obtain ⟨r_5, q3, h⟩ := xn_i h
      refine x_callVi (As := [.int ((1 : Int32) <<< (v1 &&& 31))]) (rest := [.int r_4]) C hw gc_X0_101 ⟨rfl, rfl, ds_X0_first, (by rw [hR]; exact Nat.le_of_ble_eq_true rfl), (by rw [hR]; exact Nat.le_of_ble_eq_true rfl), Nat.zero_le _, Nat.zero_le _⟩ (c_X0_first l dC dI cI cZ cB cO k_h k_p k_n k_inOrder k_starts k_firsts k_reached k_reachedAt k_reachedCount ((1 : Int32) <<< (v1 &&& 31)) _ q3 _) [0, 1, 2, 3, 4, 5] [] (by decide) rfl rfl (by decide) (by decide) rfl rfl rfl hl.1 rfl (Nat.le_of_ble_eq_true rfl) dX0_orbit_23 (fun H locs hw => ?_)
      have hw : xWd (dC, dI) A s.heap H locs (wK cI cZ cB cO k_h k_p k_n k_inOrder k_starts k_firsts k_reached k_reachedAt k_reachedCount) := hw
      refine lv_icmp_ne (tgt := 35) hx hb dX0_orbit_26 (by decide) (fun b4 => ?_) (fun b4 => ?_)
      · replace h := xb_ff b4 h
        refine lv_iinc (v := (v3_2 + (1 : Int32))) (lv' := [(3, .int (v3_2 + (1 : Int32))), (0, .ref k_h), (1, .int v1), (2, .int v2_1)]) hx hb dX0_orbit_35 hl (k := 3) rfl (congrArg (fun q => v3_2 + q) (by decide)) (by decide) rfl (fun ls hl => ?_)
        refine lv_goto (tgt := 4) hx hb dX0_orbit_38 (by decide) ?_
        obtain rfl := Option.some.inj h
        exact k _ _ _ hw (lv_sub hl [1, 2, 3, 0] rfl)
      · replace h := xb_tt b4 h
        refine lv_iload_n hx hb dX0_orbit_29 rfl (lv_at hl 2 rfl) ?_
        refine lv_iconst (v := (1 : Int32)) hx hb dX0_orbit_30 (by decide) ?_
        refine lv_iload_n hx hb dX0_orbit_31 rfl (lv_at hl 3 rfl) ?_
        refine lv_ishl hx hb dX0_orbit_32 ?_
        refine lv_ior hx hb dX0_orbit_33 ?_
        refine lv_istore_n (lv' := [(2, .int (v2_1 ||| ((1 : Int32) <<< (v3_2 &&& 31)))), (0, .ref k_h), (1, .int v1), (3, .int v3_2)]) hx hb dX0_orbit_34 rfl hl (by decide) rfl (fun ls hl => ?_)
        refine lv_iinc (v := (v3_2 + (1 : Int32))) (lv' := [(3, .int (v3_2 + (1 : Int32))), (2, .int (v2_1 ||| ((1 : Int32) <<< (v3_2 &&& 31)))), (0, .ref k_h), (1, .int v1)]) hx hb dX0_orbit_35 hl (k := 3) rfl (congrArg (fun q => v3_2 + q) (by decide)) (by decide) rfl (fun ls hl => ?_)
        refine lv_goto (tgt := 4) hx hb dX0_orbit_38 (by decide) ?_
        obtain rfl := Option.some.inj h
        exact k _ _ _ hw (lv_sub hl [2, 3, 1, 0] rfl)
  · obtain ⟨v2_3, hz⟩ : ∃ q, q = z := ⟨z, rfl⟩
    subst hz
    intro H locs ls hw hl
    have hw : xWd (dC, dI) A s.heap H locs (wK cI cZ cB cO k_h k_p k_n k_inOrder k_starts k_firsts k_reached k_reachedAt k_reachedCount) := hw
    have hl : lv_has ls 4 [(2, .int v2_3)] := hl
    refine lv_iload_n hx hb dX0_orbit_41 rfl (lv_at hl 0 rfl) ?_
    obtain rfl := Option.some.inj h
    exact x_reti C hQ hA hw dX0_orbit_42
noncomputable def f_X0_leastPoint_L1 (v1 : Int32) (k_firsts : (Nat → Int32)) (v2_1 : Int32) : Option ((Int32) ⊕ (Int32)) := xb (v1 ≤ v2_1) (some (.inr v2_1)) (xn (f_X0_first k_firsts ((1 : Int32) <<< (v2_1 &&& 31))) (fun (r_3 : Int32) => xn (f_X0_first k_firsts ((1 : Int32) <<< (v1 &&& 31))) (fun (r_4 : Int32) => xb (r_3 = r_4) (some (.inr v2_1)) (some (.inl (v2_1 + (1 : Int32)))))))
noncomputable def f_X0_leastPoint (k_firsts : (Nat → Int32)) (v1 : Int32) : Option (Int32) := xn (xL (f_X0_leastPoint_L1 v1 k_firsts) (0 : Int32)) (fun (v2_2 : Int32) => some v2_2)
set_option maxHeartbeats 4000000 in
set_option maxRecDepth 100000 in
theorem c_X0_leastPoint (l : Launch) (dC : Nat → ClassId) (dI : Nat → Nat → Nat) (cI cZ cB cO : ClassId) (k_h : Nat) (k_p : Nat → Nat) (k_n : Int32) (k_inOrder : (Nat → Int32)) (k_starts : (Nat → Int32)) (k_firsts : (Nat → Int32)) (k_reached : (Nat → Int32)) (k_reachedAt : (Nat → Int32)) (k_reachedCount : Int32) (v1 : Int32) (o : Int32) (h : f_X0_leastPoint k_firsts v1 = some o) (sz : Nat) : Met l yX0_leastPoint (xW yX0_leastPoint cX0_leastPoint 3 (some .int)) { frames := 1, cells := 0, slots := 0, locals := 21 } (xPre dC dI (xT cI cZ cB cO) [.ref k_h, .int v1] (wK cI cZ cB cO k_h k_p k_n k_inOrder k_starts k_firsts k_reached k_reachedAt k_reachedCount) sz) (xQi dC dI (xT cI cZ cB cO) o (wK cI cZ cB cO k_h k_p k_n k_inOrder k_starts k_firsts k_reached k_reachedAt k_reachedCount) (wK cI cZ cB cO k_h k_p k_n k_inOrder k_starts k_firsts k_reached k_reachedAt k_reachedCount) sz) 0 0 (va_A (wK cI cZ cB cO k_h k_p k_n k_inOrder k_starts k_firsts k_reached k_reachedAt k_reachedCount) sz) := by
  refine x_met (by decide) (Nat.le_of_ble_eq_true rfl) ?_
  intro p e s m args below meth c R Q A hR hsz hA hQ hin C hw ls hl
  have hx := C.1
  have hb := C.2.1
  have hown := C.2.2.2.1
  have htb := C.2.2.2.2.1
  have hl : lv_has ls 3 [(0, .ref k_h), (1, .int v1)] := hl
  refine lv_iconst (v := (0 : Int32)) hx hb dX0_leastPoint_0 (by decide) ?_
  refine lv_istore_n (lv' := [(2, .int (0 : Int32)), (0, .ref k_h), (1, .int v1)]) hx hb dX0_leastPoint_1 rfl hl (by decide) rfl (fun ls hl => ?_)
  obtain ⟨z, hr, h⟩ := xn_i h
  refine xL_w (fun (z : Int32) => ∀ (H : Heap) (locs : List Loc) (ls : Array Slot), xWd (dC, dI) A s.heap H locs (wK cI cZ cB cO k_h k_p k_n k_inOrder k_starts k_firsts k_reached k_reachedAt k_reachedCount) → lv_has ls 3 [(0, .ref k_h), (1, .int v1), (2, .int z)] → W p l e R s m args below meth c H locs 0 0 Q (F0 m 2 ls [])) (fun (z : Int32) => ∀ (H : Heap) (locs : List Loc) (ls : Array Slot), xWd (dC, dI) A s.heap H locs (wK cI cZ cB cO k_h k_p k_n k_inOrder k_starts k_firsts k_reached k_reachedAt k_reachedCount) → lv_has ls 3 [(2, .int z)] → W p l e R s m args below meth c H locs 0 0 Q (F0 m 30 ls [])) ?_ hr ?_ _ _ _ hw (lv_sub hl [1, 2, 0] rfl)
  · intro v2_1 o h k H locs ls hw hl
    have hw : xWd (dC, dI) A s.heap H locs (wK cI cZ cB cO k_h k_p k_n k_inOrder k_starts k_firsts k_reached k_reachedAt k_reachedCount) := hw
    have hl : lv_has ls 3 [(0, .ref k_h), (1, .int v1), (2, .int v2_1)] := hl
    refine lv_iload_n hx hb dX0_leastPoint_2 rfl (lv_at hl 2 rfl) ?_
    refine lv_iload_n hx hb dX0_leastPoint_3 rfl (lv_at hl 1 rfl) ?_
    refine lv_icmp_ge (tgt := 30) hx hb dX0_leastPoint_4 (by decide) (fun b1 => ?_) (fun b1 => ?_)
    · replace h := xb_tt b1 h
      obtain rfl := Option.some.inj h
      exact k _ _ _ hw (lv_sub hl [2] rfl)
    · replace h := xb_ff b1 h
      refine lv_aload_n hx hb dX0_leastPoint_7 rfl (lv_at hl 0 rfl) ?_
      refine lv_iconst (v := (1 : Int32)) hx hb dX0_leastPoint_8 (by decide) ?_
      refine lv_iload_n hx hb dX0_leastPoint_9 rfl (lv_at hl 2 rfl) ?_
      refine lv_ishl hx hb dX0_leastPoint_10 ?_
      obtain ⟨r_3, q2, h⟩ := xn_i h
      refine x_callVi (As := [.int ((1 : Int32) <<< (v2_1 &&& 31))]) (rest := []) C hw gc_X0_101 ⟨rfl, rfl, ds_X0_first, (by rw [hR]; exact Nat.le_of_ble_eq_true rfl), (by rw [hR]; exact Nat.le_of_ble_eq_true rfl), Nat.zero_le _, Nat.zero_le _⟩ (c_X0_first l dC dI cI cZ cB cO k_h k_p k_n k_inOrder k_starts k_firsts k_reached k_reachedAt k_reachedCount ((1 : Int32) <<< (v2_1 &&& 31)) _ q2 _) [0, 1, 2, 3, 4, 5] [] (by decide) rfl rfl (by decide) (by decide) rfl rfl rfl hl.1 rfl (Nat.le_of_ble_eq_true rfl) dX0_leastPoint_11 (fun H locs hw => ?_)
      have hw : xWd (dC, dI) A s.heap H locs (wK cI cZ cB cO k_h k_p k_n k_inOrder k_starts k_firsts k_reached k_reachedAt k_reachedCount) := hw
      refine lv_aload_n hx hb dX0_leastPoint_14 rfl (lv_at hl 0 rfl) ?_
      refine lv_iconst (v := (1 : Int32)) hx hb dX0_leastPoint_15 (by decide) ?_
      refine lv_iload_n hx hb dX0_leastPoint_16 rfl (lv_at hl 1 rfl) ?_
      refine lv_ishl hx hb dX0_leastPoint_17 ?_
      obtain ⟨r_4, q3, h⟩ := xn_i h
      refine x_callVi (As := [.int ((1 : Int32) <<< (v1 &&& 31))]) (rest := [.int r_3]) C hw gc_X0_101 ⟨rfl, rfl, ds_X0_first, (by rw [hR]; exact Nat.le_of_ble_eq_true rfl), (by rw [hR]; exact Nat.le_of_ble_eq_true rfl), Nat.zero_le _, Nat.zero_le _⟩ (c_X0_first l dC dI cI cZ cB cO k_h k_p k_n k_inOrder k_starts k_firsts k_reached k_reachedAt k_reachedCount ((1 : Int32) <<< (v1 &&& 31)) _ q3 _) [0, 1, 2, 3, 4, 5] [] (by decide) rfl rfl (by decide) (by decide) rfl rfl rfl hl.1 rfl (Nat.le_of_ble_eq_true rfl) dX0_leastPoint_18 (fun H locs hw => ?_)
      have hw : xWd (dC, dI) A s.heap H locs (wK cI cZ cB cO k_h k_p k_n k_inOrder k_starts k_firsts k_reached k_reachedAt k_reachedCount) := hw
      refine lv_icmp_eq (tgt := 30) hx hb dX0_leastPoint_21 (by decide) (fun b4 => ?_) (fun b4 => ?_)
      · replace h := xb_tt b4 h
        obtain rfl := Option.some.inj h
        exact k _ _ _ hw (lv_sub hl [2] rfl)
      · replace h := xb_ff b4 h
        refine lv_iinc (v := (v2_1 + (1 : Int32))) (lv' := [(2, .int (v2_1 + (1 : Int32))), (0, .ref k_h), (1, .int v1)]) hx hb dX0_leastPoint_24 hl (k := 2) rfl (congrArg (fun q => v2_1 + q) (by decide)) (by decide) rfl (fun ls hl => ?_)
        refine lv_goto (tgt := 2) hx hb dX0_leastPoint_27 (by decide) ?_
        obtain rfl := Option.some.inj h
        exact k _ _ _ hw (lv_sub hl [1, 2, 0] rfl)
  · obtain ⟨v2_2, hz⟩ : ∃ q, q = z := ⟨z, rfl⟩
    subst hz
    intro H locs ls hw hl
    have hw : xWd (dC, dI) A s.heap H locs (wK cI cZ cB cO k_h k_p k_n k_inOrder k_starts k_firsts k_reached k_reachedAt k_reachedCount) := hw
    have hl : lv_has ls 3 [(2, .int v2_2)] := hl
    refine lv_iload_n hx hb dX0_leastPoint_30 rfl (lv_at hl 0 rfl) ?_
    obtain rfl := Option.some.inj h
    exact x_reti C hQ hA hw dX0_leastPoint_31
end
section
theorem dX3_takesLetter_0 : decode cX3_takesLetter 0 = .ok (.aload_n 0, 1) := by decide +kernel
theorem dX3_takesLetter_1 : decode cX3_takesLetter 1 = .ok (.iload_n 1, 1) := by decide +kernel
theorem dX3_takesLetter_2 : decode cX3_takesLetter 2 = .ok (.putfield 28, 3) := by decide +kernel
theorem dX3_takesLetter_5 : decode cX3_takesLetter 5 = .ok (.aload_n 0, 1) := by decide +kernel
theorem dX3_takesLetter_6 : decode cX3_takesLetter 6 = .ok (.iconst 0, 1) := by decide +kernel
theorem dX3_takesLetter_7 : decode cX3_takesLetter 7 = .ok (.putfield 31, 3) := by decide +kernel
theorem dX3_takesLetter_10 : decode cX3_takesLetter 10 = .ok (.aload_n 0, 1) := by decide +kernel
theorem dX3_takesLetter_11 : decode cX3_takesLetter 11 = .ok (.iconst 0, 1) := by decide +kernel
theorem dX3_takesLetter_12 : decode cX3_takesLetter 12 = .ok (.putfield 34, 3) := by decide +kernel
theorem dX3_takesLetter_15 : decode cX3_takesLetter 15 = .ok (.aload_n 0, 1) := by decide +kernel
theorem dX3_takesLetter_16 : decode cX3_takesLetter 16 = .ok (.iconst 0, 1) := by decide +kernel
theorem dX3_takesLetter_17 : decode cX3_takesLetter 17 = .ok (.putfield 37, 3) := by decide +kernel
theorem dX3_takesLetter_20 : decode cX3_takesLetter 20 = .ok (.aload_n 0, 1) := by decide +kernel
theorem dX3_takesLetter_21 : decode cX3_takesLetter 21 = .ok (.iconst 1, 1) := by decide +kernel
theorem dX3_takesLetter_22 : decode cX3_takesLetter 22 = .ok (.putfield 25, 3) := by decide +kernel
theorem dX3_takesLetter_25 : decode cX3_takesLetter 25 = .ok (.iload_n 1, 1) := by decide +kernel
theorem dX3_takesLetter_26 : decode cX3_takesLetter 26 = .ok (.bipush 110, 2) := by decide +kernel
theorem dX3_takesLetter_28 : decode cX3_takesLetter 28 = .ok (.if_icmp .eq 15, 3) := by decide +kernel
theorem dX3_takesLetter_31 : decode cX3_takesLetter 31 = .ok (.iload_n 1, 1) := by decide +kernel
theorem dX3_takesLetter_32 : decode cX3_takesLetter 32 = .ok (.bipush 109, 2) := by decide +kernel
theorem dX3_takesLetter_34 : decode cX3_takesLetter 34 = .ok (.if_icmp .eq 9, 3) := by decide +kernel
theorem dX3_takesLetter_37 : decode cX3_takesLetter 37 = .ok (.iload_n 1, 1) := by decide +kernel
theorem dX3_takesLetter_38 : decode cX3_takesLetter 38 = .ok (.bipush 120, 2) := by decide +kernel
theorem dX3_takesLetter_40 : decode cX3_takesLetter 40 = .ok (.if_icmp .ne 7, 3) := by decide +kernel
theorem dX3_takesLetter_43 : decode cX3_takesLetter 43 = .ok (.iconst 1, 1) := by decide +kernel
theorem dX3_takesLetter_44 : decode cX3_takesLetter 44 = .ok (.goto 4, 3) := by decide +kernel
theorem dX3_takesLetter_47 : decode cX3_takesLetter 47 = .ok (.iconst 0, 1) := by decide +kernel
theorem dX3_takesLetter_48 : decode cX3_takesLetter 48 = .ok (.ireturn, 1) := by decide +kernel
theorem dX3_isDue_0 : decode cX3_isDue 0 = .ok (.aload_n 0, 1) := by decide +kernel
theorem dX3_isDue_1 : decode cX3_isDue 1 = .ok (.getfield 28, 3) := by decide +kernel
theorem dX3_isDue_4 : decode cX3_isDue 4 = .ok (.lookupswitch 77 #[(109, 45), (110, 28)], 28) := by decide +kernel
theorem dX3_isDue_32 : decode cX3_isDue 32 = .ok (.iload_n 1, 1) := by decide +kernel
theorem dX3_isDue_33 : decode cX3_isDue 33 = .ok (.iconst 1, 1) := by decide +kernel
theorem dX3_isDue_34 : decode cX3_isDue 34 = .ok (.if_icmp .lt 13, 3) := by decide +kernel
theorem dX3_isDue_37 : decode cX3_isDue 37 = .ok (.iload_n 1, 1) := by decide +kernel
theorem dX3_isDue_38 : decode cX3_isDue 38 = .ok (.bipush 8, 2) := by decide +kernel
theorem dX3_isDue_40 : decode cX3_isDue 40 = .ok (.if_icmp .gt 7, 3) := by decide +kernel
theorem dX3_isDue_43 : decode cX3_isDue 43 = .ok (.iconst 1, 1) := by decide +kernel
theorem dX3_isDue_44 : decode cX3_isDue 44 = .ok (.goto 4, 3) := by decide +kernel
theorem dX3_isDue_47 : decode cX3_isDue 47 = .ok (.iconst 0, 1) := by decide +kernel
theorem dX3_isDue_48 : decode cX3_isDue 48 = .ok (.ireturn, 1) := by decide +kernel
theorem dX3_isDue_49 : decode cX3_isDue 49 = .ok (.iload_n 1, 1) := by decide +kernel
theorem dX3_isDue_50 : decode cX3_isDue 50 = .ok (.ifCond .lt 29, 3) := by decide +kernel
theorem dX3_isDue_53 : decode cX3_isDue 53 = .ok (.iload_n 1, 1) := by decide +kernel
theorem dX3_isDue_54 : decode cX3_isDue 54 = .ok (.aload_n 0, 1) := by decide +kernel
theorem dX3_isDue_55 : decode cX3_isDue 55 = .ok (.getfield 12, 3) := by decide +kernel
theorem dX3_isDue_58 : decode cX3_isDue 58 = .ok (.getfield 69, 3) := by decide +kernel
theorem dX3_isDue_61 : decode cX3_isDue 61 = .ok (.if_icmp .ge 18, 3) := by decide +kernel
theorem dX3_isDue_64 : decode cX3_isDue 64 = .ok (.aload_n 0, 1) := by decide +kernel
theorem dX3_isDue_65 : decode cX3_isDue 65 = .ok (.getfield 37, 3) := by decide +kernel
theorem dX3_isDue_68 : decode cX3_isDue 68 = .ok (.iload_n 1, 1) := by decide +kernel
theorem dX3_isDue_69 : decode cX3_isDue 69 = .ok (.ishr, 1) := by decide +kernel
theorem dX3_isDue_70 : decode cX3_isDue 70 = .ok (.iconst 1, 1) := by decide +kernel
theorem dX3_isDue_71 : decode cX3_isDue 71 = .ok (.iand, 1) := by decide +kernel
theorem dX3_isDue_72 : decode cX3_isDue 72 = .ok (.ifCond .ne 7, 3) := by decide +kernel
theorem dX3_isDue_75 : decode cX3_isDue 75 = .ok (.iconst 1, 1) := by decide +kernel
theorem dX3_isDue_76 : decode cX3_isDue 76 = .ok (.goto 4, 3) := by decide +kernel
theorem dX3_isDue_79 : decode cX3_isDue 79 = .ok (.iconst 0, 1) := by decide +kernel
theorem dX3_isDue_80 : decode cX3_isDue 80 = .ok (.ireturn, 1) := by decide +kernel
theorem dX3_isDue_81 : decode cX3_isDue 81 = .ok (.iload_n 1, 1) := by decide +kernel
theorem dX3_isDue_82 : decode cX3_isDue 82 = .ok (.ifCond .lt 13, 3) := by decide +kernel
theorem dX3_isDue_85 : decode cX3_isDue 85 = .ok (.iload_n 1, 1) := by decide +kernel
theorem dX3_isDue_86 : decode cX3_isDue 86 = .ok (.bipush 9, 2) := by decide +kernel
theorem dX3_isDue_88 : decode cX3_isDue 88 = .ok (.if_icmp .gt 7, 3) := by decide +kernel
theorem dX3_isDue_91 : decode cX3_isDue 91 = .ok (.iconst 1, 1) := by decide +kernel
theorem dX3_isDue_92 : decode cX3_isDue 92 = .ok (.goto 4, 3) := by decide +kernel
theorem dX3_isDue_95 : decode cX3_isDue 95 = .ok (.iconst 0, 1) := by decide +kernel
theorem dX3_isDue_96 : decode cX3_isDue 96 = .ok (.ireturn, 1) := by decide +kernel
theorem dX3_takesFigure_0 : decode cX3_takesFigure 0 = .ok (.aload_n 0, 1) := by decide +kernel
theorem dX3_takesFigure_1 : decode cX3_takesFigure 1 = .ok (.iload_n 1, 1) := by decide +kernel
theorem dX3_takesFigure_2 : decode cX3_takesFigure 2 = .ok (.invokevirtual 66, 3) := by decide +kernel
theorem dX3_takesFigure_5 : decode cX3_takesFigure 5 = .ok (.ifCond .ne 5, 3) := by decide +kernel
theorem dX3_takesFigure_8 : decode cX3_takesFigure 8 = .ok (.iconst 0, 1) := by decide +kernel
theorem dX3_takesFigure_9 : decode cX3_takesFigure 9 = .ok (.ireturn, 1) := by decide +kernel
theorem dX3_takesFigure_10 : decode cX3_takesFigure 10 = .ok (.aload_n 0, 1) := by decide +kernel
theorem dX3_takesFigure_11 : decode cX3_takesFigure 11 = .ok (.bipush 10, 2) := by decide +kernel
theorem dX3_takesFigure_13 : decode cX3_takesFigure 13 = .ok (.aload_n 0, 1) := by decide +kernel
theorem dX3_takesFigure_14 : decode cX3_takesFigure 14 = .ok (.getfield 31, 3) := by decide +kernel
theorem dX3_takesFigure_17 : decode cX3_takesFigure 17 = .ok (.imul, 1) := by decide +kernel
theorem dX3_takesFigure_18 : decode cX3_takesFigure 18 = .ok (.iload_n 1, 1) := by decide +kernel
theorem dX3_takesFigure_19 : decode cX3_takesFigure 19 = .ok (.iadd, 1) := by decide +kernel
theorem dX3_takesFigure_20 : decode cX3_takesFigure 20 = .ok (.putfield 31, 3) := by decide +kernel
theorem dX3_takesFigure_23 : decode cX3_takesFigure 23 = .ok (.aload_n 0, 1) := by decide +kernel
theorem dX3_takesFigure_24 : decode cX3_takesFigure 24 = .ok (.dup, 1) := by decide +kernel
theorem dX3_takesFigure_25 : decode cX3_takesFigure 25 = .ok (.getfield 37, 3) := by decide +kernel
theorem dX3_takesFigure_28 : decode cX3_takesFigure 28 = .ok (.iconst 1, 1) := by decide +kernel
theorem dX3_takesFigure_29 : decode cX3_takesFigure 29 = .ok (.iload_n 1, 1) := by decide +kernel
theorem dX3_takesFigure_30 : decode cX3_takesFigure 30 = .ok (.ishl, 1) := by decide +kernel
theorem dX3_takesFigure_31 : decode cX3_takesFigure 31 = .ok (.ior, 1) := by decide +kernel
theorem dX3_takesFigure_32 : decode cX3_takesFigure 32 = .ok (.putfield 37, 3) := by decide +kernel
theorem dX3_takesFigure_35 : decode cX3_takesFigure 35 = .ok (.aload_n 0, 1) := by decide +kernel
theorem dX3_takesFigure_36 : decode cX3_takesFigure 36 = .ok (.dup, 1) := by decide +kernel
theorem dX3_takesFigure_37 : decode cX3_takesFigure 37 = .ok (.getfield 34, 3) := by decide +kernel
theorem dX3_takesFigure_40 : decode cX3_takesFigure 40 = .ok (.iconst 1, 1) := by decide +kernel
theorem dX3_takesFigure_41 : decode cX3_takesFigure 41 = .ok (.iadd, 1) := by decide +kernel
theorem dX3_takesFigure_42 : decode cX3_takesFigure 42 = .ok (.putfield 34, 3) := by decide +kernel
theorem dX3_takesFigure_45 : decode cX3_takesFigure 45 = .ok (.aload_n 0, 1) := by decide +kernel
theorem dX3_takesFigure_46 : decode cX3_takesFigure 46 = .ok (.getfield 34, 3) := by decide +kernel
theorem dX3_takesFigure_49 : decode cX3_takesFigure 49 = .ok (.aload_n 0, 1) := by decide +kernel
theorem dX3_takesFigure_50 : decode cX3_takesFigure 50 = .ok (.getfield 28, 3) := by decide +kernel
theorem dX3_takesFigure_53 : decode cX3_takesFigure 53 = .ok (.bipush 109, 2) := by decide +kernel
theorem dX3_takesFigure_55 : decode cX3_takesFigure 55 = .ok (.if_icmp .ne 13, 3) := by decide +kernel
theorem dX3_takesFigure_58 : decode cX3_takesFigure 58 = .ok (.aload_n 0, 1) := by decide +kernel
theorem dX3_takesFigure_59 : decode cX3_takesFigure 59 = .ok (.getfield 12, 3) := by decide +kernel
theorem dX3_takesFigure_62 : decode cX3_takesFigure 62 = .ok (.getfield 69, 3) := by decide +kernel
theorem dX3_takesFigure_65 : decode cX3_takesFigure 65 = .ok (.goto 4, 3) := by decide +kernel
theorem dX3_takesFigure_68 : decode cX3_takesFigure 68 = .ok (.iconst 1, 1) := by decide +kernel
theorem dX3_takesFigure_69 : decode cX3_takesFigure 69 = .ok (.if_icmp .lt 8, 3) := by decide +kernel
theorem dX3_takesFigure_72 : decode cX3_takesFigure 72 = .ok (.aload_n 0, 1) := by decide +kernel
theorem dX3_takesFigure_73 : decode cX3_takesFigure 73 = .ok (.iconst 2, 1) := by decide +kernel
theorem dX3_takesFigure_74 : decode cX3_takesFigure 74 = .ok (.putfield 25, 3) := by decide +kernel
theorem dX3_takesFigure_77 : decode cX3_takesFigure 77 = .ok (.iconst 1, 1) := by decide +kernel
theorem dX3_takesFigure_78 : decode cX3_takesFigure 78 = .ok (.ireturn, 1) := by decide +kernel
theorem dX3_obeys_0 : decode cX3_obeys 0 = .ok (.aload_n 0, 1) := by decide +kernel
theorem dX3_obeys_1 : decode cX3_obeys 1 = .ok (.getfield 28, 3) := by decide +kernel
theorem dX3_obeys_4 : decode cX3_obeys 4 = .ok (.lookupswitch 63 #[(109, 41), (110, 28)], 28) := by decide +kernel
theorem dX3_obeys_32 : decode cX3_obeys 32 = .ok (.aload_n 0, 1) := by decide +kernel
theorem dX3_obeys_33 : decode cX3_obeys 33 = .ok (.getfield 12, 3) := by decide +kernel
theorem dX3_obeys_36 : decode cX3_obeys 36 = .ok (.aload_n 0, 1) := by decide +kernel
theorem dX3_obeys_37 : decode cX3_obeys 37 = .ok (.getfield 31, 3) := by decide +kernel
theorem dX3_obeys_40 : decode cX3_obeys 40 = .ok (.invokevirtual 76, 3) := by decide +kernel
theorem dX3_obeys_43 : decode cX3_obeys 43 = .ok (.iconst 1, 1) := by decide +kernel
theorem dX3_obeys_44 : decode cX3_obeys 44 = .ok (.ireturn, 1) := by decide +kernel
theorem dX3_obeys_45 : decode cX3_obeys 45 = .ok (.aload_n 0, 1) := by decide +kernel
theorem dX3_obeys_46 : decode cX3_obeys 46 = .ok (.getfield 12, 3) := by decide +kernel
theorem dX3_obeys_49 : decode cX3_obeys 49 = .ok (.aload_n 0, 1) := by decide +kernel
theorem dX3_obeys_50 : decode cX3_obeys 50 = .ok (.getfield 31, 3) := by decide +kernel
theorem dX3_obeys_53 : decode cX3_obeys 53 = .ok (.aload_n 0, 1) := by decide +kernel
theorem dX3_obeys_54 : decode cX3_obeys 54 = .ok (.getfield 12, 3) := by decide +kernel
theorem dX3_obeys_57 : decode cX3_obeys 57 = .ok (.getfield 69, 3) := by decide +kernel
theorem dX3_obeys_60 : decode cX3_obeys 60 = .ok (.invokestatic 80, 3) := by decide +kernel
theorem dX3_obeys_63 : decode cX3_obeys 63 = .ok (.invokevirtual 86, 3) := by decide +kernel
theorem dX3_obeys_66 : decode cX3_obeys 66 = .ok (.ireturn, 1) := by decide +kernel
theorem dX3_obeys_67 : decode cX3_obeys 67 = .ok (.aload_n 0, 1) := by decide +kernel
theorem dX3_obeys_68 : decode cX3_obeys 68 = .ok (.getfield 12, 3) := by decide +kernel
theorem dX3_obeys_71 : decode cX3_obeys 71 = .ok (.aload_n 0, 1) := by decide +kernel
theorem dX3_obeys_72 : decode cX3_obeys 72 = .ok (.getfield 31, 3) := by decide +kernel
theorem dX3_obeys_75 : decode cX3_obeys 75 = .ok (.invokevirtual 89, 3) := by decide +kernel
theorem dX3_obeys_78 : decode cX3_obeys 78 = .ok (.ireturn, 1) := by decide +kernel
theorem dX3_takesEnd_0 : decode cX3_takesEnd 0 = .ok (.iload_n 1, 1) := by decide +kernel
theorem dX3_takesEnd_1 : decode cX3_takesEnd 1 = .ok (.bipush 59, 2) := by decide +kernel
theorem dX3_takesEnd_3 : decode cX3_takesEnd 3 = .ok (.if_icmp .eq 5, 3) := by decide +kernel
theorem dX3_takesEnd_6 : decode cX3_takesEnd 6 = .ok (.iconst 0, 1) := by decide +kernel
theorem dX3_takesEnd_7 : decode cX3_takesEnd 7 = .ok (.ireturn, 1) := by decide +kernel
theorem dX3_takesEnd_8 : decode cX3_takesEnd 8 = .ok (.aload_n 0, 1) := by decide +kernel
theorem dX3_takesEnd_9 : decode cX3_takesEnd 9 = .ok (.invokevirtual 72, 3) := by decide +kernel
theorem dX3_takesEnd_12 : decode cX3_takesEnd 12 = .ok (.ifCond .ne 19, 3) := by decide +kernel
theorem dX3_takesEnd_15 : decode cX3_takesEnd 15 = .ok (.aload_n 0, 1) := by decide +kernel
theorem dX3_takesEnd_16 : decode cX3_takesEnd 16 = .ok (.getfield 22, 3) := by decide +kernel
theorem dX3_takesEnd_19 : decode cX3_takesEnd 19 = .ok (.iconst (-1), 1) := by decide +kernel
theorem dX3_takesEnd_20 : decode cX3_takesEnd 20 = .ok (.if_icmp .ne 11, 3) := by decide +kernel
theorem dX3_takesEnd_23 : decode cX3_takesEnd 23 = .ok (.aload_n 0, 1) := by decide +kernel
theorem dX3_takesEnd_24 : decode cX3_takesEnd 24 = .ok (.aload_n 0, 1) := by decide +kernel
theorem dX3_takesEnd_25 : decode cX3_takesEnd 25 = .ok (.getfield 18, 3) := by decide +kernel
theorem dX3_takesEnd_28 : decode cX3_takesEnd 28 = .ok (.putfield 22, 3) := by decide +kernel
theorem dX3_takesEnd_31 : decode cX3_takesEnd 31 = .ok (.aload_n 0, 1) := by decide +kernel
theorem dX3_takesEnd_32 : decode cX3_takesEnd 32 = .ok (.dup, 1) := by decide +kernel
theorem dX3_takesEnd_33 : decode cX3_takesEnd 33 = .ok (.getfield 18, 3) := by decide +kernel
theorem dX3_takesEnd_36 : decode cX3_takesEnd 36 = .ok (.iconst 1, 1) := by decide +kernel
theorem dX3_takesEnd_37 : decode cX3_takesEnd 37 = .ok (.iadd, 1) := by decide +kernel
theorem dX3_takesEnd_38 : decode cX3_takesEnd 38 = .ok (.putfield 18, 3) := by decide +kernel
theorem dX3_takesEnd_41 : decode cX3_takesEnd 41 = .ok (.aload_n 0, 1) := by decide +kernel
theorem dX3_takesEnd_42 : decode cX3_takesEnd 42 = .ok (.iconst 0, 1) := by decide +kernel
theorem dX3_takesEnd_43 : decode cX3_takesEnd 43 = .ok (.putfield 25, 3) := by decide +kernel
theorem dX3_takesEnd_46 : decode cX3_takesEnd 46 = .ok (.iconst 1, 1) := by decide +kernel
theorem dX3_takesEnd_47 : decode cX3_takesEnd 47 = .ok (.ireturn, 1) := by decide +kernel
theorem dX3_takes_0 : decode cX3_takes 0 = .ok (.aload_n 0, 1) := by decide +kernel
theorem dX3_takes_1 : decode cX3_takes 1 = .ok (.getfield 25, 3) := by decide +kernel
theorem dX3_takes_4 : decode cX3_takes 4 = .ok (.lookupswitch 43 #[(0, 28), (1, 34)], 28) := by decide +kernel
theorem dX3_takes_32 : decode cX3_takes 32 = .ok (.aload_n 0, 1) := by decide +kernel
theorem dX3_takes_33 : decode cX3_takes 33 = .ok (.iload_n 1, 1) := by decide +kernel
theorem dX3_takes_34 : decode cX3_takes 34 = .ok (.invokevirtual 57, 3) := by decide +kernel
theorem dX3_takes_37 : decode cX3_takes 37 = .ok (.ireturn, 1) := by decide +kernel
theorem dX3_takes_38 : decode cX3_takes 38 = .ok (.aload_n 0, 1) := by decide +kernel
theorem dX3_takes_39 : decode cX3_takes 39 = .ok (.iload_n 1, 1) := by decide +kernel
theorem dX3_takes_40 : decode cX3_takes 40 = .ok (.bipush 48, 2) := by decide +kernel
theorem dX3_takes_42 : decode cX3_takes 42 = .ok (.isub, 1) := by decide +kernel
theorem dX3_takes_43 : decode cX3_takes 43 = .ok (.invokevirtual 60, 3) := by decide +kernel
theorem dX3_takes_46 : decode cX3_takes 46 = .ok (.ireturn, 1) := by decide +kernel
theorem dX3_takes_47 : decode cX3_takes 47 = .ok (.aload_n 0, 1) := by decide +kernel
theorem dX3_takes_48 : decode cX3_takes 48 = .ok (.iload_n 1, 1) := by decide +kernel
theorem dX3_takes_49 : decode cX3_takes 49 = .ok (.invokevirtual 63, 3) := by decide +kernel
theorem dX3_takes_52 : decode cX3_takes 52 = .ok (.ireturn, 1) := by decide +kernel
theorem dX3_read_0 : decode cX3_read 0 = .ok (.aload_n 0, 1) := by decide +kernel
theorem dX3_read_1 : decode cX3_read 1 = .ok (.getfield 12, 3) := by decide +kernel
theorem dX3_read_4 : decode cX3_read 4 = .ok (.aload_n 2, 1) := by decide +kernel
theorem dX3_read_5 : decode cX3_read 5 = .ok (.invokevirtual 40, 3) := by decide +kernel
theorem dX3_read_8 : decode cX3_read 8 = .ok (.aload_n 0, 1) := by decide +kernel
theorem dX3_read_9 : decode cX3_read 9 = .ok (.iconst 0, 1) := by decide +kernel
theorem dX3_read_10 : decode cX3_read 10 = .ok (.putfield 18, 3) := by decide +kernel
theorem dX3_read_13 : decode cX3_read 13 = .ok (.aload_n 0, 1) := by decide +kernel
theorem dX3_read_14 : decode cX3_read 14 = .ok (.iconst (-1), 1) := by decide +kernel
theorem dX3_read_15 : decode cX3_read 15 = .ok (.putfield 22, 3) := by decide +kernel
theorem dX3_read_18 : decode cX3_read 18 = .ok (.aload_n 0, 1) := by decide +kernel
theorem dX3_read_19 : decode cX3_read 19 = .ok (.iconst 0, 1) := by decide +kernel
theorem dX3_read_20 : decode cX3_read 20 = .ok (.putfield 25, 3) := by decide +kernel
theorem dX3_read_23 : decode cX3_read 23 = .ok (.iconst 0, 1) := by decide +kernel
theorem dX3_read_24 : decode cX3_read 24 = .ok (.istore_n 3, 1) := by decide +kernel
theorem dX3_read_25 : decode cX3_read 25 = .ok (.iload_n 3, 1) := by decide +kernel
theorem dX3_read_26 : decode cX3_read 26 = .ok (.aload_n 1, 1) := by decide +kernel
theorem dX3_read_27 : decode cX3_read 27 = .ok (.getfield 44, 3) := by decide +kernel
theorem dX3_read_30 : decode cX3_read 30 = .ok (.if_icmp .ge 34, 3) := by decide +kernel
theorem dX3_read_33 : decode cX3_read 33 = .ok (.aload_n 1, 1) := by decide +kernel
theorem dX3_read_34 : decode cX3_read 34 = .ok (.iload_n 3, 1) := by decide +kernel
theorem dX3_read_35 : decode cX3_read 35 = .ok (.invokevirtual 49, 3) := by decide +kernel
theorem dX3_read_38 : decode cX3_read 38 = .ok (.istore 4, 2) := by decide +kernel
theorem dX3_read_40 : decode cX3_read 40 = .ok (.iload 4, 2) := by decide +kernel
theorem dX3_read_42 : decode cX3_read 42 = .ok (.bipush 32, 2) := by decide +kernel
theorem dX3_read_44 : decode cX3_read 44 = .ok (.if_icmp .eq 14, 3) := by decide +kernel
theorem dX3_read_47 : decode cX3_read 47 = .ok (.aload_n 0, 1) := by decide +kernel
theorem dX3_read_48 : decode cX3_read 48 = .ok (.iload 4, 2) := by decide +kernel
theorem dX3_read_50 : decode cX3_read 50 = .ok (.invokevirtual 53, 3) := by decide +kernel
theorem dX3_read_53 : decode cX3_read 53 = .ok (.ifCond .ne 5, 3) := by decide +kernel
theorem dX3_read_56 : decode cX3_read 56 = .ok (.iload_n 3, 1) := by decide +kernel
theorem dX3_read_57 : decode cX3_read 57 = .ok (.ireturn, 1) := by decide +kernel
theorem dX3_read_58 : decode cX3_read 58 = .ok (.iinc 3 1, 3) := by decide +kernel
theorem dX3_read_61 : decode cX3_read 61 = .ok (.goto (-36), 3) := by decide +kernel
theorem dX3_read_64 : decode cX3_read 64 = .ok (.aload_n 0, 1) := by decide +kernel
theorem dX3_read_65 : decode cX3_read 65 = .ok (.getfield 18, 3) := by decide +kernel
theorem dX3_read_68 : decode cX3_read 68 = .ok (.ifCond .le 14, 3) := by decide +kernel
theorem dX3_read_71 : decode cX3_read 71 = .ok (.aload_n 0, 1) := by decide +kernel
theorem dX3_read_72 : decode cX3_read 72 = .ok (.getfield 25, 3) := by decide +kernel
theorem dX3_read_75 : decode cX3_read 75 = .ok (.ifCond .ne 7, 3) := by decide +kernel
theorem dX3_read_78 : decode cX3_read 78 = .ok (.iconst (-1), 1) := by decide +kernel
theorem dX3_read_79 : decode cX3_read 79 = .ok (.goto 7, 3) := by decide +kernel
theorem dX3_read_82 : decode cX3_read 82 = .ok (.aload_n 1, 1) := by decide +kernel
theorem dX3_read_83 : decode cX3_read 83 = .ok (.getfield 44, 3) := by decide +kernel
theorem dX3_read_86 : decode cX3_read 86 = .ok (.ireturn, 1) := by decide +kernel
theorem gc_X3_66 : GoodIn xtb (wsV RX3 66 yX3_isDue.cls yX3_isDue (xW yX3_isDue cX3_isDue 2 (some .boolean))) := x_good lkM_X3_66 wI_X3_isDue wS_X3_isDue wN_X3 wC_X3_isDue
theorem gc_X3_76 : GoodIn xtb (wsV RX3 76 yX4_start.cls yX4_start (xW yX4_start cX4_start 2 none)) := x_good lkM_X3_76 wI_X4_start wS_X4_start wN_X4 wC_X4_start
theorem gc_X3_80 : GoodIn xtb (va_wsS RX3 80 yX2_read (xW yX2_read cX2_read 7 (some .int))) := x_goodS lkM_X3_80 wT_X2_read wN_X2 wC_X2_read
theorem gc_X3_86 : GoodIn xtb (wsV RX3 86 yX4_adds.cls yX4_adds (xW yX4_adds cX4_adds 2 (some .boolean))) := x_good lkM_X3_86 wI_X4_adds wS_X4_adds wN_X4 wC_X4_adds
theorem gc_X3_89 : GoodIn xtb (wsV RX3 89 yX4_loses.cls yX4_loses (xW yX4_loses cX4_loses 3 (some .boolean))) := x_good lkM_X3_89 wI_X4_loses wS_X4_loses wN_X4 wC_X4_loses
theorem gc_X3_72 : GoodIn xtb (wsV RX3 72 yX3_obeys.cls yX3_obeys (xW yX3_obeys cX3_obeys 1 (some .boolean))) := x_good lkM_X3_72 wI_X3_obeys wS_X3_obeys wN_X3 wC_X3_obeys
theorem gc_X3_57 : GoodIn xtb (wsV RX3 57 yX3_takesLetter.cls yX3_takesLetter (xW yX3_takesLetter cX3_takesLetter 2 (some .boolean))) := x_good lkM_X3_57 wI_X3_takesLetter wS_X3_takesLetter wN_X3 wC_X3_takesLetter
theorem gc_X3_60 : GoodIn xtb (wsV RX3 60 yX3_takesFigure.cls yX3_takesFigure (xW yX3_takesFigure cX3_takesFigure 2 (some .boolean))) := x_good lkM_X3_60 wI_X3_takesFigure wS_X3_takesFigure wN_X3 wC_X3_takesFigure
theorem gc_X3_63 : GoodIn xtb (wsV RX3 63 yX3_takesEnd.cls yX3_takesEnd (xW yX3_takesEnd cX3_takesEnd 2 (some .boolean))) := x_good lkM_X3_63 wI_X3_takesEnd wS_X3_takesEnd wN_X3 wC_X3_takesEnd
theorem gc_X3_40 : GoodIn xtb (wsV RX3 40 yX4_copy.cls yX4_copy (xW yX4_copy cX4_copy 2 none)) := x_good lkM_X3_40 wI_X4_copy wS_X4_copy wN_X4 wC_X4_copy
theorem gc_X3_49 : GoodIn xtb (wsV RX3 49 yX6_at.cls yX6_at (xW yX6_at cX6_at 2 (some .int))) := x_good lkM_X3_49 wI_X6_at wS_X6_at wN_X6 wC_X6_at
theorem gc_X3_53 : GoodIn xtb (wsV RX3 53 yX3_takes.cls yX3_takes (xW yX3_takes cX3_takes 2 (some .boolean))) := x_good lkM_X3_53 wI_X3_takes wS_X3_takes wN_X3 wC_X3_takes
theorem ds_X3_takesLetter : xDs yX3_takesLetter 1 := by decide +kernel
theorem ds_X3_isDue : xDs yX3_isDue 1 := by decide +kernel
theorem ds_X3_takesFigure : xDs yX3_takesFigure 1 := by decide +kernel
theorem ds_X3_obeys : xDs yX3_obeys 0 := by decide +kernel
theorem ds_X3_takesEnd : xDs yX3_takesEnd 1 := by decide +kernel
theorem ds_X3_takes : xDs yX3_takes 1 := by decide +kernel
theorem ds_X3_read : xDs yX3_read 2 := by decide +kernel
noncomputable def f_X3_takesLetter (r_due : Int32) (r_letter : Int32) (r_value : Int32) (r_figures : Int32) (r_seen : Int32) (v1 : Int32) : Option (Int32 × Int32 × Int32 × Int32 × Int32 × Int32) := xb (v1 = (110 : Int32)) (some ((1 : Int32), v1, (0 : Int32), (0 : Int32), (0 : Int32), (1 : Int32))) (xb (v1 = (109 : Int32)) (some ((1 : Int32), v1, (0 : Int32), (0 : Int32), (0 : Int32), (1 : Int32))) (xb (v1 = (120 : Int32)) (some ((1 : Int32), v1, (0 : Int32), (0 : Int32), (0 : Int32), (1 : Int32))) (some ((1 : Int32), v1, (0 : Int32), (0 : Int32), (0 : Int32), (0 : Int32)))))
set_option maxHeartbeats 4000000 in
set_option maxRecDepth 100000 in
theorem c_X3_takesLetter (l : Launch) (dC : Nat → ClassId) (dI : Nat → Nat → Nat) (cI cZ cB cO : ClassId) (r_h : Nat) (r_p : Nat → Nat) (rt_p : Nat → Nat) (r_done : Int32) (r_stopped : Int32) (r_due : Int32) (r_letter : Int32) (r_value : Int32) (r_figures : Int32) (r_seen : Int32) (rt_n : Int32) (rt_count : Int32) (rt_generators : (Nat → Int32)) (v1 : Int32) (o : Int32 × Int32 × Int32 × Int32 × Int32 × Int32) (h : f_X3_takesLetter r_due r_letter r_value r_figures r_seen v1 = some o) (sz : Nat) : Met l yX3_takesLetter (xW yX3_takesLetter cX3_takesLetter 2 (some .boolean)) { frames := 0, cells := 0, slots := 0, locals := 0 } (xPre dC dI (xT cI cZ cB cO) [.ref r_h, .int v1] ((wR cI cZ cB cO r_h r_p r_done r_stopped r_due r_letter r_value r_figures r_seen) ++ (wS cI cZ cB cO (r_p 0) rt_p rt_n rt_count rt_generators)) sz) (xQi dC dI (xT cI cZ cB cO) o.2.2.2.2.2 ((wR cI cZ cB cO r_h r_p r_done r_stopped r_due r_letter r_value r_figures r_seen) ++ (wS cI cZ cB cO (r_p 0) rt_p rt_n rt_count rt_generators)) ((wR cI cZ cB cO r_h r_p r_done r_stopped o.1 o.2.1 o.2.2.1 o.2.2.2.1 o.2.2.2.2.1) ++ (wS cI cZ cB cO (r_p 0) rt_p rt_n rt_count rt_generators)) sz) 0 0 (va_A ((wR cI cZ cB cO r_h r_p r_done r_stopped r_due r_letter r_value r_figures r_seen) ++ (wS cI cZ cB cO (r_p 0) rt_p rt_n rt_count rt_generators)) sz) := by
  refine x_met (by decide) (Nat.le_of_ble_eq_true rfl) ?_
  intro p e s m args below meth c R Q A hR hsz hA hQ hin C hw ls hl
  have hx := C.1
  have hb := C.2.1
  have hown := C.2.2.2.1
  have htb := C.2.2.2.2.1
  have hl : lv_has ls 2 [(0, .ref r_h), (1, .int v1)] := hl
  refine lv_aload_n hx hb dX3_takesLetter_0 rfl (lv_at hl 0 rfl) ?_
  refine lv_iload_n hx hb dX3_takesLetter_1 rfl (lv_at hl 1 rfl) ?_
  refine x_put (ci := 2) C hw inX3 tyX3 tyX3_ok nmX3 rfl 4 (by decide) lkF_X3_28 rfl rfl 0 rfl rfl rfl (Nat.le_of_ble_eq_true rfl) dX3_takesLetter_2 (fun H locs hw => ?_)
  have hw : xWd (dC, dI) A s.heap H locs ((wR cI cZ cB cO r_h r_p r_done r_stopped r_due v1 r_value r_figures r_seen) ++ (wS cI cZ cB cO (r_p 0) rt_p rt_n rt_count rt_generators)) := hw
  refine lv_aload_n hx hb dX3_takesLetter_5 rfl (lv_at hl 0 rfl) ?_
  refine lv_iconst (v := (0 : Int32)) hx hb dX3_takesLetter_6 (by decide) ?_
  refine x_put (ci := 2) C hw inX3 tyX3 tyX3_ok nmX3 rfl 5 (by decide) lkF_X3_31 rfl rfl 0 rfl rfl rfl (Nat.le_of_ble_eq_true rfl) dX3_takesLetter_7 (fun H locs hw => ?_)
  have hw : xWd (dC, dI) A s.heap H locs ((wR cI cZ cB cO r_h r_p r_done r_stopped r_due v1 (0 : Int32) r_figures r_seen) ++ (wS cI cZ cB cO (r_p 0) rt_p rt_n rt_count rt_generators)) := hw
  refine lv_aload_n hx hb dX3_takesLetter_10 rfl (lv_at hl 0 rfl) ?_
  refine lv_iconst (v := (0 : Int32)) hx hb dX3_takesLetter_11 (by decide) ?_
  refine x_put (ci := 2) C hw inX3 tyX3 tyX3_ok nmX3 rfl 6 (by decide) lkF_X3_34 rfl rfl 0 rfl rfl rfl (Nat.le_of_ble_eq_true rfl) dX3_takesLetter_12 (fun H locs hw => ?_)
  have hw : xWd (dC, dI) A s.heap H locs ((wR cI cZ cB cO r_h r_p r_done r_stopped r_due v1 (0 : Int32) (0 : Int32) r_seen) ++ (wS cI cZ cB cO (r_p 0) rt_p rt_n rt_count rt_generators)) := hw
  refine lv_aload_n hx hb dX3_takesLetter_15 rfl (lv_at hl 0 rfl) ?_
  refine lv_iconst (v := (0 : Int32)) hx hb dX3_takesLetter_16 (by decide) ?_
  refine x_put (ci := 2) C hw inX3 tyX3 tyX3_ok nmX3 rfl 7 (by decide) lkF_X3_37 rfl rfl 0 rfl rfl rfl (Nat.le_of_ble_eq_true rfl) dX3_takesLetter_17 (fun H locs hw => ?_)
  have hw : xWd (dC, dI) A s.heap H locs ((wR cI cZ cB cO r_h r_p r_done r_stopped r_due v1 (0 : Int32) (0 : Int32) (0 : Int32)) ++ (wS cI cZ cB cO (r_p 0) rt_p rt_n rt_count rt_generators)) := hw
  refine lv_aload_n hx hb dX3_takesLetter_20 rfl (lv_at hl 0 rfl) ?_
  refine lv_iconst (v := (1 : Int32)) hx hb dX3_takesLetter_21 (by decide) ?_
  refine x_put (ci := 2) C hw inX3 tyX3 tyX3_ok nmX3 rfl 3 (by decide) lkF_X3_25 rfl rfl 0 rfl rfl rfl (Nat.le_of_ble_eq_true rfl) dX3_takesLetter_22 (fun H locs hw => ?_)
  have hw : xWd (dC, dI) A s.heap H locs ((wR cI cZ cB cO r_h r_p r_done r_stopped (1 : Int32) v1 (0 : Int32) (0 : Int32) (0 : Int32)) ++ (wS cI cZ cB cO (r_p 0) rt_p rt_n rt_count rt_generators)) := hw
  refine lv_iload_n hx hb dX3_takesLetter_25 rfl (lv_at hl 1 rfl) ?_
  refine lv_bipush (v := (110 : Int32)) hx hb dX3_takesLetter_26 (by decide) ?_
  refine lv_icmp_eq (tgt := 43) hx hb dX3_takesLetter_28 (by decide) (fun b1 => ?_) (fun b1 => ?_)
  · replace h := xb_tt b1 h
    refine lv_iconst (v := (1 : Int32)) hx hb dX3_takesLetter_43 (by decide) ?_
    refine lv_goto (tgt := 48) hx hb dX3_takesLetter_44 (by decide) ?_
    obtain rfl := Option.some.inj h
    exact x_retz C hQ hA hw (by decide) dX3_takesLetter_48
  · replace h := xb_ff b1 h
    refine lv_iload_n hx hb dX3_takesLetter_31 rfl (lv_at hl 1 rfl) ?_
    refine lv_bipush (v := (109 : Int32)) hx hb dX3_takesLetter_32 (by decide) ?_
    refine lv_icmp_eq (tgt := 43) hx hb dX3_takesLetter_34 (by decide) (fun b2 => ?_) (fun b2 => ?_)
    · replace h := xb_tt b2 h
      refine lv_iconst (v := (1 : Int32)) hx hb dX3_takesLetter_43 (by decide) ?_
      refine lv_goto (tgt := 48) hx hb dX3_takesLetter_44 (by decide) ?_
      obtain rfl := Option.some.inj h
      exact x_retz C hQ hA hw (by decide) dX3_takesLetter_48
    · replace h := xb_ff b2 h
      refine lv_iload_n hx hb dX3_takesLetter_37 rfl (lv_at hl 1 rfl) ?_
      refine lv_bipush (v := (120 : Int32)) hx hb dX3_takesLetter_38 (by decide) ?_
      refine lv_icmp_ne (tgt := 47) hx hb dX3_takesLetter_40 (by decide) (fun b3 => ?_) (fun b3 => ?_)
      · replace h := xb_ff b3 h
        refine lv_iconst (v := (0 : Int32)) hx hb dX3_takesLetter_47 (by decide) ?_
        obtain rfl := Option.some.inj h
        exact x_retz C hQ hA hw (by decide) dX3_takesLetter_48
      · replace h := xb_tt b3 h
        refine lv_iconst (v := (1 : Int32)) hx hb dX3_takesLetter_43 (by decide) ?_
        refine lv_goto (tgt := 48) hx hb dX3_takesLetter_44 (by decide) ?_
        obtain rfl := Option.some.inj h
        exact x_retz C hQ hA hw (by decide) dX3_takesLetter_48
noncomputable def f_X3_isDue (r_letter : Int32) (r_seen : Int32) (rt_n : Int32) (v1 : Int32) : Option (Int32) := xb (r_letter = (109 : Int32)) (xb (v1 < 0) (some (0 : Int32)) (xb (rt_n ≤ v1) (some (0 : Int32)) (xb (((r_seen >>> (v1 &&& 31)) &&& (1 : Int32)) = 0) (some (1 : Int32)) (some (0 : Int32))))) (xb (r_letter = (110 : Int32)) (xb (v1 < (1 : Int32)) (some (0 : Int32)) (xb ((8 : Int32) < v1) (some (0 : Int32)) (some (1 : Int32)))) (xb (v1 < 0) (some (0 : Int32)) (xb ((9 : Int32) < v1) (some (0 : Int32)) (some (1 : Int32)))))
set_option maxHeartbeats 4000000 in
set_option maxRecDepth 100000 in
theorem c_X3_isDue (l : Launch) (dC : Nat → ClassId) (dI : Nat → Nat → Nat) (cI cZ cB cO : ClassId) (r_h : Nat) (r_p : Nat → Nat) (rt_p : Nat → Nat) (r_done : Int32) (r_stopped : Int32) (r_due : Int32) (r_letter : Int32) (r_value : Int32) (r_figures : Int32) (r_seen : Int32) (rt_n : Int32) (rt_count : Int32) (rt_generators : (Nat → Int32)) (v1 : Int32) (o : Int32) (h : f_X3_isDue r_letter r_seen rt_n v1 = some o) (sz : Nat) : Met l yX3_isDue (xW yX3_isDue cX3_isDue 2 (some .boolean)) { frames := 0, cells := 0, slots := 0, locals := 0 } (xPre dC dI (xT cI cZ cB cO) [.ref r_h, .int v1] ((wR cI cZ cB cO r_h r_p r_done r_stopped r_due r_letter r_value r_figures r_seen) ++ (wS cI cZ cB cO (r_p 0) rt_p rt_n rt_count rt_generators)) sz) (xQi dC dI (xT cI cZ cB cO) o ((wR cI cZ cB cO r_h r_p r_done r_stopped r_due r_letter r_value r_figures r_seen) ++ (wS cI cZ cB cO (r_p 0) rt_p rt_n rt_count rt_generators)) ((wR cI cZ cB cO r_h r_p r_done r_stopped r_due r_letter r_value r_figures r_seen) ++ (wS cI cZ cB cO (r_p 0) rt_p rt_n rt_count rt_generators)) sz) 0 0 (va_A ((wR cI cZ cB cO r_h r_p r_done r_stopped r_due r_letter r_value r_figures r_seen) ++ (wS cI cZ cB cO (r_p 0) rt_p rt_n rt_count rt_generators)) sz) := by
  refine x_met (by decide) (Nat.le_of_ble_eq_true rfl) ?_
  intro p e s m args below meth c R Q A hR hsz hA hQ hin C hw ls hl
  have hx := C.1
  have hb := C.2.1
  have hown := C.2.2.2.1
  have htb := C.2.2.2.2.1
  have hl : lv_has ls 2 [(0, .ref r_h), (1, .int v1)] := hl
  refine lv_aload_n hx hb dX3_isDue_0 rfl (lv_at hl 0 rfl) ?_
  refine x_get (ci := 2) C hw inX3 rfl 4 (by decide) lkF_X3_28 rfl 0 rfl rfl dX3_isDue_1 ?_
  rcases Classical.em (r_letter = (109 : Int32)) with b1 | b1
  · replace h := xb_tt b1 h
    refine lv_lookup (off := 45) (tgt := 49) hx hb dX3_isDue_4 (by decide) (by rw [b1]; rfl) (by decide) ?_
    refine lv_iload_n hx hb dX3_isDue_49 rfl (lv_at hl 1 rfl) ?_
    refine lv_if_lt (tgt := 79) hx hb dX3_isDue_50 (by decide) (fun b3 => ?_) (fun b3 => ?_)
    · replace h := xb_tt b3 h
      refine lv_iconst (v := (0 : Int32)) hx hb dX3_isDue_79 (by decide) ?_
      obtain rfl := Option.some.inj h
      exact x_retz C hQ hA hw (by decide) dX3_isDue_80
    · replace h := xb_ff b3 h
      refine lv_iload_n hx hb dX3_isDue_53 rfl (lv_at hl 1 rfl) ?_
      refine lv_aload_n hx hb dX3_isDue_54 rfl (lv_at hl 0 rfl) ?_
      refine x_get (ci := 2) C hw inX3 rfl 0 (by decide) lkF_X3_12 rfl 0 rfl rfl dX3_isDue_55 ?_
      refine x_get (ci := 3) C hw inX4 rfl 0 (by decide) lkF_X3_69 rfl 1 rfl rfl dX3_isDue_58 ?_
      refine lv_icmp_ge (tgt := 79) hx hb dX3_isDue_61 (by decide) (fun b4 => ?_) (fun b4 => ?_)
      · replace h := xb_tt b4 h
        refine lv_iconst (v := (0 : Int32)) hx hb dX3_isDue_79 (by decide) ?_
        obtain rfl := Option.some.inj h
        exact x_retz C hQ hA hw (by decide) dX3_isDue_80
      · replace h := xb_ff b4 h
        refine lv_aload_n hx hb dX3_isDue_64 rfl (lv_at hl 0 rfl) ?_
        refine x_get (ci := 2) C hw inX3 rfl 7 (by decide) lkF_X3_37 rfl 0 rfl rfl dX3_isDue_65 ?_
        refine lv_iload_n hx hb dX3_isDue_68 rfl (lv_at hl 1 rfl) ?_
        refine lv_ishr hx hb dX3_isDue_69 ?_
        refine lv_iconst (v := (1 : Int32)) hx hb dX3_isDue_70 (by decide) ?_
        refine lv_iand hx hb dX3_isDue_71 ?_
        refine lv_if_ne (tgt := 79) hx hb dX3_isDue_72 (by decide) (fun b5 => ?_) (fun b5 => ?_)
        · replace h := xb_ff b5 h
          refine lv_iconst (v := (0 : Int32)) hx hb dX3_isDue_79 (by decide) ?_
          obtain rfl := Option.some.inj h
          exact x_retz C hQ hA hw (by decide) dX3_isDue_80
        · replace h := xb_tt b5 h
          refine lv_iconst (v := (1 : Int32)) hx hb dX3_isDue_75 (by decide) ?_
          refine lv_goto (tgt := 80) hx hb dX3_isDue_76 (by decide) ?_
          obtain rfl := Option.some.inj h
          exact x_retz C hQ hA hw (by decide) dX3_isDue_80
  · replace h := xb_ff b1 h
    rcases Classical.em (r_letter = (110 : Int32)) with b2 | b2
    · replace h := xb_tt b2 h
      refine lv_lookup (off := 28) (tgt := 32) hx hb dX3_isDue_4 (by decide) ((lv_osw b1 (by decide)).trans (by rw [b2]; rfl)) (by decide) ?_
      refine lv_iload_n hx hb dX3_isDue_32 rfl (lv_at hl 1 rfl) ?_
      refine lv_iconst (v := (1 : Int32)) hx hb dX3_isDue_33 (by decide) ?_
      refine lv_icmp_lt (tgt := 47) hx hb dX3_isDue_34 (by decide) (fun b6 => ?_) (fun b6 => ?_)
      · replace h := xb_tt b6 h
        refine lv_iconst (v := (0 : Int32)) hx hb dX3_isDue_47 (by decide) ?_
        obtain rfl := Option.some.inj h
        exact x_retz C hQ hA hw (by decide) dX3_isDue_48
      · replace h := xb_ff b6 h
        refine lv_iload_n hx hb dX3_isDue_37 rfl (lv_at hl 1 rfl) ?_
        refine lv_bipush (v := (8 : Int32)) hx hb dX3_isDue_38 (by decide) ?_
        refine lv_icmp_gt (tgt := 47) hx hb dX3_isDue_40 (by decide) (fun b7 => ?_) (fun b7 => ?_)
        · replace h := xb_tt b7 h
          refine lv_iconst (v := (0 : Int32)) hx hb dX3_isDue_47 (by decide) ?_
          obtain rfl := Option.some.inj h
          exact x_retz C hQ hA hw (by decide) dX3_isDue_48
        · replace h := xb_ff b7 h
          refine lv_iconst (v := (1 : Int32)) hx hb dX3_isDue_43 (by decide) ?_
          refine lv_goto (tgt := 48) hx hb dX3_isDue_44 (by decide) ?_
          obtain rfl := Option.some.inj h
          exact x_retz C hQ hA hw (by decide) dX3_isDue_48
    · replace h := xb_ff b2 h
      refine lv_lookup (off := 77) (tgt := 81) hx hb dX3_isDue_4 (by decide) ((lv_osw b1 (by decide)).trans ((lv_osw b2 (by decide)).trans (rfl))) (by decide) ?_
      refine lv_iload_n hx hb dX3_isDue_81 rfl (lv_at hl 1 rfl) ?_
      refine lv_if_lt (tgt := 95) hx hb dX3_isDue_82 (by decide) (fun b8 => ?_) (fun b8 => ?_)
      · replace h := xb_tt b8 h
        refine lv_iconst (v := (0 : Int32)) hx hb dX3_isDue_95 (by decide) ?_
        obtain rfl := Option.some.inj h
        exact x_retz C hQ hA hw (by decide) dX3_isDue_96
      · replace h := xb_ff b8 h
        refine lv_iload_n hx hb dX3_isDue_85 rfl (lv_at hl 1 rfl) ?_
        refine lv_bipush (v := (9 : Int32)) hx hb dX3_isDue_86 (by decide) ?_
        refine lv_icmp_gt (tgt := 95) hx hb dX3_isDue_88 (by decide) (fun b9 => ?_) (fun b9 => ?_)
        · replace h := xb_tt b9 h
          refine lv_iconst (v := (0 : Int32)) hx hb dX3_isDue_95 (by decide) ?_
          obtain rfl := Option.some.inj h
          exact x_retz C hQ hA hw (by decide) dX3_isDue_96
        · replace h := xb_ff b9 h
          refine lv_iconst (v := (1 : Int32)) hx hb dX3_isDue_91 (by decide) ?_
          refine lv_goto (tgt := 96) hx hb dX3_isDue_92 (by decide) ?_
          obtain rfl := Option.some.inj h
          exact x_retz C hQ hA hw (by decide) dX3_isDue_96
noncomputable def f_X3_takesFigure (r_due : Int32) (r_letter : Int32) (r_value : Int32) (r_figures : Int32) (r_seen : Int32) (rt_n : Int32) (v1 : Int32) : Option (Int32 × Int32 × Int32 × Int32 × Int32) := xn (f_X3_isDue r_letter r_seen rt_n v1) (fun (r_1 : Int32) => xb (r_1 = 0) (some (r_due, r_value, r_figures, r_seen, (0 : Int32))) (xb (r_letter = (109 : Int32)) (xb ((r_figures + (1 : Int32)) < rt_n) (some (r_due, (((10 : Int32) * r_value) + v1), (r_figures + (1 : Int32)), (r_seen ||| ((1 : Int32) <<< (v1 &&& 31))), (1 : Int32))) (some ((2 : Int32), (((10 : Int32) * r_value) + v1), (r_figures + (1 : Int32)), (r_seen ||| ((1 : Int32) <<< (v1 &&& 31))), (1 : Int32)))) (xb ((r_figures + (1 : Int32)) < (1 : Int32)) (some (r_due, (((10 : Int32) * r_value) + v1), (r_figures + (1 : Int32)), (r_seen ||| ((1 : Int32) <<< (v1 &&& 31))), (1 : Int32))) (some ((2 : Int32), (((10 : Int32) * r_value) + v1), (r_figures + (1 : Int32)), (r_seen ||| ((1 : Int32) <<< (v1 &&& 31))), (1 : Int32))))))
set_option maxHeartbeats 4000000 in
set_option maxRecDepth 100000 in
theorem c_X3_takesFigure (l : Launch) (dC : Nat → ClassId) (dI : Nat → Nat → Nat) (cI cZ cB cO : ClassId) (r_h : Nat) (r_p : Nat → Nat) (rt_p : Nat → Nat) (r_done : Int32) (r_stopped : Int32) (r_due : Int32) (r_letter : Int32) (r_value : Int32) (r_figures : Int32) (r_seen : Int32) (rt_n : Int32) (rt_count : Int32) (rt_generators : (Nat → Int32)) (v1 : Int32) (o : Int32 × Int32 × Int32 × Int32 × Int32) (h : f_X3_takesFigure r_due r_letter r_value r_figures r_seen rt_n v1 = some o) (sz : Nat) : Met l yX3_takesFigure (xW yX3_takesFigure cX3_takesFigure 2 (some .boolean)) { frames := 1, cells := 0, slots := 0, locals := 21 } (xPre dC dI (xT cI cZ cB cO) [.ref r_h, .int v1] ((wR cI cZ cB cO r_h r_p r_done r_stopped r_due r_letter r_value r_figures r_seen) ++ (wS cI cZ cB cO (r_p 0) rt_p rt_n rt_count rt_generators)) sz) (xQi dC dI (xT cI cZ cB cO) o.2.2.2.2 ((wR cI cZ cB cO r_h r_p r_done r_stopped r_due r_letter r_value r_figures r_seen) ++ (wS cI cZ cB cO (r_p 0) rt_p rt_n rt_count rt_generators)) ((wR cI cZ cB cO r_h r_p r_done r_stopped o.1 r_letter o.2.1 o.2.2.1 o.2.2.2.1) ++ (wS cI cZ cB cO (r_p 0) rt_p rt_n rt_count rt_generators)) sz) 0 0 (va_A ((wR cI cZ cB cO r_h r_p r_done r_stopped r_due r_letter r_value r_figures r_seen) ++ (wS cI cZ cB cO (r_p 0) rt_p rt_n rt_count rt_generators)) sz) := by
  refine x_met (by decide) (Nat.le_of_ble_eq_true rfl) ?_
  intro p e s m args below meth c R Q A hR hsz hA hQ hin C hw ls hl
  have hx := C.1
  have hb := C.2.1
  have hown := C.2.2.2.1
  have htb := C.2.2.2.2.1
  have hl : lv_has ls 2 [(0, .ref r_h), (1, .int v1)] := hl
  refine lv_aload_n hx hb dX3_takesFigure_0 rfl (lv_at hl 0 rfl) ?_
  refine lv_iload_n hx hb dX3_takesFigure_1 rfl (lv_at hl 1 rfl) ?_
  obtain ⟨r_1, q1, h⟩ := xn_i h
  refine x_callVi (As := [.int v1]) (rest := []) C hw gc_X3_66 ⟨rfl, rfl, ds_X3_isDue, (by rw [hR]; exact Nat.le_of_ble_eq_true rfl), (by rw [hR]; exact Nat.le_of_ble_eq_true rfl), Nat.zero_le _, Nat.zero_le _⟩ (c_X3_isDue l dC dI cI cZ cB cO r_h r_p rt_p r_done r_stopped r_due r_letter r_value r_figures r_seen rt_n rt_count rt_generators v1 _ q1 _) [0, 1, 2] [] (by decide) rfl rfl (by decide) (by decide) rfl rfl rfl hl.1 rfl (Nat.le_of_ble_eq_true rfl) dX3_takesFigure_2 (fun H locs hw => ?_)
  have hw : xWd (dC, dI) A s.heap H locs ((wR cI cZ cB cO r_h r_p r_done r_stopped r_due r_letter r_value r_figures r_seen) ++ (wS cI cZ cB cO (r_p 0) rt_p rt_n rt_count rt_generators)) := hw
  refine lv_if_ne (tgt := 10) hx hb dX3_takesFigure_5 (by decide) (fun b2 => ?_) (fun b2 => ?_)
  · replace h := xb_ff b2 h
    refine lv_aload_n hx hb dX3_takesFigure_10 rfl (lv_at hl 0 rfl) ?_
    refine lv_bipush (v := (10 : Int32)) hx hb dX3_takesFigure_11 (by decide) ?_
    refine lv_aload_n hx hb dX3_takesFigure_13 rfl (lv_at hl 0 rfl) ?_
    refine x_get (ci := 2) C hw inX3 rfl 5 (by decide) lkF_X3_31 rfl 0 rfl rfl dX3_takesFigure_14 ?_
    refine lv_imul hx hb dX3_takesFigure_17 ?_
    refine lv_iload_n hx hb dX3_takesFigure_18 rfl (lv_at hl 1 rfl) ?_
    refine lv_iadd hx hb dX3_takesFigure_19 ?_
    refine x_put (ci := 2) C hw inX3 tyX3 tyX3_ok nmX3 rfl 5 (by decide) lkF_X3_31 rfl rfl 0 rfl rfl rfl (Nat.le_of_ble_eq_true rfl) dX3_takesFigure_20 (fun H locs hw => ?_)
    have hw : xWd (dC, dI) A s.heap H locs ((wR cI cZ cB cO r_h r_p r_done r_stopped r_due r_letter (((10 : Int32) * r_value) + v1) r_figures r_seen) ++ (wS cI cZ cB cO (r_p 0) rt_p rt_n rt_count rt_generators)) := hw
    refine lv_aload_n hx hb dX3_takesFigure_23 rfl (lv_at hl 0 rfl) ?_
    refine lv_dup hx hb dX3_takesFigure_24 rfl ?_
    refine x_get (ci := 2) C hw inX3 rfl 7 (by decide) lkF_X3_37 rfl 0 rfl rfl dX3_takesFigure_25 ?_
    refine lv_iconst (v := (1 : Int32)) hx hb dX3_takesFigure_28 (by decide) ?_
    refine lv_iload_n hx hb dX3_takesFigure_29 rfl (lv_at hl 1 rfl) ?_
    refine lv_ishl hx hb dX3_takesFigure_30 ?_
    refine lv_ior hx hb dX3_takesFigure_31 ?_
    refine x_put (ci := 2) C hw inX3 tyX3 tyX3_ok nmX3 rfl 7 (by decide) lkF_X3_37 rfl rfl 0 rfl rfl rfl (Nat.le_of_ble_eq_true rfl) dX3_takesFigure_32 (fun H locs hw => ?_)
    have hw : xWd (dC, dI) A s.heap H locs ((wR cI cZ cB cO r_h r_p r_done r_stopped r_due r_letter (((10 : Int32) * r_value) + v1) r_figures (r_seen ||| ((1 : Int32) <<< (v1 &&& 31)))) ++ (wS cI cZ cB cO (r_p 0) rt_p rt_n rt_count rt_generators)) := hw
    refine lv_aload_n hx hb dX3_takesFigure_35 rfl (lv_at hl 0 rfl) ?_
    refine lv_dup hx hb dX3_takesFigure_36 rfl ?_
    refine x_get (ci := 2) C hw inX3 rfl 6 (by decide) lkF_X3_34 rfl 0 rfl rfl dX3_takesFigure_37 ?_
    refine lv_iconst (v := (1 : Int32)) hx hb dX3_takesFigure_40 (by decide) ?_
    refine lv_iadd hx hb dX3_takesFigure_41 ?_
    refine x_put (ci := 2) C hw inX3 tyX3 tyX3_ok nmX3 rfl 6 (by decide) lkF_X3_34 rfl rfl 0 rfl rfl rfl (Nat.le_of_ble_eq_true rfl) dX3_takesFigure_42 (fun H locs hw => ?_)
    have hw : xWd (dC, dI) A s.heap H locs ((wR cI cZ cB cO r_h r_p r_done r_stopped r_due r_letter (((10 : Int32) * r_value) + v1) (r_figures + (1 : Int32)) (r_seen ||| ((1 : Int32) <<< (v1 &&& 31)))) ++ (wS cI cZ cB cO (r_p 0) rt_p rt_n rt_count rt_generators)) := hw
    refine lv_aload_n hx hb dX3_takesFigure_45 rfl (lv_at hl 0 rfl) ?_
    refine x_get (ci := 2) C hw inX3 rfl 6 (by decide) lkF_X3_34 rfl 0 rfl rfl dX3_takesFigure_46 ?_
    refine lv_aload_n hx hb dX3_takesFigure_49 rfl (lv_at hl 0 rfl) ?_
    refine x_get (ci := 2) C hw inX3 rfl 4 (by decide) lkF_X3_28 rfl 0 rfl rfl dX3_takesFigure_50 ?_
    refine lv_bipush (v := (109 : Int32)) hx hb dX3_takesFigure_53 (by decide) ?_
    refine lv_icmp_ne (tgt := 68) hx hb dX3_takesFigure_55 (by decide) (fun b3 => ?_) (fun b3 => ?_)
    · replace h := xb_ff b3 h
      refine lv_iconst (v := (1 : Int32)) hx hb dX3_takesFigure_68 (by decide) ?_
      refine lv_icmp_lt (tgt := 77) hx hb dX3_takesFigure_69 (by decide) (fun b4 => ?_) (fun b4 => ?_)
      · replace h := xb_tt b4 h
        refine lv_iconst (v := (1 : Int32)) hx hb dX3_takesFigure_77 (by decide) ?_
        obtain rfl := Option.some.inj h
        exact x_retz C hQ hA hw (by decide) dX3_takesFigure_78
      · replace h := xb_ff b4 h
        refine lv_aload_n hx hb dX3_takesFigure_72 rfl (lv_at hl 0 rfl) ?_
        refine lv_iconst (v := (2 : Int32)) hx hb dX3_takesFigure_73 (by decide) ?_
        refine x_put (ci := 2) C hw inX3 tyX3 tyX3_ok nmX3 rfl 3 (by decide) lkF_X3_25 rfl rfl 0 rfl rfl rfl (Nat.le_of_ble_eq_true rfl) dX3_takesFigure_74 (fun H locs hw => ?_)
        have hw : xWd (dC, dI) A s.heap H locs ((wR cI cZ cB cO r_h r_p r_done r_stopped (2 : Int32) r_letter (((10 : Int32) * r_value) + v1) (r_figures + (1 : Int32)) (r_seen ||| ((1 : Int32) <<< (v1 &&& 31)))) ++ (wS cI cZ cB cO (r_p 0) rt_p rt_n rt_count rt_generators)) := hw
        refine lv_iconst (v := (1 : Int32)) hx hb dX3_takesFigure_77 (by decide) ?_
        obtain rfl := Option.some.inj h
        exact x_retz C hQ hA hw (by decide) dX3_takesFigure_78
    · replace h := xb_tt b3 h
      refine lv_aload_n hx hb dX3_takesFigure_58 rfl (lv_at hl 0 rfl) ?_
      refine x_get (ci := 2) C hw inX3 rfl 0 (by decide) lkF_X3_12 rfl 0 rfl rfl dX3_takesFigure_59 ?_
      refine x_get (ci := 3) C hw inX4 rfl 0 (by decide) lkF_X3_69 rfl 1 rfl rfl dX3_takesFigure_62 ?_
      refine lv_goto (tgt := 69) hx hb dX3_takesFigure_65 (by decide) ?_
      refine lv_icmp_lt (tgt := 77) hx hb dX3_takesFigure_69 (by decide) (fun b5 => ?_) (fun b5 => ?_)
      · replace h := xb_tt b5 h
        refine lv_iconst (v := (1 : Int32)) hx hb dX3_takesFigure_77 (by decide) ?_
        obtain rfl := Option.some.inj h
        exact x_retz C hQ hA hw (by decide) dX3_takesFigure_78
      · replace h := xb_ff b5 h
        refine lv_aload_n hx hb dX3_takesFigure_72 rfl (lv_at hl 0 rfl) ?_
        refine lv_iconst (v := (2 : Int32)) hx hb dX3_takesFigure_73 (by decide) ?_
        refine x_put (ci := 2) C hw inX3 tyX3 tyX3_ok nmX3 rfl 3 (by decide) lkF_X3_25 rfl rfl 0 rfl rfl rfl (Nat.le_of_ble_eq_true rfl) dX3_takesFigure_74 (fun H locs hw => ?_)
        have hw : xWd (dC, dI) A s.heap H locs ((wR cI cZ cB cO r_h r_p r_done r_stopped (2 : Int32) r_letter (((10 : Int32) * r_value) + v1) (r_figures + (1 : Int32)) (r_seen ||| ((1 : Int32) <<< (v1 &&& 31)))) ++ (wS cI cZ cB cO (r_p 0) rt_p rt_n rt_count rt_generators)) := hw
        refine lv_iconst (v := (1 : Int32)) hx hb dX3_takesFigure_77 (by decide) ?_
        obtain rfl := Option.some.inj h
        exact x_retz C hQ hA hw (by decide) dX3_takesFigure_78
  · replace h := xb_tt b2 h
    refine lv_iconst (v := (0 : Int32)) hx hb dX3_takesFigure_8 (by decide) ?_
    obtain rfl := Option.some.inj h
    exact x_retz C hQ hA hw (by decide) dX3_takesFigure_9
noncomputable def f_X3_obeys (r_letter : Int32) (r_value : Int32) (rt_n : Int32) (rt_count : Int32) (rt_generators : (Nat → Int32)) : Option (Int32 × Int32 × (Nat → Int32) × Int32) := xb (r_letter = (109 : Int32)) (xn (f_X2_read r_value rt_n) (fun (r_1 : Int32) => xn (f_X4_adds rt_count rt_generators r_1) (fun (z : Int32 × (Nat → Int32) × Int32) => match z with | (rt_count_2, rt_generators_3, r_4) => xk (r_4 = 0 ∨ r_4 = 1) (some (rt_n, rt_count_2, rt_generators_3, r_4))))) (xb (r_letter = (110 : Int32)) (xn (f_X4_start rt_n rt_count r_value) (fun (z : Int32 × Int32) => match z with | (rt_n_5, rt_count_6) => some (rt_n_5, rt_count_6, rt_generators, (1 : Int32)))) (xn (f_X4_loses rt_count rt_generators r_value) (fun (z : Int32 × (Nat → Int32) × Int32) => match z with | (rt_count_7, rt_generators_8, r_9) => xk (r_9 = 0 ∨ r_9 = 1) (some (rt_n, rt_count_7, rt_generators_8, r_9)))))
set_option maxHeartbeats 4000000 in
set_option maxRecDepth 100000 in
theorem c_X3_obeys (l : Launch) (dC : Nat → ClassId) (dI : Nat → Nat → Nat) (cI cZ cB cO : ClassId) (r_h : Nat) (r_p : Nat → Nat) (rt_p : Nat → Nat) (r_done : Int32) (r_stopped : Int32) (r_due : Int32) (r_letter : Int32) (r_value : Int32) (r_figures : Int32) (r_seen : Int32) (rt_n : Int32) (rt_count : Int32) (rt_generators : (Nat → Int32)) (o : Int32 × Int32 × (Nat → Int32) × Int32) (h : f_X3_obeys r_letter r_value rt_n rt_count rt_generators = some o) (sz : Nat) : Met l yX3_obeys (xW yX3_obeys cX3_obeys 1 (some .boolean)) { frames := 1, cells := 0, slots := 0, locals := 26 } (xPre dC dI (xT cI cZ cB cO) [.ref r_h] ((wR cI cZ cB cO r_h r_p r_done r_stopped r_due r_letter r_value r_figures r_seen) ++ (wS cI cZ cB cO (r_p 0) rt_p rt_n rt_count rt_generators)) sz) (xQi dC dI (xT cI cZ cB cO) o.2.2.2 ((wR cI cZ cB cO r_h r_p r_done r_stopped r_due r_letter r_value r_figures r_seen) ++ (wS cI cZ cB cO (r_p 0) rt_p rt_n rt_count rt_generators)) ((wR cI cZ cB cO r_h r_p r_done r_stopped r_due r_letter r_value r_figures r_seen) ++ (wS cI cZ cB cO (r_p 0) rt_p o.1 o.2.1 o.2.2.1)) sz) 0 0 (va_A ((wR cI cZ cB cO r_h r_p r_done r_stopped r_due r_letter r_value r_figures r_seen) ++ (wS cI cZ cB cO (r_p 0) rt_p rt_n rt_count rt_generators)) sz) := by
  refine x_met (by decide) (Nat.le_of_ble_eq_true rfl) ?_
  intro p e s m args below meth c R Q A hR hsz hA hQ hin C hw ls hl
  have hx := C.1
  have hb := C.2.1
  have hown := C.2.2.2.1
  have htb := C.2.2.2.2.1
  have hl : lv_has ls 1 [(0, .ref r_h)] := hl
  refine lv_aload_n hx hb dX3_obeys_0 rfl (lv_at hl 0 rfl) ?_
  refine x_get (ci := 2) C hw inX3 rfl 4 (by decide) lkF_X3_28 rfl 0 rfl rfl dX3_obeys_1 ?_
  rcases Classical.em (r_letter = (109 : Int32)) with b1 | b1
  · replace h := xb_tt b1 h
    refine lv_lookup (off := 41) (tgt := 45) hx hb dX3_obeys_4 (by decide) (by rw [b1]; rfl) (by decide) ?_
    refine lv_aload_n hx hb dX3_obeys_45 rfl (lv_at hl 0 rfl) ?_
    refine x_get (ci := 2) C hw inX3 rfl 0 (by decide) lkF_X3_12 rfl 0 rfl rfl dX3_obeys_46 ?_
    refine lv_aload_n hx hb dX3_obeys_49 rfl (lv_at hl 0 rfl) ?_
    refine x_get (ci := 2) C hw inX3 rfl 5 (by decide) lkF_X3_31 rfl 0 rfl rfl dX3_obeys_50 ?_
    refine lv_aload_n hx hb dX3_obeys_53 rfl (lv_at hl 0 rfl) ?_
    refine x_get (ci := 2) C hw inX3 rfl 0 (by decide) lkF_X3_12 rfl 0 rfl rfl dX3_obeys_54 ?_
    refine x_get (ci := 3) C hw inX4 rfl 0 (by decide) lkF_X3_69 rfl 1 rfl rfl dX3_obeys_57 ?_
    obtain ⟨r_1, q3, h⟩ := xn_i h
    refine x_callSi (As := [.int r_value, .int rt_n]) (rest := [.ref (r_p 0)]) C hw gc_X3_80 ds_X2_read (by rw [hR]; exact Nat.le_of_ble_eq_true rfl) (by rw [hR]; exact Nat.le_of_ble_eq_true rfl) rfl rfl (Nat.zero_le _) (Nat.zero_le _) (c_X2_read l dC dI cI cZ cB cO r_value rt_n _ q3 _) [] [0, 1, 2] (by decide) rfl rfl (by decide) (by decide) rfl hl.1 rfl (Nat.le_of_ble_eq_true rfl) dX3_obeys_60 (fun H locs hw => ?_)
    have hw : xWd (dC, dI) A s.heap H locs ((wR cI cZ cB cO r_h r_p r_done r_stopped r_due r_letter r_value r_figures r_seen) ++ (wS cI cZ cB cO (r_p 0) rt_p rt_n rt_count rt_generators)) := hw.sub [0, 1, 2] (by decide) rfl
    obtain ⟨⟨rt_count_2, rt_generators_3, r_4⟩, q4, h⟩ := xn_i h
    refine x_callVi (As := [.int r_1]) (rest := []) C hw gc_X3_86 ⟨rfl, rfl, ds_X4_adds, (by rw [hR]; exact Nat.le_of_ble_eq_true rfl), (by rw [hR]; exact Nat.le_of_ble_eq_true rfl), Nat.zero_le _, Nat.zero_le _⟩ (c_X4_adds l dC dI cI cZ cB cO (r_p 0) rt_p rt_n rt_count rt_generators r_1 _ q4 _) [1, 2] [0] (by decide) rfl rfl (by decide) (by decide) rfl rfl rfl hl.1 rfl (Nat.le_of_ble_eq_true rfl) dX3_obeys_63 (fun H locs hw => ?_)
    have hw : xWd (dC, dI) A s.heap H locs ((wR cI cZ cB cO r_h r_p r_done r_stopped r_due r_letter r_value r_figures r_seen) ++ (wS cI cZ cB cO (r_p 0) rt_p rt_n rt_count_2 rt_generators_3)) := hw
    obtain ⟨hz01, h⟩ := xk_i h
    obtain rfl := Option.some.inj h
    exact x_retz C hQ hA hw hz01 dX3_obeys_66
  · replace h := xb_ff b1 h
    rcases Classical.em (r_letter = (110 : Int32)) with b2 | b2
    · replace h := xb_tt b2 h
      refine lv_lookup (off := 28) (tgt := 32) hx hb dX3_obeys_4 (by decide) ((lv_osw b1 (by decide)).trans (by rw [b2]; rfl)) (by decide) ?_
      refine lv_aload_n hx hb dX3_obeys_32 rfl (lv_at hl 0 rfl) ?_
      refine x_get (ci := 2) C hw inX3 rfl 0 (by decide) lkF_X3_12 rfl 0 rfl rfl dX3_obeys_33 ?_
      refine lv_aload_n hx hb dX3_obeys_36 rfl (lv_at hl 0 rfl) ?_
      refine x_get (ci := 2) C hw inX3 rfl 5 (by decide) lkF_X3_31 rfl 0 rfl rfl dX3_obeys_37 ?_
      obtain ⟨⟨rt_n_5, rt_count_6⟩, q5, h⟩ := xn_i h
      refine x_callVv (As := [.int r_value]) (rest := []) C hw gc_X3_76 ⟨rfl, rfl, ds_X4_start, (by rw [hR]; exact Nat.le_of_ble_eq_true rfl), (by rw [hR]; exact Nat.le_of_ble_eq_true rfl), Nat.zero_le _, Nat.zero_le _⟩ (c_X4_start l dC dI cI cZ cB cO (r_p 0) rt_p rt_n rt_count rt_generators r_value _ q5 _) [1, 2] [0] (by decide) rfl rfl (by decide) (by decide) rfl rfl rfl hl.1 rfl (Nat.le_of_ble_eq_true rfl) dX3_obeys_40 (fun H locs hw => ?_)
      have hw : xWd (dC, dI) A s.heap H locs ((wR cI cZ cB cO r_h r_p r_done r_stopped r_due r_letter r_value r_figures r_seen) ++ (wS cI cZ cB cO (r_p 0) rt_p rt_n_5 rt_count_6 rt_generators)) := hw
      refine lv_iconst (v := (1 : Int32)) hx hb dX3_obeys_43 (by decide) ?_
      obtain rfl := Option.some.inj h
      exact x_retz C hQ hA hw (by decide) dX3_obeys_44
    · replace h := xb_ff b2 h
      refine lv_lookup (off := 63) (tgt := 67) hx hb dX3_obeys_4 (by decide) ((lv_osw b1 (by decide)).trans ((lv_osw b2 (by decide)).trans (rfl))) (by decide) ?_
      refine lv_aload_n hx hb dX3_obeys_67 rfl (lv_at hl 0 rfl) ?_
      refine x_get (ci := 2) C hw inX3 rfl 0 (by decide) lkF_X3_12 rfl 0 rfl rfl dX3_obeys_68 ?_
      refine lv_aload_n hx hb dX3_obeys_71 rfl (lv_at hl 0 rfl) ?_
      refine x_get (ci := 2) C hw inX3 rfl 5 (by decide) lkF_X3_31 rfl 0 rfl rfl dX3_obeys_72 ?_
      obtain ⟨⟨rt_count_7, rt_generators_8, r_9⟩, q6, h⟩ := xn_i h
      refine x_callVi (As := [.int r_value]) (rest := []) C hw gc_X3_89 ⟨rfl, rfl, ds_X4_loses, (by rw [hR]; exact Nat.le_of_ble_eq_true rfl), (by rw [hR]; exact Nat.le_of_ble_eq_true rfl), Nat.zero_le _, Nat.zero_le _⟩ (c_X4_loses l dC dI cI cZ cB cO (r_p 0) rt_p rt_n rt_count rt_generators r_value _ q6 _) [1, 2] [0] (by decide) rfl rfl (by decide) (by decide) rfl rfl rfl hl.1 rfl (Nat.le_of_ble_eq_true rfl) dX3_obeys_75 (fun H locs hw => ?_)
      have hw : xWd (dC, dI) A s.heap H locs ((wR cI cZ cB cO r_h r_p r_done r_stopped r_due r_letter r_value r_figures r_seen) ++ (wS cI cZ cB cO (r_p 0) rt_p rt_n rt_count_7 rt_generators_8)) := hw
      obtain ⟨hz01, h⟩ := xk_i h
      obtain rfl := Option.some.inj h
      exact x_retz C hQ hA hw hz01 dX3_obeys_78
noncomputable def f_X3_takesEnd (r_done : Int32) (r_stopped : Int32) (r_due : Int32) (r_letter : Int32) (r_value : Int32) (rt_n : Int32) (rt_count : Int32) (rt_generators : (Nat → Int32)) (v1 : Int32) : Option (Int32 × Int32 × Int32 × Int32 × Int32 × (Nat → Int32) × Int32) := xb (v1 = (59 : Int32)) (xn (f_X3_obeys r_letter r_value rt_n rt_count rt_generators) (fun (z : Int32 × Int32 × (Nat → Int32) × Int32) => match z with | (rt_n_1, rt_count_2, rt_generators_3, r_4) => xn (xb (r_4 = 0) (xb (r_stopped = (-1 : Int32)) (some (r_done)) (some (r_stopped))) (some (r_stopped))) (fun (r_stopped_5 : Int32) => some ((r_done + (1 : Int32)), r_stopped_5, (0 : Int32), rt_n_1, rt_count_2, rt_generators_3, (1 : Int32))))) (some (r_done, r_stopped, r_due, rt_n, rt_count, rt_generators, (0 : Int32)))
set_option maxHeartbeats 4000000 in
set_option maxRecDepth 100000 in
theorem c_X3_takesEnd (l : Launch) (dC : Nat → ClassId) (dI : Nat → Nat → Nat) (cI cZ cB cO : ClassId) (r_h : Nat) (r_p : Nat → Nat) (rt_p : Nat → Nat) (r_done : Int32) (r_stopped : Int32) (r_due : Int32) (r_letter : Int32) (r_value : Int32) (r_figures : Int32) (r_seen : Int32) (rt_n : Int32) (rt_count : Int32) (rt_generators : (Nat → Int32)) (v1 : Int32) (o : Int32 × Int32 × Int32 × Int32 × Int32 × (Nat → Int32) × Int32) (h : f_X3_takesEnd r_done r_stopped r_due r_letter r_value rt_n rt_count rt_generators v1 = some o) (sz : Nat) : Met l yX3_takesEnd (xW yX3_takesEnd cX3_takesEnd 2 (some .boolean)) { frames := 2, cells := 0, slots := 0, locals := 46 } (xPre dC dI (xT cI cZ cB cO) [.ref r_h, .int v1] ((wR cI cZ cB cO r_h r_p r_done r_stopped r_due r_letter r_value r_figures r_seen) ++ (wS cI cZ cB cO (r_p 0) rt_p rt_n rt_count rt_generators)) sz) (xQi dC dI (xT cI cZ cB cO) o.2.2.2.2.2.2 ((wR cI cZ cB cO r_h r_p r_done r_stopped r_due r_letter r_value r_figures r_seen) ++ (wS cI cZ cB cO (r_p 0) rt_p rt_n rt_count rt_generators)) ((wR cI cZ cB cO r_h r_p o.1 o.2.1 o.2.2.1 r_letter r_value r_figures r_seen) ++ (wS cI cZ cB cO (r_p 0) rt_p o.2.2.2.1 o.2.2.2.2.1 o.2.2.2.2.2.1)) sz) 0 0 (va_A ((wR cI cZ cB cO r_h r_p r_done r_stopped r_due r_letter r_value r_figures r_seen) ++ (wS cI cZ cB cO (r_p 0) rt_p rt_n rt_count rt_generators)) sz) := by
  refine x_met (by decide) (Nat.le_of_ble_eq_true rfl) ?_
  intro p e s m args below meth c R Q A hR hsz hA hQ hin C hw ls hl
  have hx := C.1
  have hb := C.2.1
  have hown := C.2.2.2.1
  have htb := C.2.2.2.2.1
  have hl : lv_has ls 2 [(0, .ref r_h), (1, .int v1)] := hl
  refine lv_iload_n hx hb dX3_takesEnd_0 rfl (lv_at hl 1 rfl) ?_
  refine lv_bipush (v := (59 : Int32)) hx hb dX3_takesEnd_1 (by decide) ?_
  refine lv_icmp_eq (tgt := 8) hx hb dX3_takesEnd_3 (by decide) (fun b1 => ?_) (fun b1 => ?_)
  · replace h := xb_tt b1 h
    refine lv_aload_n hx hb dX3_takesEnd_8 rfl (lv_at hl 0 rfl) ?_
    obtain ⟨⟨rt_n_1, rt_count_2, rt_generators_3, r_4⟩, q2, h⟩ := xn_i h
    refine x_callVi (As := []) (rest := []) C hw gc_X3_72 ⟨rfl, rfl, ds_X3_obeys, (by rw [hR]; exact Nat.le_of_ble_eq_true rfl), (by rw [hR]; exact Nat.le_of_ble_eq_true rfl), Nat.zero_le _, Nat.zero_le _⟩ (c_X3_obeys l dC dI cI cZ cB cO r_h r_p rt_p r_done r_stopped r_due r_letter r_value r_figures r_seen rt_n rt_count rt_generators _ q2 _) [0, 1, 2] [] (by decide) rfl rfl (by decide) (by decide) rfl rfl rfl hl.1 rfl (Nat.le_of_ble_eq_true rfl) dX3_takesEnd_9 (fun H locs hw => ?_)
    have hw : xWd (dC, dI) A s.heap H locs ((wR cI cZ cB cO r_h r_p r_done r_stopped r_due r_letter r_value r_figures r_seen) ++ (wS cI cZ cB cO (r_p 0) rt_p rt_n_1 rt_count_2 rt_generators_3)) := hw
    obtain ⟨z, hj, h⟩ := xn_i h
    have k : ∀ (H : Heap) (locs : List Loc) (ls : Array Slot), xWd (dC, dI) A s.heap H locs ((wR cI cZ cB cO r_h r_p r_done z r_due r_letter r_value r_figures r_seen) ++ (wS cI cZ cB cO (r_p 0) rt_p rt_n_1 rt_count_2 rt_generators_3)) → lv_has ls 2 [(0, .ref r_h)] → W p l e R s m args below meth c H locs 0 0 Q (F0 m 31 ls []) := by
      obtain ⟨r_stopped_5, hz⟩ : ∃ q, q = z := ⟨z, rfl⟩
      subst hz
      intro H locs ls hw hl
      refine lv_aload_n hx hb dX3_takesEnd_31 rfl (lv_at hl 0 rfl) ?_
      refine lv_dup hx hb dX3_takesEnd_32 rfl ?_
      refine x_get (ci := 2) C hw inX3 rfl 1 (by decide) lkF_X3_18 rfl 0 rfl rfl dX3_takesEnd_33 ?_
      refine lv_iconst (v := (1 : Int32)) hx hb dX3_takesEnd_36 (by decide) ?_
      refine lv_iadd hx hb dX3_takesEnd_37 ?_
      refine x_put (ci := 2) C hw inX3 tyX3 tyX3_ok nmX3 rfl 1 (by decide) lkF_X3_18 rfl rfl 0 rfl rfl rfl (Nat.le_of_ble_eq_true rfl) dX3_takesEnd_38 (fun H locs hw => ?_)
      have hw : xWd (dC, dI) A s.heap H locs ((wR cI cZ cB cO r_h r_p (r_done + (1 : Int32)) r_stopped_5 r_due r_letter r_value r_figures r_seen) ++ (wS cI cZ cB cO (r_p 0) rt_p rt_n_1 rt_count_2 rt_generators_3)) := hw
      refine lv_aload_n hx hb dX3_takesEnd_41 rfl (lv_at hl 0 rfl) ?_
      refine lv_iconst (v := (0 : Int32)) hx hb dX3_takesEnd_42 (by decide) ?_
      refine x_put (ci := 2) C hw inX3 tyX3 tyX3_ok nmX3 rfl 3 (by decide) lkF_X3_25 rfl rfl 0 rfl rfl rfl (Nat.le_of_ble_eq_true rfl) dX3_takesEnd_43 (fun H locs hw => ?_)
      have hw : xWd (dC, dI) A s.heap H locs ((wR cI cZ cB cO r_h r_p (r_done + (1 : Int32)) r_stopped_5 (0 : Int32) r_letter r_value r_figures r_seen) ++ (wS cI cZ cB cO (r_p 0) rt_p rt_n_1 rt_count_2 rt_generators_3)) := hw
      refine lv_iconst (v := (1 : Int32)) hx hb dX3_takesEnd_46 (by decide) ?_
      obtain rfl := Option.some.inj h
      exact x_retz C hQ hA hw (by decide) dX3_takesEnd_47
    clear h
    have h := hj
    clear hj
    refine lv_if_ne (tgt := 31) hx hb dX3_takesEnd_12 (by decide) (fun b3 => ?_) (fun b3 => ?_)
    · replace h := xb_ff b3 h
      obtain rfl := Option.some.inj h
      exact k _ _ _ hw (lv_sub hl [0] rfl)
    · replace h := xb_tt b3 h
      refine lv_aload_n hx hb dX3_takesEnd_15 rfl (lv_at hl 0 rfl) ?_
      refine x_get (ci := 2) C hw inX3 rfl 2 (by decide) lkF_X3_22 rfl 0 rfl rfl dX3_takesEnd_16 ?_
      refine lv_iconst (v := (-1 : Int32)) hx hb dX3_takesEnd_19 (by decide) ?_
      refine lv_icmp_ne (tgt := 31) hx hb dX3_takesEnd_20 (by decide) (fun b4 => ?_) (fun b4 => ?_)
      · replace h := xb_ff b4 h
        obtain rfl := Option.some.inj h
        exact k _ _ _ hw (lv_sub hl [0] rfl)
      · replace h := xb_tt b4 h
        refine lv_aload_n hx hb dX3_takesEnd_23 rfl (lv_at hl 0 rfl) ?_
        refine lv_aload_n hx hb dX3_takesEnd_24 rfl (lv_at hl 0 rfl) ?_
        refine x_get (ci := 2) C hw inX3 rfl 1 (by decide) lkF_X3_18 rfl 0 rfl rfl dX3_takesEnd_25 ?_
        refine x_put (ci := 2) C hw inX3 tyX3 tyX3_ok nmX3 rfl 2 (by decide) lkF_X3_22 rfl rfl 0 rfl rfl rfl (Nat.le_of_ble_eq_true rfl) dX3_takesEnd_28 (fun H locs hw => ?_)
        have hw : xWd (dC, dI) A s.heap H locs ((wR cI cZ cB cO r_h r_p r_done r_done r_due r_letter r_value r_figures r_seen) ++ (wS cI cZ cB cO (r_p 0) rt_p rt_n_1 rt_count_2 rt_generators_3)) := hw
        obtain rfl := Option.some.inj h
        exact k _ _ _ hw (lv_sub hl [0] rfl)
  · replace h := xb_ff b1 h
    refine lv_iconst (v := (0 : Int32)) hx hb dX3_takesEnd_6 (by decide) ?_
    obtain rfl := Option.some.inj h
    exact x_retz C hQ hA hw (by decide) dX3_takesEnd_7
noncomputable def f_X3_takes (r_done : Int32) (r_stopped : Int32) (r_due : Int32) (r_letter : Int32) (r_value : Int32) (r_figures : Int32) (r_seen : Int32) (rt_n : Int32) (rt_count : Int32) (rt_generators : (Nat → Int32)) (v1 : Int32) : Option (Int32 × Int32 × Int32 × Int32 × Int32 × Int32 × Int32 × Int32 × Int32 × (Nat → Int32) × Int32) := xb (r_due = (0 : Int32)) (xn (f_X3_takesLetter r_due r_letter r_value r_figures r_seen v1) (fun (z : Int32 × Int32 × Int32 × Int32 × Int32 × Int32) => match z with | (r_due_1, r_letter_2, r_value_3, r_figures_4, r_seen_5, r_6) => xk (r_6 = 0 ∨ r_6 = 1) (some (r_done, r_stopped, r_due_1, r_letter_2, r_value_3, r_figures_4, r_seen_5, rt_n, rt_count, rt_generators, r_6)))) (xb (r_due = (1 : Int32)) (xn (f_X3_takesFigure r_due r_letter r_value r_figures r_seen rt_n (v1 - (48 : Int32))) (fun (z : Int32 × Int32 × Int32 × Int32 × Int32) => match z with | (r_due_7, r_value_8, r_figures_9, r_seen_10, r_11) => xk (r_11 = 0 ∨ r_11 = 1) (some (r_done, r_stopped, r_due_7, r_letter, r_value_8, r_figures_9, r_seen_10, rt_n, rt_count, rt_generators, r_11)))) (xn (f_X3_takesEnd r_done r_stopped r_due r_letter r_value rt_n rt_count rt_generators v1) (fun (z : Int32 × Int32 × Int32 × Int32 × Int32 × (Nat → Int32) × Int32) => match z with | (r_done_12, r_stopped_13, r_due_14, rt_n_15, rt_count_16, rt_generators_17, r_18) => xk (r_18 = 0 ∨ r_18 = 1) (some (r_done_12, r_stopped_13, r_due_14, r_letter, r_value, r_figures, r_seen, rt_n_15, rt_count_16, rt_generators_17, r_18)))))
set_option maxHeartbeats 4000000 in
set_option maxRecDepth 100000 in
theorem c_X3_takes (l : Launch) (dC : Nat → ClassId) (dI : Nat → Nat → Nat) (cI cZ cB cO : ClassId) (r_h : Nat) (r_p : Nat → Nat) (rt_p : Nat → Nat) (r_done : Int32) (r_stopped : Int32) (r_due : Int32) (r_letter : Int32) (r_value : Int32) (r_figures : Int32) (r_seen : Int32) (rt_n : Int32) (rt_count : Int32) (rt_generators : (Nat → Int32)) (v1 : Int32) (o : Int32 × Int32 × Int32 × Int32 × Int32 × Int32 × Int32 × Int32 × Int32 × (Nat → Int32) × Int32) (h : f_X3_takes r_done r_stopped r_due r_letter r_value r_figures r_seen rt_n rt_count rt_generators v1 = some o) (sz : Nat) : Met l yX3_takes (xW yX3_takes cX3_takes 2 (some .boolean)) { frames := 3, cells := 0, slots := 0, locals := 67 } (xPre dC dI (xT cI cZ cB cO) [.ref r_h, .int v1] ((wR cI cZ cB cO r_h r_p r_done r_stopped r_due r_letter r_value r_figures r_seen) ++ (wS cI cZ cB cO (r_p 0) rt_p rt_n rt_count rt_generators)) sz) (xQi dC dI (xT cI cZ cB cO) o.2.2.2.2.2.2.2.2.2.2 ((wR cI cZ cB cO r_h r_p r_done r_stopped r_due r_letter r_value r_figures r_seen) ++ (wS cI cZ cB cO (r_p 0) rt_p rt_n rt_count rt_generators)) ((wR cI cZ cB cO r_h r_p o.1 o.2.1 o.2.2.1 o.2.2.2.1 o.2.2.2.2.1 o.2.2.2.2.2.1 o.2.2.2.2.2.2.1) ++ (wS cI cZ cB cO (r_p 0) rt_p o.2.2.2.2.2.2.2.1 o.2.2.2.2.2.2.2.2.1 o.2.2.2.2.2.2.2.2.2.1)) sz) 0 0 (va_A ((wR cI cZ cB cO r_h r_p r_done r_stopped r_due r_letter r_value r_figures r_seen) ++ (wS cI cZ cB cO (r_p 0) rt_p rt_n rt_count rt_generators)) sz) := by
  refine x_met (by decide) (Nat.le_of_ble_eq_true rfl) ?_
  intro p e s m args below meth c R Q A hR hsz hA hQ hin C hw ls hl
  have hx := C.1
  have hb := C.2.1
  have hown := C.2.2.2.1
  have htb := C.2.2.2.2.1
  have hl : lv_has ls 2 [(0, .ref r_h), (1, .int v1)] := hl
  refine lv_aload_n hx hb dX3_takes_0 rfl (lv_at hl 0 rfl) ?_
  refine x_get (ci := 2) C hw inX3 rfl 3 (by decide) lkF_X3_25 rfl 0 rfl rfl dX3_takes_1 ?_
  rcases Classical.em (r_due = (0 : Int32)) with b1 | b1
  · replace h := xb_tt b1 h
    refine lv_lookup (off := 28) (tgt := 32) hx hb dX3_takes_4 (by decide) (by rw [b1]; rfl) (by decide) ?_
    refine lv_aload_n hx hb dX3_takes_32 rfl (lv_at hl 0 rfl) ?_
    refine lv_iload_n hx hb dX3_takes_33 rfl (lv_at hl 1 rfl) ?_
    obtain ⟨⟨r_due_1, r_letter_2, r_value_3, r_figures_4, r_seen_5, r_6⟩, q3, h⟩ := xn_i h
    refine x_callVi (As := [.int v1]) (rest := []) C hw gc_X3_57 ⟨rfl, rfl, ds_X3_takesLetter, (by rw [hR]; exact Nat.le_of_ble_eq_true rfl), (by rw [hR]; exact Nat.le_of_ble_eq_true rfl), Nat.zero_le _, Nat.zero_le _⟩ (c_X3_takesLetter l dC dI cI cZ cB cO r_h r_p rt_p r_done r_stopped r_due r_letter r_value r_figures r_seen rt_n rt_count rt_generators v1 _ q3 _) [0, 1, 2] [] (by decide) rfl rfl (by decide) (by decide) rfl rfl rfl hl.1 rfl (Nat.le_of_ble_eq_true rfl) dX3_takes_34 (fun H locs hw => ?_)
    have hw : xWd (dC, dI) A s.heap H locs ((wR cI cZ cB cO r_h r_p r_done r_stopped r_due_1 r_letter_2 r_value_3 r_figures_4 r_seen_5) ++ (wS cI cZ cB cO (r_p 0) rt_p rt_n rt_count rt_generators)) := hw
    obtain ⟨hz01, h⟩ := xk_i h
    obtain rfl := Option.some.inj h
    exact x_retz C hQ hA hw hz01 dX3_takes_37
  · replace h := xb_ff b1 h
    rcases Classical.em (r_due = (1 : Int32)) with b2 | b2
    · replace h := xb_tt b2 h
      refine lv_lookup (off := 34) (tgt := 38) hx hb dX3_takes_4 (by decide) ((lv_osw b1 (by decide)).trans (by rw [b2]; rfl)) (by decide) ?_
      refine lv_aload_n hx hb dX3_takes_38 rfl (lv_at hl 0 rfl) ?_
      refine lv_iload_n hx hb dX3_takes_39 rfl (lv_at hl 1 rfl) ?_
      refine lv_bipush (v := (48 : Int32)) hx hb dX3_takes_40 (by decide) ?_
      refine lv_isub hx hb dX3_takes_42 ?_
      obtain ⟨⟨r_due_7, r_value_8, r_figures_9, r_seen_10, r_11⟩, q4, h⟩ := xn_i h
      refine x_callVi (As := [.int (v1 - (48 : Int32))]) (rest := []) C hw gc_X3_60 ⟨rfl, rfl, ds_X3_takesFigure, (by rw [hR]; exact Nat.le_of_ble_eq_true rfl), (by rw [hR]; exact Nat.le_of_ble_eq_true rfl), Nat.zero_le _, Nat.zero_le _⟩ (c_X3_takesFigure l dC dI cI cZ cB cO r_h r_p rt_p r_done r_stopped r_due r_letter r_value r_figures r_seen rt_n rt_count rt_generators (v1 - (48 : Int32)) _ q4 _) [0, 1, 2] [] (by decide) rfl rfl (by decide) (by decide) rfl rfl rfl hl.1 rfl (Nat.le_of_ble_eq_true rfl) dX3_takes_43 (fun H locs hw => ?_)
      have hw : xWd (dC, dI) A s.heap H locs ((wR cI cZ cB cO r_h r_p r_done r_stopped r_due_7 r_letter r_value_8 r_figures_9 r_seen_10) ++ (wS cI cZ cB cO (r_p 0) rt_p rt_n rt_count rt_generators)) := hw
      obtain ⟨hz01, h⟩ := xk_i h
      obtain rfl := Option.some.inj h
      exact x_retz C hQ hA hw hz01 dX3_takes_46
    · replace h := xb_ff b2 h
      refine lv_lookup (off := 43) (tgt := 47) hx hb dX3_takes_4 (by decide) ((lv_osw b1 (by decide)).trans ((lv_osw b2 (by decide)).trans (rfl))) (by decide) ?_
      refine lv_aload_n hx hb dX3_takes_47 rfl (lv_at hl 0 rfl) ?_
      refine lv_iload_n hx hb dX3_takes_48 rfl (lv_at hl 1 rfl) ?_
      obtain ⟨⟨r_done_12, r_stopped_13, r_due_14, rt_n_15, rt_count_16, rt_generators_17, r_18⟩, q5, h⟩ := xn_i h
      refine x_callVi (As := [.int v1]) (rest := []) C hw gc_X3_63 ⟨rfl, rfl, ds_X3_takesEnd, (by rw [hR]; exact Nat.le_of_ble_eq_true rfl), (by rw [hR]; exact Nat.le_of_ble_eq_true rfl), Nat.zero_le _, Nat.zero_le _⟩ (c_X3_takesEnd l dC dI cI cZ cB cO r_h r_p rt_p r_done r_stopped r_due r_letter r_value r_figures r_seen rt_n rt_count rt_generators v1 _ q5 _) [0, 1, 2] [] (by decide) rfl rfl (by decide) (by decide) rfl rfl rfl hl.1 rfl (Nat.le_of_ble_eq_true rfl) dX3_takes_49 (fun H locs hw => ?_)
      have hw : xWd (dC, dI) A s.heap H locs ((wR cI cZ cB cO r_h r_p r_done_12 r_stopped_13 r_due_14 r_letter r_value r_figures r_seen) ++ (wS cI cZ cB cO (r_p 0) rt_p rt_n_15 rt_count_16 rt_generators_17)) := hw
      obtain ⟨hz01, h⟩ := xk_i h
      obtain rfl := Option.some.inj h
      exact x_retz C hQ hA hw hz01 dX3_takes_52
noncomputable def f_X3_read_L1 (t_length : Int32) (t_bytes : (Nat → Int32)) (z : Int32 × Int32 × Int32 × Int32 × Int32 × Int32 × Int32 × Int32 × Int32 × (Nat → Int32) × Int32) : Option ((Int32 × Int32 × Int32 × Int32 × Int32 × Int32 × Int32 × Int32 × Int32 × (Nat → Int32) × Int32) ⊕ ((Int32 × Int32 × Int32 × Int32 × Int32 × Int32 × Int32 × Int32 × Int32 × (Nat → Int32)) ⊕ (Int32 × Int32 × Int32 × Int32 × Int32 × Int32 × Int32 × Int32 × Int32 × (Nat → Int32) × Int32))) := match z with
  | (r_done_4, r_stopped_5, r_due_6, r_letter_7, r_value_8, r_figures_9, r_seen_10, rt_n_11, rt_count_12, rt_generators_13, v3_14) => xb (t_length ≤ v3_14) (some (.inr (.inl (r_done_4, r_stopped_5, r_due_6, r_letter_7, r_value_8, r_figures_9, r_seen_10, rt_n_11, rt_count_12, rt_generators_13)))) (xn (f_X6_at t_length t_bytes v3_14) (fun (r_25 : Int32) => xb (r_25 = (32 : Int32)) (some (.inl (r_done_4, r_stopped_5, r_due_6, r_letter_7, r_value_8, r_figures_9, r_seen_10, rt_n_11, rt_count_12, rt_generators_13, (v3_14 + (1 : Int32))))) (xn (f_X3_takes r_done_4 r_stopped_5 r_due_6 r_letter_7 r_value_8 r_figures_9 r_seen_10 rt_n_11 rt_count_12 rt_generators_13 r_25) (fun (z : Int32 × Int32 × Int32 × Int32 × Int32 × Int32 × Int32 × Int32 × Int32 × (Nat → Int32) × Int32) => match z with | (r_done_26, r_stopped_27, r_due_28, r_letter_29, r_value_30, r_figures_31, r_seen_32, rt_n_33, rt_count_34, rt_generators_35, r_36) => xb (r_36 = 0) (some (.inr (.inr (r_done_26, r_stopped_27, r_due_28, r_letter_29, r_value_30, r_figures_31, r_seen_32, rt_n_33, rt_count_34, rt_generators_35, v3_14)))) (some (.inl (r_done_26, r_stopped_27, r_due_28, r_letter_29, r_value_30, r_figures_31, r_seen_32, rt_n_33, rt_count_34, rt_generators_35, (v3_14 + (1 : Int32)))))))))
noncomputable def f_X3_read (r_done : Int32) (r_stopped : Int32) (r_due : Int32) (r_letter : Int32) (r_value : Int32) (r_figures : Int32) (r_seen : Int32) (rt_n : Int32) (rt_count : Int32) (rt_generators : (Nat → Int32)) (t_length : Int32) (t_bytes : (Nat → Int32)) (f_n : Int32) (f_count : Int32) (f_generators : (Nat → Int32)) : Option (Int32 × Int32 × Int32 × Int32 × Int32 × Int32 × Int32 × Int32 × Int32 × (Nat → Int32) × Int32) := xn (f_X4_copy rt_n rt_count rt_generators f_n f_count f_generators) (fun (z : Int32 × Int32 × (Nat → Int32)) => match z with | (rt_n_1, rt_count_2, rt_generators_3) => xn (xL (f_X3_read_L1 t_length t_bytes) ((0 : Int32), (-1 : Int32), (0 : Int32), r_letter, r_value, r_figures, r_seen, rt_n_1, rt_count_2, rt_generators_3, (0 : Int32))) (fun (x : (Int32 × Int32 × Int32 × Int32 × Int32 × Int32 × Int32 × Int32 × Int32 × (Nat → Int32)) ⊕ (Int32 × Int32 × Int32 × Int32 × Int32 × Int32 × Int32 × Int32 × Int32 × (Nat → Int32) × Int32)) => match x with | .inl z => (fun (z : Int32 × Int32 × Int32 × Int32 × Int32 × Int32 × Int32 × Int32 × Int32 × (Nat → Int32)) => match z with | (r_done_15, r_stopped_16, r_due_17, r_letter_18, r_value_19, r_figures_20, r_seen_21, rt_n_22, rt_count_23, rt_generators_24) => xb (r_done_15 ≤ 0) (some (r_done_15, r_stopped_16, r_due_17, r_letter_18, r_value_19, r_figures_20, r_seen_21, rt_n_22, rt_count_23, rt_generators_24, t_length)) (xb (r_due_17 = 0) (some (r_done_15, r_stopped_16, r_due_17, r_letter_18, r_value_19, r_figures_20, r_seen_21, rt_n_22, rt_count_23, rt_generators_24, (-1 : Int32))) (some (r_done_15, r_stopped_16, r_due_17, r_letter_18, r_value_19, r_figures_20, r_seen_21, rt_n_22, rt_count_23, rt_generators_24, t_length)))) z | .inr z => some z))
set_option maxHeartbeats 4000000 in
set_option maxRecDepth 100000 in
theorem c_X3_read (l : Launch) (dC : Nat → ClassId) (dI : Nat → Nat → Nat) (cI cZ cB cO : ClassId) (r_h : Nat) (r_p : Nat → Nat) (rt_p : Nat → Nat) (t_h : Nat) (t_p : Nat → Nat) (f_h : Nat) (f_p : Nat → Nat) (r_done : Int32) (r_stopped : Int32) (r_due : Int32) (r_letter : Int32) (r_value : Int32) (r_figures : Int32) (r_seen : Int32) (rt_n : Int32) (rt_count : Int32) (rt_generators : (Nat → Int32)) (t_length : Int32) (t_bytes : (Nat → Int32)) (f_n : Int32) (f_count : Int32) (f_generators : (Nat → Int32)) (o : Int32 × Int32 × Int32 × Int32 × Int32 × Int32 × Int32 × Int32 × Int32 × (Nat → Int32) × Int32) (h : f_X3_read r_done r_stopped r_due r_letter r_value r_figures r_seen rt_n rt_count rt_generators t_length t_bytes f_n f_count f_generators = some o) (sz : Nat) : Met l yX3_read (xW yX3_read cX3_read 5 (some .int)) { frames := 4, cells := 0, slots := 0, locals := 88 } (xPre dC dI (xT cI cZ cB cO) [.ref r_h, .ref t_h, .ref f_h] ((wR cI cZ cB cO r_h r_p r_done r_stopped r_due r_letter r_value r_figures r_seen) ++ ((wS cI cZ cB cO (r_p 0) rt_p rt_n rt_count rt_generators) ++ ((wT cI cZ cB cO t_h t_p t_length t_bytes) ++ (wS cI cZ cB cO f_h f_p f_n f_count f_generators)))) sz) (xQi dC dI (xT cI cZ cB cO) o.2.2.2.2.2.2.2.2.2.2 ((wR cI cZ cB cO r_h r_p r_done r_stopped r_due r_letter r_value r_figures r_seen) ++ ((wS cI cZ cB cO (r_p 0) rt_p rt_n rt_count rt_generators) ++ ((wT cI cZ cB cO t_h t_p t_length t_bytes) ++ (wS cI cZ cB cO f_h f_p f_n f_count f_generators)))) ((wR cI cZ cB cO r_h r_p o.1 o.2.1 o.2.2.1 o.2.2.2.1 o.2.2.2.2.1 o.2.2.2.2.2.1 o.2.2.2.2.2.2.1) ++ ((wS cI cZ cB cO (r_p 0) rt_p o.2.2.2.2.2.2.2.1 o.2.2.2.2.2.2.2.2.1 o.2.2.2.2.2.2.2.2.2.1) ++ ((wT cI cZ cB cO t_h t_p t_length t_bytes) ++ (wS cI cZ cB cO f_h f_p f_n f_count f_generators)))) sz) 0 0 (va_A ((wR cI cZ cB cO r_h r_p r_done r_stopped r_due r_letter r_value r_figures r_seen) ++ ((wS cI cZ cB cO (r_p 0) rt_p rt_n rt_count rt_generators) ++ ((wT cI cZ cB cO t_h t_p t_length t_bytes) ++ (wS cI cZ cB cO f_h f_p f_n f_count f_generators)))) sz) := by
  refine x_met (by decide) (Nat.le_of_ble_eq_true rfl) ?_
  intro p e s m args below meth c R Q A hR hsz hA hQ hin C hw ls hl
  have hx := C.1
  have hb := C.2.1
  have hown := C.2.2.2.1
  have htb := C.2.2.2.2.1
  have hl : lv_has ls 5 [(0, .ref r_h), (1, .ref t_h), (2, .ref f_h)] := hl
  refine lv_aload_n hx hb dX3_read_0 rfl (lv_at hl 0 rfl) ?_
  refine x_get (ci := 2) C hw inX3 rfl 0 (by decide) lkF_X3_12 rfl 0 rfl rfl dX3_read_1 ?_
  refine lv_aload_n hx hb dX3_read_4 rfl (lv_at hl 2 rfl) ?_
  obtain ⟨⟨rt_n_1, rt_count_2, rt_generators_3⟩, q1, h⟩ := xn_i h
  refine x_callVv (As := [.ref f_h]) (rest := []) C hw gc_X3_40 ⟨rfl, rfl, ds_X4_copy, (by rw [hR]; exact Nat.le_of_ble_eq_true rfl), (by rw [hR]; exact Nat.le_of_ble_eq_true rfl), Nat.zero_le _, Nat.zero_le _⟩ (c_X4_copy l dC dI cI cZ cB cO (r_p 0) rt_p f_h f_p rt_n rt_count rt_generators f_n f_count f_generators _ q1 _) [1, 2, 5, 6] [0, 3, 4] (by decide) rfl rfl (by decide) (by decide) rfl rfl rfl hl.1 rfl (Nat.le_of_ble_eq_true rfl) dX3_read_5 (fun H locs hw => ?_)
  have hw : xWd (dC, dI) A s.heap H locs ((wR cI cZ cB cO r_h r_p r_done r_stopped r_due r_letter r_value r_figures r_seen) ++ ((wS cI cZ cB cO (r_p 0) rt_p rt_n_1 rt_count_2 rt_generators_3) ++ ((wT cI cZ cB cO t_h t_p t_length t_bytes) ++ (wS cI cZ cB cO f_h f_p f_n f_count f_generators)))) := hw.sub [0, 3, 4, 1, 2, 5, 6] (by decide) rfl
  refine lv_aload_n hx hb dX3_read_8 rfl (lv_at hl 0 rfl) ?_
  refine lv_iconst (v := (0 : Int32)) hx hb dX3_read_9 (by decide) ?_
  refine x_put (ci := 2) C hw inX3 tyX3 tyX3_ok nmX3 rfl 1 (by decide) lkF_X3_18 rfl rfl 0 rfl rfl rfl (Nat.le_of_ble_eq_true rfl) dX3_read_10 (fun H locs hw => ?_)
  have hw : xWd (dC, dI) A s.heap H locs ((wR cI cZ cB cO r_h r_p (0 : Int32) r_stopped r_due r_letter r_value r_figures r_seen) ++ ((wS cI cZ cB cO (r_p 0) rt_p rt_n_1 rt_count_2 rt_generators_3) ++ ((wT cI cZ cB cO t_h t_p t_length t_bytes) ++ (wS cI cZ cB cO f_h f_p f_n f_count f_generators)))) := hw
  refine lv_aload_n hx hb dX3_read_13 rfl (lv_at hl 0 rfl) ?_
  refine lv_iconst (v := (-1 : Int32)) hx hb dX3_read_14 (by decide) ?_
  refine x_put (ci := 2) C hw inX3 tyX3 tyX3_ok nmX3 rfl 2 (by decide) lkF_X3_22 rfl rfl 0 rfl rfl rfl (Nat.le_of_ble_eq_true rfl) dX3_read_15 (fun H locs hw => ?_)
  have hw : xWd (dC, dI) A s.heap H locs ((wR cI cZ cB cO r_h r_p (0 : Int32) (-1 : Int32) r_due r_letter r_value r_figures r_seen) ++ ((wS cI cZ cB cO (r_p 0) rt_p rt_n_1 rt_count_2 rt_generators_3) ++ ((wT cI cZ cB cO t_h t_p t_length t_bytes) ++ (wS cI cZ cB cO f_h f_p f_n f_count f_generators)))) := hw
  refine lv_aload_n hx hb dX3_read_18 rfl (lv_at hl 0 rfl) ?_
  refine lv_iconst (v := (0 : Int32)) hx hb dX3_read_19 (by decide) ?_
  refine x_put (ci := 2) C hw inX3 tyX3 tyX3_ok nmX3 rfl 3 (by decide) lkF_X3_25 rfl rfl 0 rfl rfl rfl (Nat.le_of_ble_eq_true rfl) dX3_read_20 (fun H locs hw => ?_)
  have hw : xWd (dC, dI) A s.heap H locs ((wR cI cZ cB cO r_h r_p (0 : Int32) (-1 : Int32) (0 : Int32) r_letter r_value r_figures r_seen) ++ ((wS cI cZ cB cO (r_p 0) rt_p rt_n_1 rt_count_2 rt_generators_3) ++ ((wT cI cZ cB cO t_h t_p t_length t_bytes) ++ (wS cI cZ cB cO f_h f_p f_n f_count f_generators)))) := hw
  refine lv_iconst (v := (0 : Int32)) hx hb dX3_read_23 (by decide) ?_
  refine lv_istore_n (lv' := [(3, .int (0 : Int32)), (0, .ref r_h), (1, .ref t_h), (2, .ref f_h)]) hx hb dX3_read_24 rfl hl (by decide) rfl (fun ls hl => ?_)
  obtain ⟨z, hr, h⟩ := xn_i h
  refine xL_w (fun (z : Int32 × Int32 × Int32 × Int32 × Int32 × Int32 × Int32 × Int32 × Int32 × (Nat → Int32) × Int32) => ∀ (H : Heap) (locs : List Loc) (ls : Array Slot), xWd (dC, dI) A s.heap H locs ((wR cI cZ cB cO r_h r_p z.1 z.2.1 z.2.2.1 z.2.2.2.1 z.2.2.2.2.1 z.2.2.2.2.2.1 z.2.2.2.2.2.2.1) ++ ((wS cI cZ cB cO (r_p 0) rt_p z.2.2.2.2.2.2.2.1 z.2.2.2.2.2.2.2.2.1 z.2.2.2.2.2.2.2.2.2.1) ++ ((wT cI cZ cB cO t_h t_p t_length t_bytes) ++ (wS cI cZ cB cO f_h f_p f_n f_count f_generators)))) → lv_has ls 5 [(0, .ref r_h), (1, .ref t_h), (3, .int z.2.2.2.2.2.2.2.2.2.2)] → W p l e R s m args below meth c H locs 0 0 Q (F0 m 25 ls [])) (Sum.elim (fun (z : Int32 × Int32 × Int32 × Int32 × Int32 × Int32 × Int32 × Int32 × Int32 × (Nat → Int32)) => ∀ (H : Heap) (locs : List Loc) (ls : Array Slot), xWd (dC, dI) A s.heap H locs ((wR cI cZ cB cO r_h r_p z.1 z.2.1 z.2.2.1 z.2.2.2.1 z.2.2.2.2.1 z.2.2.2.2.2.1 z.2.2.2.2.2.2.1) ++ ((wS cI cZ cB cO (r_p 0) rt_p z.2.2.2.2.2.2.2.1 z.2.2.2.2.2.2.2.2.1 z.2.2.2.2.2.2.2.2.2) ++ ((wT cI cZ cB cO t_h t_p t_length t_bytes) ++ (wS cI cZ cB cO f_h f_p f_n f_count f_generators)))) → lv_has ls 5 [(0, .ref r_h), (1, .ref t_h)] → W p l e R s m args below meth c H locs 0 0 Q (F0 m 64 ls [])) (fun (z : Int32 × Int32 × Int32 × Int32 × Int32 × Int32 × Int32 × Int32 × Int32 × (Nat → Int32) × Int32) => ∀ (H : Heap) (locs : List Loc), xWd (dC, dI) A s.heap H locs ((wR cI cZ cB cO r_h r_p z.1 z.2.1 z.2.2.1 z.2.2.2.1 z.2.2.2.2.1 z.2.2.2.2.2.1 z.2.2.2.2.2.2.1) ++ ((wS cI cZ cB cO (r_p 0) rt_p z.2.2.2.2.2.2.2.1 z.2.2.2.2.2.2.2.2.1 z.2.2.2.2.2.2.2.2.2.1) ++ ((wT cI cZ cB cO t_h t_p t_length t_bytes) ++ (wS cI cZ cB cO f_h f_p f_n f_count f_generators)))) → ∀ (pc : Nat) (ls : Array Slot), decode cX3_read pc = .ok (.ireturn, 1) → W p l e R s m args below meth c H locs 0 0 Q (F0 m pc ls [.int z.2.2.2.2.2.2.2.2.2.2]))) ?_ hr ?_ _ _ _ hw (lv_sub hl [1, 2, 0] rfl)
  · rintro ⟨r_done_4, r_stopped_5, r_due_6, r_letter_7, r_value_8, r_figures_9, r_seen_10, rt_n_11, rt_count_12, rt_generators_13, v3_14⟩ o h k H locs ls hw hl
    have hw : xWd (dC, dI) A s.heap H locs ((wR cI cZ cB cO r_h r_p r_done_4 r_stopped_5 r_due_6 r_letter_7 r_value_8 r_figures_9 r_seen_10) ++ ((wS cI cZ cB cO (r_p 0) rt_p rt_n_11 rt_count_12 rt_generators_13) ++ ((wT cI cZ cB cO t_h t_p t_length t_bytes) ++ (wS cI cZ cB cO f_h f_p f_n f_count f_generators)))) := hw
    have hl : lv_has ls 5 [(0, .ref r_h), (1, .ref t_h), (3, .int v3_14)] := hl
    refine lv_iload_n hx hb dX3_read_25 rfl (lv_at hl 2 rfl) ?_
    refine lv_aload_n hx hb dX3_read_26 rfl (lv_at hl 1 rfl) ?_
    refine x_get (ci := 5) C hw inX6 rfl 0 (by decide) lkF_X3_44 rfl 3 rfl rfl dX3_read_27 ?_
    refine lv_icmp_ge (tgt := 64) hx hb dX3_read_30 (by decide) (fun b2 => ?_) (fun b2 => ?_)
    · replace h := xb_tt b2 h
      obtain rfl := Option.some.inj h
      exact k _ _ _ hw (lv_sub hl [0, 1] rfl)
    · replace h := xb_ff b2 h
      refine lv_aload_n hx hb dX3_read_33 rfl (lv_at hl 1 rfl) ?_
      refine lv_iload_n hx hb dX3_read_34 rfl (lv_at hl 2 rfl) ?_
      obtain ⟨r_25, q3, h⟩ := xn_i h
      refine x_callVi (As := [.int v3_14]) (rest := []) C hw gc_X3_49 ⟨rfl, rfl, ds_X6_at, (by rw [hR]; exact Nat.le_of_ble_eq_true rfl), (by rw [hR]; exact Nat.le_of_ble_eq_true rfl), Nat.zero_le _, Nat.zero_le _⟩ (c_X6_at l dC dI cI cZ cB cO t_h t_p t_length t_bytes v3_14 _ q3 _) [3, 4] [0, 1, 2, 5, 6] (by decide) rfl rfl (by decide) (by decide) rfl rfl rfl hl.1 rfl (Nat.le_of_ble_eq_true rfl) dX3_read_35 (fun H locs hw => ?_)
      have hw : xWd (dC, dI) A s.heap H locs ((wR cI cZ cB cO r_h r_p r_done_4 r_stopped_5 r_due_6 r_letter_7 r_value_8 r_figures_9 r_seen_10) ++ ((wS cI cZ cB cO (r_p 0) rt_p rt_n_11 rt_count_12 rt_generators_13) ++ ((wT cI cZ cB cO t_h t_p t_length t_bytes) ++ (wS cI cZ cB cO f_h f_p f_n f_count f_generators)))) := hw.sub [0, 1, 2, 5, 6, 3, 4] (by decide) rfl
      refine lv_istore (lv' := [(4, .int r_25), (0, .ref r_h), (1, .ref t_h), (3, .int v3_14)]) hx hb dX3_read_38 hl (by decide) rfl (fun ls hl => ?_)
      refine lv_iload hx hb dX3_read_40 (lv_at hl 0 rfl) ?_
      refine lv_bipush (v := (32 : Int32)) hx hb dX3_read_42 (by decide) ?_
      refine lv_icmp_eq (tgt := 58) hx hb dX3_read_44 (by decide) (fun b4 => ?_) (fun b4 => ?_)
      · replace h := xb_tt b4 h
        refine lv_iinc (v := (v3_14 + (1 : Int32))) (lv' := [(3, .int (v3_14 + (1 : Int32))), (4, .int r_25), (0, .ref r_h), (1, .ref t_h)]) hx hb dX3_read_58 hl (k := 3) rfl (congrArg (fun q => v3_14 + q) (by decide)) (by decide) rfl (fun ls hl => ?_)
        refine lv_goto (tgt := 25) hx hb dX3_read_61 (by decide) ?_
        obtain rfl := Option.some.inj h
        exact k _ _ _ hw (lv_sub hl [2, 3, 0] rfl)
      · replace h := xb_ff b4 h
        refine lv_aload_n hx hb dX3_read_47 rfl (lv_at hl 1 rfl) ?_
        refine lv_iload hx hb dX3_read_48 (lv_at hl 0 rfl) ?_
        obtain ⟨⟨r_done_26, r_stopped_27, r_due_28, r_letter_29, r_value_30, r_figures_31, r_seen_32, rt_n_33, rt_count_34, rt_generators_35, r_36⟩, q5, h⟩ := xn_i h
        refine x_callVi (As := [.int r_25]) (rest := []) C hw gc_X3_53 ⟨rfl, rfl, ds_X3_takes, (by rw [hR]; exact Nat.le_of_ble_eq_true rfl), (by rw [hR]; exact Nat.le_of_ble_eq_true rfl), Nat.zero_le _, Nat.zero_le _⟩ (c_X3_takes l dC dI cI cZ cB cO r_h r_p rt_p r_done_4 r_stopped_5 r_due_6 r_letter_7 r_value_8 r_figures_9 r_seen_10 rt_n_11 rt_count_12 rt_generators_13 r_25 _ q5 _) [0, 1, 2] [3, 4, 5, 6] (by decide) rfl rfl (by decide) (by decide) rfl rfl rfl hl.1 rfl (Nat.le_of_ble_eq_true rfl) dX3_read_50 (fun H locs hw => ?_)
        have hw : xWd (dC, dI) A s.heap H locs ((wR cI cZ cB cO r_h r_p r_done_26 r_stopped_27 r_due_28 r_letter_29 r_value_30 r_figures_31 r_seen_32) ++ ((wS cI cZ cB cO (r_p 0) rt_p rt_n_33 rt_count_34 rt_generators_35) ++ ((wT cI cZ cB cO t_h t_p t_length t_bytes) ++ (wS cI cZ cB cO f_h f_p f_n f_count f_generators)))) := hw.sub [4, 5, 6, 0, 1, 2, 3] (by decide) rfl
        refine lv_if_ne (tgt := 58) hx hb dX3_read_53 (by decide) (fun b6 => ?_) (fun b6 => ?_)
        · replace h := xb_ff b6 h
          refine lv_iinc (v := (v3_14 + (1 : Int32))) (lv' := [(3, .int (v3_14 + (1 : Int32))), (4, .int r_25), (0, .ref r_h), (1, .ref t_h)]) hx hb dX3_read_58 hl (k := 3) rfl (congrArg (fun q => v3_14 + q) (by decide)) (by decide) rfl (fun ls hl => ?_)
          refine lv_goto (tgt := 25) hx hb dX3_read_61 (by decide) ?_
          obtain rfl := Option.some.inj h
          exact k _ _ _ hw (lv_sub hl [2, 3, 0] rfl)
        · replace h := xb_tt b6 h
          refine lv_iload_n hx hb dX3_read_56 rfl (lv_at hl 3 rfl) ?_
          obtain rfl := Option.some.inj h
          exact k _ _ hw _ _ dX3_read_57
  · rcases z with z | z
    · obtain ⟨r_done_15, r_stopped_16, r_due_17, r_letter_18, r_value_19, r_figures_20, r_seen_21, rt_n_22, rt_count_23, rt_generators_24⟩ := z
      intro H locs ls hw hl
      have hw : xWd (dC, dI) A s.heap H locs ((wR cI cZ cB cO r_h r_p r_done_15 r_stopped_16 r_due_17 r_letter_18 r_value_19 r_figures_20 r_seen_21) ++ ((wS cI cZ cB cO (r_p 0) rt_p rt_n_22 rt_count_23 rt_generators_24) ++ ((wT cI cZ cB cO t_h t_p t_length t_bytes) ++ (wS cI cZ cB cO f_h f_p f_n f_count f_generators)))) := hw
      have hl : lv_has ls 5 [(0, .ref r_h), (1, .ref t_h)] := hl
      refine lv_aload_n hx hb dX3_read_64 rfl (lv_at hl 0 rfl) ?_
      refine x_get (ci := 2) C hw inX3 rfl 1 (by decide) lkF_X3_18 rfl 0 rfl rfl dX3_read_65 ?_
      refine lv_if_le (tgt := 82) hx hb dX3_read_68 (by decide) (fun b7 => ?_) (fun b7 => ?_)
      · replace h := xb_tt b7 h
        refine lv_aload_n hx hb dX3_read_82 rfl (lv_at hl 1 rfl) ?_
        refine x_get (ci := 5) C hw inX6 rfl 0 (by decide) lkF_X3_44 rfl 3 rfl rfl dX3_read_83 ?_
        obtain rfl := Option.some.inj h
        exact x_reti C hQ hA hw dX3_read_86
      · replace h := xb_ff b7 h
        refine lv_aload_n hx hb dX3_read_71 rfl (lv_at hl 0 rfl) ?_
        refine x_get (ci := 2) C hw inX3 rfl 3 (by decide) lkF_X3_25 rfl 0 rfl rfl dX3_read_72 ?_
        refine lv_if_ne (tgt := 82) hx hb dX3_read_75 (by decide) (fun b8 => ?_) (fun b8 => ?_)
        · replace h := xb_ff b8 h
          refine lv_aload_n hx hb dX3_read_82 rfl (lv_at hl 1 rfl) ?_
          refine x_get (ci := 5) C hw inX6 rfl 0 (by decide) lkF_X3_44 rfl 3 rfl rfl dX3_read_83 ?_
          obtain rfl := Option.some.inj h
          exact x_reti C hQ hA hw dX3_read_86
        · replace h := xb_tt b8 h
          refine lv_iconst (v := (-1 : Int32)) hx hb dX3_read_78 (by decide) ?_
          refine lv_goto (tgt := 86) hx hb dX3_read_79 (by decide) ?_
          obtain rfl := Option.some.inj h
          exact x_reti C hQ hA hw dX3_read_86
    · obtain rfl := Option.some.inj h
      intro H locs hw pc ls hd
      exact x_reti C hQ hA hw hd
end
