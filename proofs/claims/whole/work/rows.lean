section
-- ===== PART A: goes FIRST, ahead of the names: the tables' words, and 'selects' of the private methods out of them =====
/-- a private method of a class that the tables say can be made, by its rows of tables_1 -/
def lw_okq (q : MethodName × Nat) : Prop := (q.1.cls ≠ "java/lang/invoke/MethodHandle" ∧ q.1.cls ≠ "java/lang/invoke/VarHandle") ∧ Cond.instantiable q.1.cls q.2 ∈ tables_1 ∧ Cond.privateMethod q.1 ∈ tables_1 ∧ Cond.instanceMethod q.1 ∈ tables_1
theorem lw_p0 : lw_okq (⟨"CarriedSets", "refuse", "(I)I"⟩, 10) := ⟨⟨by decide +kernel, by decide +kernel⟩, List.mem_of_getElem? (i := 15) (by decide +kernel), List.mem_of_getElem? (i := 211) (by decide +kernel), List.mem_of_getElem? (i := 212) (by decide +kernel)⟩
theorem lw_p1 : lw_okq (⟨"CarriedSets", "keepState", "()V"⟩, 10) := ⟨⟨by decide +kernel, by decide +kernel⟩, List.mem_of_getElem? (i := 15) (by decide +kernel), List.mem_of_getElem? (i := 215) (by decide +kernel), List.mem_of_getElem? (i := 216) (by decide +kernel)⟩
theorem lw_p2 : lw_okq (⟨"CarriedSets$States", "loseOldest", "()V"⟩, 2) := ⟨⟨by decide +kernel, by decide +kernel⟩, List.mem_of_getElem? (i := 45) (by decide +kernel), List.mem_of_getElem? (i := 223) (by decide +kernel), List.mem_of_getElem? (i := 224) (by decide +kernel)⟩
theorem lw_p3 : lw_okq (⟨"CarriedSets", "fit", "()V"⟩, 10) := ⟨⟨by decide +kernel, by decide +kernel⟩, List.mem_of_getElem? (i := 15) (by decide +kernel), List.mem_of_getElem? (i := 262) (by decide +kernel), List.mem_of_getElem? (i := 263) (by decide +kernel)⟩
theorem lw_p4 : lw_okq (⟨"CarriedSets$Elements", "take", "(I)V"⟩, 8) := ⟨⟨by decide +kernel, by decide +kernel⟩, List.mem_of_getElem? (i := 114) (by decide +kernel), List.mem_of_getElem? (i := 276) (by decide +kernel), List.mem_of_getElem? (i := 277) (by decide +kernel)⟩
theorem lw_p5 : lw_okq (⟨"CarriedSets$Elements", "addStep", "(III)V"⟩, 8) := ⟨⟨by decide +kernel, by decide +kernel⟩, List.mem_of_getElem? (i := 114) (by decide +kernel), List.mem_of_getElem? (i := 283) (by decide +kernel), List.mem_of_getElem? (i := 284) (by decide +kernel)⟩
theorem lw_p6 : lw_okq (⟨"CarriedSets$Elements", "closeSteps", "()V"⟩, 8) := ⟨⟨by decide +kernel, by decide +kernel⟩, List.mem_of_getElem? (i := 114) (by decide +kernel), List.mem_of_getElem? (i := 293) (by decide +kernel), List.mem_of_getElem? (i := 294) (by decide +kernel)⟩
theorem lw_p7 : lw_okq (⟨"CarriedSets$Carried", "arrange", "()V"⟩, 7) := ⟨⟨by decide +kernel, by decide +kernel⟩, List.mem_of_getElem? (i := 145) (by decide +kernel), List.mem_of_getElem? (i := 307) (by decide +kernel), List.mem_of_getElem? (i := 308) (by decide +kernel)⟩
theorem lw_p8 : lw_okq (⟨"CarriedSets$Carried", "turnRound", "(I)I"⟩, 7) := ⟨⟨by decide +kernel, by decide +kernel⟩, List.mem_of_getElem? (i := 145) (by decide +kernel), List.mem_of_getElem? (i := 312) (by decide +kernel), List.mem_of_getElem? (i := 313) (by decide +kernel)⟩
theorem lw_p9 : lw_okq (⟨"CarriedSets$Carried", "spread", "(LCarriedSets$Elements;I)V"⟩, 7) := ⟨⟨by decide +kernel, by decide +kernel⟩, List.mem_of_getElem? (i := 145) (by decide +kernel), List.mem_of_getElem? (i := 316) (by decide +kernel), List.mem_of_getElem? (i := 317) (by decide +kernel)⟩
theorem lw_p10 : lw_okq (⟨"CarriedSets$Carried", "reach", "(II)V"⟩, 7) := ⟨⟨by decide +kernel, by decide +kernel⟩, List.mem_of_getElem? (i := 145) (by decide +kernel), List.mem_of_getElem? (i := 320) (by decide +kernel), List.mem_of_getElem? (i := 321) (by decide +kernel)⟩
theorem lw_p11 : lw_okq (⟨"CarriedSets$Carried", "spreadBy", "(III)V"⟩, 7) := ⟨⟨by decide +kernel, by decide +kernel⟩, List.mem_of_getElem? (i := 145) (by decide +kernel), List.mem_of_getElem? (i := 332) (by decide +kernel), List.mem_of_getElem? (i := 333) (by decide +kernel)⟩
theorem lw_p12 : lw_okq (⟨"CarriedSets", "tellPoint", "(II)I"⟩, 10) := ⟨⟨by decide +kernel, by decide +kernel⟩, List.mem_of_getElem? (i := 15) (by decide +kernel), List.mem_of_getElem? (i := 347) (by decide +kernel), List.mem_of_getElem? (i := 348) (by decide +kernel)⟩
theorem lw_p13 : lw_okq (⟨"CarriedSets", "isSet", "(I)Z"⟩, 10) := ⟨⟨by decide +kernel, by decide +kernel⟩, List.mem_of_getElem? (i := 15) (by decide +kernel), List.mem_of_getElem? (i := 399) (by decide +kernel), List.mem_of_getElem? (i := 400) (by decide +kernel)⟩
theorem lw_p14 : lw_okq (⟨"CarriedSets$Carried", "start", "(I)I"⟩, 7) := ⟨⟨by decide +kernel, by decide +kernel⟩, List.mem_of_getElem? (i := 145) (by decide +kernel), List.mem_of_getElem? (i := 417) (by decide +kernel), List.mem_of_getElem? (i := 418) (by decide +kernel)⟩
theorem lw_p15 : lw_okq (⟨"CarriedSets$Carried", "goOnTowards", "(LCarriedSets$Elements;III)I"⟩, 7) := ⟨⟨by decide +kernel, by decide +kernel⟩, List.mem_of_getElem? (i := 145) (by decide +kernel), List.mem_of_getElem? (i := 441) (by decide +kernel), List.mem_of_getElem? (i := 442) (by decide +kernel)⟩
def lw_privs_1 : List (MethodName × Nat) := [(⟨"CarriedSets", "refuse", "(I)I"⟩, 10), (⟨"CarriedSets", "keepState", "()V"⟩, 10), (⟨"CarriedSets$States", "loseOldest", "()V"⟩, 2), (⟨"CarriedSets", "fit", "()V"⟩, 10), (⟨"CarriedSets$Elements", "take", "(I)V"⟩, 8), (⟨"CarriedSets$Elements", "addStep", "(III)V"⟩, 8), (⟨"CarriedSets$Elements", "closeSteps", "()V"⟩, 8), (⟨"CarriedSets$Carried", "arrange", "()V"⟩, 7), (⟨"CarriedSets$Carried", "turnRound", "(I)I"⟩, 7), (⟨"CarriedSets$Carried", "spread", "(LCarriedSets$Elements;I)V"⟩, 7), (⟨"CarriedSets$Carried", "reach", "(II)V"⟩, 7), (⟨"CarriedSets$Carried", "spreadBy", "(III)V"⟩, 7), (⟨"CarriedSets", "tellPoint", "(II)I"⟩, 10), (⟨"CarriedSets", "isSet", "(I)Z"⟩, 10), (⟨"CarriedSets$Carried", "start", "(I)I"⟩, 7), (⟨"CarriedSets$Carried", "goOnTowards", "(LCarriedSets$Elements;III)I"⟩, 7)]
theorem lw_r1 : ∀ q ∈ lw_privs_1, lw_okq q := List.forall_mem_cons.mpr ⟨lw_p0, List.forall_mem_cons.mpr ⟨lw_p1, List.forall_mem_cons.mpr ⟨lw_p2, List.forall_mem_cons.mpr ⟨lw_p3, List.forall_mem_cons.mpr ⟨lw_p4, List.forall_mem_cons.mpr ⟨lw_p5, List.forall_mem_cons.mpr ⟨lw_p6, List.forall_mem_cons.mpr ⟨lw_p7, List.forall_mem_cons.mpr ⟨lw_p8, List.forall_mem_cons.mpr ⟨lw_p9, List.forall_mem_cons.mpr ⟨lw_p10, List.forall_mem_cons.mpr ⟨lw_p11, List.forall_mem_cons.mpr ⟨lw_p12, List.forall_mem_cons.mpr ⟨lw_p13, List.forall_mem_cons.mpr ⟨lw_p14, List.forall_mem_cons.mpr ⟨lw_p15, fun _ h => absurd h List.not_mem_nil⟩⟩⟩⟩⟩⟩⟩⟩⟩⟩⟩⟩⟩⟩⟩⟩
theorem lw_p16 : lw_okq (⟨"CarriedSets$Carried", "isFirst", "(I)Z"⟩, 7) := ⟨⟨by decide +kernel, by decide +kernel⟩, List.mem_of_getElem? (i := 145) (by decide +kernel), List.mem_of_getElem? (i := 460) (by decide +kernel), List.mem_of_getElem? (i := 461) (by decide +kernel)⟩
theorem lw_p17 : lw_okq (⟨"CarriedSets$Reader", "takes", "(I)Z"⟩, 8) := ⟨⟨by decide +kernel, by decide +kernel⟩, List.mem_of_getElem? (i := 78) (by decide +kernel), List.mem_of_getElem? (i := 501) (by decide +kernel), List.mem_of_getElem? (i := 502) (by decide +kernel)⟩
theorem lw_p18 : lw_okq (⟨"CarriedSets$Reader", "takesLetter", "(I)Z"⟩, 8) := ⟨⟨by decide +kernel, by decide +kernel⟩, List.mem_of_getElem? (i := 78) (by decide +kernel), List.mem_of_getElem? (i := 505) (by decide +kernel), List.mem_of_getElem? (i := 506) (by decide +kernel)⟩
theorem lw_p19 : lw_okq (⟨"CarriedSets$Reader", "takesFigure", "(I)Z"⟩, 8) := ⟨⟨by decide +kernel, by decide +kernel⟩, List.mem_of_getElem? (i := 78) (by decide +kernel), List.mem_of_getElem? (i := 509) (by decide +kernel), List.mem_of_getElem? (i := 510) (by decide +kernel)⟩
theorem lw_p20 : lw_okq (⟨"CarriedSets$Reader", "isDue", "(I)Z"⟩, 8) := ⟨⟨by decide +kernel, by decide +kernel⟩, List.mem_of_getElem? (i := 78) (by decide +kernel), List.mem_of_getElem? (i := 513) (by decide +kernel), List.mem_of_getElem? (i := 514) (by decide +kernel)⟩
theorem lw_p21 : lw_okq (⟨"CarriedSets$Reader", "takesEnd", "(I)Z"⟩, 8) := ⟨⟨by decide +kernel, by decide +kernel⟩, List.mem_of_getElem? (i := 78) (by decide +kernel), List.mem_of_getElem? (i := 517) (by decide +kernel), List.mem_of_getElem? (i := 518) (by decide +kernel)⟩
theorem lw_p22 : lw_okq (⟨"CarriedSets$Reader", "obeys", "()Z"⟩, 8) := ⟨⟨by decide +kernel, by decide +kernel⟩, List.mem_of_getElem? (i := 78) (by decide +kernel), List.mem_of_getElem? (i := 521) (by decide +kernel), List.mem_of_getElem? (i := 522) (by decide +kernel)⟩
theorem lw_p23 : lw_okq (⟨"CarriedSets", "tell", "(I)I"⟩, 10) := ⟨⟨by decide +kernel, by decide +kernel⟩, List.mem_of_getElem? (i := 15) (by decide +kernel), List.mem_of_getElem? (i := 542) (by decide +kernel), List.mem_of_getElem? (i := 543) (by decide +kernel)⟩
theorem lw_p24 : lw_okq (⟨"CarriedSetsModel", "refuses", "(I)I"⟩, 29) := ⟨⟨by decide +kernel, by decide +kernel⟩, List.mem_of_getElem? (i := 559) (by decide +kernel), List.mem_of_getElem? (i := 659) (by decide +kernel), List.mem_of_getElem? (i := 660) (by decide +kernel)⟩
theorem lw_p25 : lw_okq (⟨"CarriedSetsModel", "hold", "()V"⟩, 29) := ⟨⟨by decide +kernel, by decide +kernel⟩, List.mem_of_getElem? (i := 559) (by decide +kernel), List.mem_of_getElem? (i := 667) (by decide +kernel), List.mem_of_getElem? (i := 668) (by decide +kernel)⟩
theorem lw_p26 : lw_okq (⟨"CarriedSetsModel", "doPoints", "(I)I"⟩, 29) := ⟨⟨by decide +kernel, by decide +kernel⟩, List.mem_of_getElem? (i := 559) (by decide +kernel), List.mem_of_getElem? (i := 671) (by decide +kernel), List.mem_of_getElem? (i := 672) (by decide +kernel)⟩
theorem lw_p27 : lw_okq (⟨"CarriedSetsModel", "ends", "(I)I"⟩, 29) := ⟨⟨by decide +kernel, by decide +kernel⟩, List.mem_of_getElem? (i := 559) (by decide +kernel), List.mem_of_getElem? (i := 678) (by decide +kernel), List.mem_of_getElem? (i := 679) (by decide +kernel)⟩
theorem lw_p28 : lw_okq (⟨"CarriedSetsModel", "push", "()V"⟩, 29) := ⟨⟨by decide +kernel, by decide +kernel⟩, List.mem_of_getElem? (i := 559) (by decide +kernel), List.mem_of_getElem? (i := 682) (by decide +kernel), List.mem_of_getElem? (i := 683) (by decide +kernel)⟩
theorem lw_p29 : lw_okq (⟨"CarriedSetsModel", "doMoves", "(I)I"⟩, 29) := ⟨⟨by decide +kernel, by decide +kernel⟩, List.mem_of_getElem? (i := 559) (by decide +kernel), List.mem_of_getElem? (i := 690) (by decide +kernel), List.mem_of_getElem? (i := 691) (by decide +kernel)⟩
theorem lw_p30 : lw_okq (⟨"CarriedSetsModel", "isMove", "(I)Z"⟩, 29) := ⟨⟨by decide +kernel, by decide +kernel⟩, List.mem_of_getElem? (i := 559) (by decide +kernel), List.mem_of_getElem? (i := 694) (by decide +kernel), List.mem_of_getElem? (i := 695) (by decide +kernel)⟩
theorem lw_p31 : lw_okq (⟨"CarriedSetsModel", "open", "(I)V"⟩, 29) := ⟨⟨by decide +kernel, by decide +kernel⟩, List.mem_of_getElem? (i := 559) (by decide +kernel), List.mem_of_getElem? (i := 698) (by decide +kernel), List.mem_of_getElem? (i := 699) (by decide +kernel)⟩
def lw_privs_2 : List (MethodName × Nat) := [(⟨"CarriedSets$Carried", "isFirst", "(I)Z"⟩, 7), (⟨"CarriedSets$Reader", "takes", "(I)Z"⟩, 8), (⟨"CarriedSets$Reader", "takesLetter", "(I)Z"⟩, 8), (⟨"CarriedSets$Reader", "takesFigure", "(I)Z"⟩, 8), (⟨"CarriedSets$Reader", "isDue", "(I)Z"⟩, 8), (⟨"CarriedSets$Reader", "takesEnd", "(I)Z"⟩, 8), (⟨"CarriedSets$Reader", "obeys", "()Z"⟩, 8), (⟨"CarriedSets", "tell", "(I)I"⟩, 10), (⟨"CarriedSetsModel", "refuses", "(I)I"⟩, 29), (⟨"CarriedSetsModel", "hold", "()V"⟩, 29), (⟨"CarriedSetsModel", "doPoints", "(I)I"⟩, 29), (⟨"CarriedSetsModel", "ends", "(I)I"⟩, 29), (⟨"CarriedSetsModel", "push", "()V"⟩, 29), (⟨"CarriedSetsModel", "doMoves", "(I)I"⟩, 29), (⟨"CarriedSetsModel", "isMove", "(I)Z"⟩, 29), (⟨"CarriedSetsModel", "open", "(I)V"⟩, 29)]
theorem lw_r2 : ∀ q ∈ lw_privs_2, lw_okq q := List.forall_mem_cons.mpr ⟨lw_p16, List.forall_mem_cons.mpr ⟨lw_p17, List.forall_mem_cons.mpr ⟨lw_p18, List.forall_mem_cons.mpr ⟨lw_p19, List.forall_mem_cons.mpr ⟨lw_p20, List.forall_mem_cons.mpr ⟨lw_p21, List.forall_mem_cons.mpr ⟨lw_p22, List.forall_mem_cons.mpr ⟨lw_p23, List.forall_mem_cons.mpr ⟨lw_p24, List.forall_mem_cons.mpr ⟨lw_p25, List.forall_mem_cons.mpr ⟨lw_p26, List.forall_mem_cons.mpr ⟨lw_p27, List.forall_mem_cons.mpr ⟨lw_p28, List.forall_mem_cons.mpr ⟨lw_p29, List.forall_mem_cons.mpr ⟨lw_p30, List.forall_mem_cons.mpr ⟨lw_p31, fun _ h => absurd h List.not_mem_nil⟩⟩⟩⟩⟩⟩⟩⟩⟩⟩⟩⟩⟩⟩⟩⟩
theorem lw_p32 : lw_okq (⟨"CarriedSetsModel", "doDrops", "(I)I"⟩, 29) := ⟨⟨by decide +kernel, by decide +kernel⟩, List.mem_of_getElem? (i := 559) (by decide +kernel), List.mem_of_getElem? (i := 706) (by decide +kernel), List.mem_of_getElem? (i := 707) (by decide +kernel)⟩
theorem lw_p33 : lw_okq (⟨"CarriedSetsModel", "lay", "()V"⟩, 29) := ⟨⟨by decide +kernel, by decide +kernel⟩, List.mem_of_getElem? (i := 559) (by decide +kernel), List.mem_of_getElem? (i := 714) (by decide +kernel), List.mem_of_getElem? (i := 715) (by decide +kernel)⟩
theorem lw_p34 : lw_okq (⟨"CarriedSetsModel", "mark", "(I)V"⟩, 29) := ⟨⟨by decide +kernel, by decide +kernel⟩, List.mem_of_getElem? (i := 559) (by decide +kernel), List.mem_of_getElem? (i := 718) (by decide +kernel), List.mem_of_getElem? (i := 719) (by decide +kernel)⟩
theorem lw_p35 : lw_okq (⟨"CarriedSetsModel", "codeAt", "(I)I"⟩, 29) := ⟨⟨by decide +kernel, by decide +kernel⟩, List.mem_of_getElem? (i := 559) (by decide +kernel), List.mem_of_getElem? (i := 722) (by decide +kernel), List.mem_of_getElem? (i := 723) (by decide +kernel)⟩
theorem lw_p36 : lw_okq (⟨"CarriedSetsModel", "placeOf", "()I"⟩, 29) := ⟨⟨by decide +kernel, by decide +kernel⟩, List.mem_of_getElem? (i := 559) (by decide +kernel), List.mem_of_getElem? (i := 726) (by decide +kernel), List.mem_of_getElem? (i := 727) (by decide +kernel)⟩
theorem lw_p37 : lw_okq (⟨"CarriedSetsModel", "sortMade", "()V"⟩, 29) := ⟨⟨by decide +kernel, by decide +kernel⟩, List.mem_of_getElem? (i := 559) (by decide +kernel), List.mem_of_getElem? (i := 730) (by decide +kernel), List.mem_of_getElem? (i := 731) (by decide +kernel)⟩
theorem lw_p38 : lw_okq (⟨"CarriedSetsModel", "findChains", "()V"⟩, 29) := ⟨⟨by decide +kernel, by decide +kernel⟩, List.mem_of_getElem? (i := 559) (by decide +kernel), List.mem_of_getElem? (i := 734) (by decide +kernel), List.mem_of_getElem? (i := 735) (by decide +kernel)⟩
theorem lw_p39 : lw_okq (⟨"CarriedSetsModel", "ofPoint", "(II)I"⟩, 29) := ⟨⟨by decide +kernel, by decide +kernel⟩, List.mem_of_getElem? (i := 559) (by decide +kernel), List.mem_of_getElem? (i := 742) (by decide +kernel), List.mem_of_getElem? (i := 743) (by decide +kernel)⟩
theorem lw_p40 : lw_okq (⟨"CarriedSetsModel", "isSet", "(I)Z"⟩, 29) := ⟨⟨by decide +kernel, by decide +kernel⟩, List.mem_of_getElem? (i := 559) (by decide +kernel), List.mem_of_getElem? (i := 764) (by decide +kernel), List.mem_of_getElem? (i := 765) (by decide +kernel)⟩
theorem lw_p41 : lw_okq (⟨"CarriedSetsModel", "imageOf", "(I)I"⟩, 29) := ⟨⟨by decide +kernel, by decide +kernel⟩, List.mem_of_getElem? (i := 559) (by decide +kernel), List.mem_of_getElem? (i := 768) (by decide +kernel), List.mem_of_getElem? (i := 769) (by decide +kernel)⟩
theorem lw_p42 : lw_okq (⟨"CarriedSetsModel", "leastOf", "(I)I"⟩, 29) := ⟨⟨by decide +kernel, by decide +kernel⟩, List.mem_of_getElem? (i := 559) (by decide +kernel), List.mem_of_getElem? (i := 776) (by decide +kernel), List.mem_of_getElem? (i := 777) (by decide +kernel)⟩
theorem lw_p43 : lw_okq (⟨"CarriedSetsModel", "sortSets", "()V"⟩, 29) := ⟨⟨by decide +kernel, by decide +kernel⟩, List.mem_of_getElem? (i := 559) (by decide +kernel), List.mem_of_getElem? (i := 780) (by decide +kernel), List.mem_of_getElem? (i := 781) (by decide +kernel)⟩
theorem lw_p44 : lw_okq (⟨"CarriedSetsModel", "findImages", "(I)V"⟩, 29) := ⟨⟨by decide +kernel, by decide +kernel⟩, List.mem_of_getElem? (i := 559) (by decide +kernel), List.mem_of_getElem? (i := 790) (by decide +kernel), List.mem_of_getElem? (i := 791) (by decide +kernel)⟩
theorem lw_p45 : lw_okq (⟨"CarriedSetsModel", "carry", "(I)V"⟩, 29) := ⟨⟨by decide +kernel, by decide +kernel⟩, List.mem_of_getElem? (i := 559) (by decide +kernel), List.mem_of_getElem? (i := 794) (by decide +kernel), List.mem_of_getElem? (i := 795) (by decide +kernel)⟩
theorem lw_p46 : lw_okq (⟨"CarriedSetsModel", "headsOf", "(II)I"⟩, 29) := ⟨⟨by decide +kernel, by decide +kernel⟩, List.mem_of_getElem? (i := 559) (by decide +kernel), List.mem_of_getElem? (i := 814) (by decide +kernel), List.mem_of_getElem? (i := 815) (by decide +kernel)⟩
theorem lw_p47 : lw_okq (⟨"CarriedSetsModel", "here", "()I"⟩, 29) := ⟨⟨by decide +kernel, by decide +kernel⟩, List.mem_of_getElem? (i := 559) (by decide +kernel), List.mem_of_getElem? (i := 834) (by decide +kernel), List.mem_of_getElem? (i := 835) (by decide +kernel)⟩
def lw_privs_3 : List (MethodName × Nat) := [(⟨"CarriedSetsModel", "doDrops", "(I)I"⟩, 29), (⟨"CarriedSetsModel", "lay", "()V"⟩, 29), (⟨"CarriedSetsModel", "mark", "(I)V"⟩, 29), (⟨"CarriedSetsModel", "codeAt", "(I)I"⟩, 29), (⟨"CarriedSetsModel", "placeOf", "()I"⟩, 29), (⟨"CarriedSetsModel", "sortMade", "()V"⟩, 29), (⟨"CarriedSetsModel", "findChains", "()V"⟩, 29), (⟨"CarriedSetsModel", "ofPoint", "(II)I"⟩, 29), (⟨"CarriedSetsModel", "isSet", "(I)Z"⟩, 29), (⟨"CarriedSetsModel", "imageOf", "(I)I"⟩, 29), (⟨"CarriedSetsModel", "leastOf", "(I)I"⟩, 29), (⟨"CarriedSetsModel", "sortSets", "()V"⟩, 29), (⟨"CarriedSetsModel", "findImages", "(I)V"⟩, 29), (⟨"CarriedSetsModel", "carry", "(I)V"⟩, 29), (⟨"CarriedSetsModel", "headsOf", "(II)I"⟩, 29), (⟨"CarriedSetsModel", "here", "()I"⟩, 29)]
theorem lw_r3 : ∀ q ∈ lw_privs_3, lw_okq q := List.forall_mem_cons.mpr ⟨lw_p32, List.forall_mem_cons.mpr ⟨lw_p33, List.forall_mem_cons.mpr ⟨lw_p34, List.forall_mem_cons.mpr ⟨lw_p35, List.forall_mem_cons.mpr ⟨lw_p36, List.forall_mem_cons.mpr ⟨lw_p37, List.forall_mem_cons.mpr ⟨lw_p38, List.forall_mem_cons.mpr ⟨lw_p39, List.forall_mem_cons.mpr ⟨lw_p40, List.forall_mem_cons.mpr ⟨lw_p41, List.forall_mem_cons.mpr ⟨lw_p42, List.forall_mem_cons.mpr ⟨lw_p43, List.forall_mem_cons.mpr ⟨lw_p44, List.forall_mem_cons.mpr ⟨lw_p45, List.forall_mem_cons.mpr ⟨lw_p46, List.forall_mem_cons.mpr ⟨lw_p47, fun _ h => absurd h List.not_mem_nil⟩⟩⟩⟩⟩⟩⟩⟩⟩⟩⟩⟩⟩⟩⟩⟩
theorem lw_p48 : lw_okq (⟨"CarriedSetsModel", "readOrder", "()V"⟩, 29) := ⟨⟨by decide +kernel, by decide +kernel⟩, List.mem_of_getElem? (i := 559) (by decide +kernel), List.mem_of_getElem? (i := 838) (by decide +kernel), List.mem_of_getElem? (i := 839) (by decide +kernel)⟩
theorem lw_p49 : lw_okq (⟨"CarriedSetsModel", "must", "(Z)V"⟩, 29) := ⟨⟨by decide +kernel, by decide +kernel⟩, List.mem_of_getElem? (i := 559) (by decide +kernel), List.mem_of_getElem? (i := 842) (by decide +kernel), List.mem_of_getElem? (i := 843) (by decide +kernel)⟩
theorem lw_p50 : lw_okq (⟨"CarriedSetsModel", "readMove", "()I"⟩, 29) := ⟨⟨by decide +kernel, by decide +kernel⟩, List.mem_of_getElem? (i := 559) (by decide +kernel), List.mem_of_getElem? (i := 846) (by decide +kernel), List.mem_of_getElem? (i := 847) (by decide +kernel)⟩
theorem lw_p51 : lw_okq (⟨"CarriedSetsModel", "figure", "(II)I"⟩, 29) := ⟨⟨by decide +kernel, by decide +kernel⟩, List.mem_of_getElem? (i := 559) (by decide +kernel), List.mem_of_getElem? (i := 850) (by decide +kernel), List.mem_of_getElem? (i := 851) (by decide +kernel)⟩
theorem lw_p52 : lw_okq (⟨"CarriedSetsModel", "doOrder", "(I)I"⟩, 29) := ⟨⟨by decide +kernel, by decide +kernel⟩, List.mem_of_getElem? (i := 559) (by decide +kernel), List.mem_of_getElem? (i := 854) (by decide +kernel), List.mem_of_getElem? (i := 855) (by decide +kernel)⟩
theorem lw_p53 : lw_okq (⟨"CarriedSetsModel", "toldOf", "(I)I"⟩, 29) := ⟨⟨by decide +kernel, by decide +kernel⟩, List.mem_of_getElem? (i := 559) (by decide +kernel), List.mem_of_getElem? (i := 862) (by decide +kernel), List.mem_of_getElem? (i := 863) (by decide +kernel)⟩
theorem lw_p54 : lw_okq (⟨"CarriedSetsModel", "mix", "(I)V"⟩, 29) := ⟨⟨by decide +kernel, by decide +kernel⟩, List.mem_of_getElem? (i := 559) (by decide +kernel), List.mem_of_getElem? (i := 871) (by decide +kernel), List.mem_of_getElem? (i := 872) (by decide +kernel)⟩
def lw_privs_4 : List (MethodName × Nat) := [(⟨"CarriedSetsModel", "readOrder", "()V"⟩, 29), (⟨"CarriedSetsModel", "must", "(Z)V"⟩, 29), (⟨"CarriedSetsModel", "readMove", "()I"⟩, 29), (⟨"CarriedSetsModel", "figure", "(II)I"⟩, 29), (⟨"CarriedSetsModel", "doOrder", "(I)I"⟩, 29), (⟨"CarriedSetsModel", "toldOf", "(I)I"⟩, 29), (⟨"CarriedSetsModel", "mix", "(I)V"⟩, 29)]
theorem lw_r4 : ∀ q ∈ lw_privs_4, lw_okq q := List.forall_mem_cons.mpr ⟨lw_p48, List.forall_mem_cons.mpr ⟨lw_p49, List.forall_mem_cons.mpr ⟨lw_p50, List.forall_mem_cons.mpr ⟨lw_p51, List.forall_mem_cons.mpr ⟨lw_p52, List.forall_mem_cons.mpr ⟨lw_p53, List.forall_mem_cons.mpr ⟨lw_p54, fun _ h => absurd h List.not_mem_nil⟩⟩⟩⟩⟩⟩⟩
def lw_privs : List (MethodName × Nat) := lw_privs_1 ++ (lw_privs_2 ++ (lw_privs_3 ++ (lw_privs_4)))
def lw_tbl : List Cond := k2_sels lw_privs ++ tables_1
theorem lw_privs_ok : ∀ q ∈ lw_privs, lw_okq q := by
  show ∀ q ∈ lw_privs_1 ++ (lw_privs_2 ++ (lw_privs_3 ++ (lw_privs_4))), lw_okq q
  exact List.forall_mem_append.mpr ⟨lw_r1, List.forall_mem_append.mpr ⟨lw_r2, List.forall_mem_append.mpr ⟨lw_r3, lw_r4⟩⟩⟩
end
section
def RX0 : String := "CarriedSets$Carried"
def TX0 : u_T := fun k => match k with
  | 0 => ("CarriedSets$Carried", "n", "I", false)
  | 1 => ("CarriedSets$Carried", "inOrder", "[I", true)
  | 2 => ("CarriedSets$Carried", "starts", "[I", true)
  | 3 => ("CarriedSets$Carried", "firsts", "[I", true)
  | 4 => ("CarriedSets$Carried", "reached", "[I", true)
  | 5 => ("CarriedSets$Carried", "reachedAt", "[I", true)
  | _ => ("CarriedSets$Carried", "reachedCount", "I", false)
def tyX0 : Nat → FieldType := fun k => match k with
  | 0 => .int
  | 1 => .array .int
  | 2 => .array .int
  | 3 => .array .int
  | 4 => .array .int
  | 5 => .array .int
  | _ => .int
theorem nmX0 : ∀ a, a < 7 → ∀ b, b < 7 → a ≠ b → (TX0 a).2.1 ≠ (TX0 b).2.1 := by decide +kernel
theorem tyX0_ok : ∀ k, k < 7 → parseFieldDescriptor (TX0 k).2.2.1 = some (tyX0 k) := by decide +kernel
abbrev cX0_init : ByteArray := prog_2_method_1_code
def yX0_init : MethodName := ⟨RX0, "<init>", "()V"⟩
abbrev cX0_make : ByteArray := prog_2_method_2_code
def yX0_make : MethodName := ⟨RX0, "make", "(LCarriedSets$Elements;I)V"⟩
abbrev cX0_arrange : ByteArray := prog_2_method_3_code
def yX0_arrange : MethodName := ⟨RX0, "arrange", "()V"⟩
abbrev cX0_turnRound : ByteArray := prog_2_method_4_code
def yX0_turnRound : MethodName := ⟨RX0, "turnRound", "(I)I"⟩
abbrev cX0_spread : ByteArray := prog_2_method_5_code
def yX0_spread : MethodName := ⟨RX0, "spread", "(LCarriedSets$Elements;I)V"⟩
abbrev cX0_spreadBy : ByteArray := prog_2_method_6_code
def yX0_spreadBy : MethodName := ⟨RX0, "spreadBy", "(III)V"⟩
abbrev cX0_reach : ByteArray := prog_2_method_7_code
def yX0_reach : MethodName := ⟨RX0, "reach", "(II)V"⟩
abbrev cX0_firstMove : ByteArray := prog_2_method_8_code
def yX0_firstMove : MethodName := ⟨RX0, "firstMove", "(LCarriedSets$Elements;II)I"⟩
abbrev cX0_goOnTowards : ByteArray := prog_2_method_9_code
def yX0_goOnTowards : MethodName := ⟨RX0, "goOnTowards", "(LCarriedSets$Elements;III)I"⟩
abbrev cX0_first : ByteArray := prog_2_method_10_code
def yX0_first : MethodName := ⟨RX0, "first", "(I)I"⟩
abbrev cX0_start : ByteArray := prog_2_method_11_code
def yX0_start : MethodName := ⟨RX0, "start", "(I)I"⟩
abbrev cX0_countWith : ByteArray := prog_2_method_12_code
def yX0_countWith : MethodName := ⟨RX0, "countWith", "(I)I"⟩
abbrev cX0_nthWith : ByteArray := prog_2_method_13_code
def yX0_nthWith : MethodName := ⟨RX0, "nthWith", "(II)I"⟩
abbrev cX0_isFirst : ByteArray := prog_2_method_14_code
def yX0_isFirst : MethodName := ⟨RX0, "isFirst", "(I)Z"⟩
abbrev cX0_countFirsts : ByteArray := prog_2_method_15_code
def yX0_countFirsts : MethodName := ⟨RX0, "countFirsts", "(I)I"⟩
abbrev cX0_nthFirst : ByteArray := prog_2_method_16_code
def yX0_nthFirst : MethodName := ⟨RX0, "nthFirst", "(II)I"⟩
abbrev cX0_placeOfFirst : ByteArray := prog_2_method_17_code
def yX0_placeOfFirst : MethodName := ⟨RX0, "placeOfFirst", "(I)I"⟩
abbrev cX0_digestFirsts : ByteArray := prog_2_method_18_code
def yX0_digestFirsts : MethodName := ⟨RX0, "digestFirsts", "(IJ)J"⟩
abbrev cX0_orbit : ByteArray := prog_2_method_19_code
def yX0_orbit : MethodName := ⟨RX0, "orbit", "(I)I"⟩
abbrev cX0_leastPoint : ByteArray := prog_2_method_20_code
def yX0_leastPoint : MethodName := ⟨RX0, "leastPoint", "(I)I"⟩
def RX1 : String := "CarriedSets$Elements"
def TX1 : u_T := fun k => match k with
  | 0 => ("CarriedSets$Elements", "n", "I", false)
  | 1 => ("CarriedSets$Elements", "steps", "[I", true)
  | 2 => ("CarriedSets$Elements", "undoing", "[I", true)
  | 3 => ("CarriedSets$Elements", "chains", "[I", true)
  | 4 => ("CarriedSets$Elements", "leaving", "[I", true)
  | 5 => ("CarriedSets$Elements", "found", "[I", true)
  | 6 => ("CarriedSets$Elements", "foundAt", "[I", true)
  | _ => ("CarriedSets$Elements", "foundCount", "I", false)
def tyX1 : Nat → FieldType := fun k => match k with
  | 0 => .int
  | 1 => .array .int
  | 2 => .array .int
  | 3 => .array .int
  | 4 => .array .int
  | 5 => .array .int
  | 6 => .array .int
  | _ => .int
theorem nmX1 : ∀ a, a < 8 → ∀ b, b < 8 → a ≠ b → (TX1 a).2.1 ≠ (TX1 b).2.1 := by decide +kernel
theorem tyX1_ok : ∀ k, k < 8 → parseFieldDescriptor (TX1 k).2.2.1 = some (tyX1 k) := by decide +kernel
abbrev cX1_init : ByteArray := prog_3_method_1_code
def yX1_init : MethodName := ⟨RX1, "<init>", "()V"⟩
abbrev cX1_howMany : ByteArray := prog_3_method_2_code
def yX1_howMany : MethodName := ⟨RX1, "howMany", "()I"⟩
abbrev cX1_chain : ByteArray := prog_3_method_3_code
def yX1_chain : MethodName := ⟨RX1, "chain", "(I)I"⟩
abbrev cX1_step : ByteArray := prog_3_method_4_code
def yX1_step : MethodName := ⟨RX1, "step", "(II)I"⟩
abbrev cX1_make : ByteArray := prog_3_method_5_code
def yX1_make : MethodName := ⟨RX1, "make", "(LCarriedSets$Setup;)V"⟩
abbrev cX1_take : ByteArray := prog_3_method_6_code
def yX1_take : MethodName := ⟨RX1, "take", "(I)V"⟩
abbrev cX1_addStep : ByteArray := prog_3_method_7_code
def yX1_addStep : MethodName := ⟨RX1, "addStep", "(III)V"⟩
abbrev cX1_closeSteps : ByteArray := prog_3_method_8_code
def yX1_closeSteps : MethodName := ⟨RX1, "closeSteps", "()V"⟩
abbrev cX1_choices : ByteArray := prog_3_method_9_code
def yX1_choices : MethodName := ⟨RX1, "choices", "(II)I"⟩
abbrev cX1_goOn : ByteArray := prog_3_method_10_code
def yX1_goOn : MethodName := ⟨RX1, "goOn", "(III)I"⟩
abbrev cX1_rank : ByteArray := prog_3_method_11_code
def yX1_rank : MethodName := ⟨RX1, "rank", "(I)I"⟩
abbrev cX1_withRank : ByteArray := prog_3_method_12_code
def yX1_withRank : MethodName := ⟨RX1, "withRank", "(I)I"⟩
def RX2 : String := "CarriedSets$Move"
def TX2 : u_T := fun k => match k with
  | _ => ("", "", "", false)
def tyX2 : Nat → FieldType := fun k => match k with
  | _ => .int
theorem nmX2 : ∀ a, a < 0 → ∀ b, b < 0 → a ≠ b → (TX2 a).2.1 ≠ (TX2 b).2.1 := by decide +kernel
theorem tyX2_ok : ∀ k, k < 0 → parseFieldDescriptor (TX2 k).2.2.1 = some (tyX2 k) := by decide +kernel
abbrev cX2_at : ByteArray := prog_4_method_2_code
def yX2_at : MethodName := ⟨RX2, "at", "(II)I"⟩
abbrev cX2_then : ByteArray := prog_4_method_3_code
def yX2_then : MethodName := ⟨RX2, "then", "(II)I"⟩
abbrev cX2_inverse : ByteArray := prog_4_method_4_code
def yX2_inverse : MethodName := ⟨RX2, "inverse", "(I)I"⟩
abbrev cX2_carry : ByteArray := prog_4_method_5_code
def yX2_carry : MethodName := ⟨RX2, "carry", "(II)I"⟩
abbrev cX2_read : ByteArray := prog_4_method_6_code
def yX2_read : MethodName := ⟨RX2, "read", "(II)I"⟩
abbrev cX2_write : ByteArray := prog_4_method_7_code
def yX2_write : MethodName := ⟨RX2, "write", "(II)I"⟩
def RX3 : String := "CarriedSets$Reader"
def TX3 : u_T := fun k => match k with
  | 0 => ("CarriedSets$Reader", "trial", "LCarriedSets$Setup;", true)
  | 1 => ("CarriedSets$Reader", "done", "I", false)
  | 2 => ("CarriedSets$Reader", "stopped", "I", false)
  | 3 => ("CarriedSets$Reader", "due", "I", false)
  | 4 => ("CarriedSets$Reader", "letter", "I", false)
  | 5 => ("CarriedSets$Reader", "value", "I", false)
  | 6 => ("CarriedSets$Reader", "figures", "I", false)
  | _ => ("CarriedSets$Reader", "seen", "I", false)
def tyX3 : Nat → FieldType := fun k => match k with
  | 0 => .object "CarriedSets$Setup"
  | 1 => .int
  | 2 => .int
  | 3 => .int
  | 4 => .int
  | 5 => .int
  | 6 => .int
  | _ => .int
theorem nmX3 : ∀ a, a < 8 → ∀ b, b < 8 → a ≠ b → (TX3 a).2.1 ≠ (TX3 b).2.1 := by decide +kernel
theorem tyX3_ok : ∀ k, k < 8 → parseFieldDescriptor (TX3 k).2.2.1 = some (tyX3 k) := by decide +kernel
abbrev cX3_init : ByteArray := prog_5_method_1_code
def yX3_init : MethodName := ⟨RX3, "<init>", "()V"⟩
abbrev cX3_read : ByteArray := prog_5_method_2_code
def yX3_read : MethodName := ⟨RX3, "read", "(LCarriedSets$Text;LCarriedSets$Setup;)I"⟩
abbrev cX3_takes : ByteArray := prog_5_method_3_code
def yX3_takes : MethodName := ⟨RX3, "takes", "(I)Z"⟩
abbrev cX3_takesLetter : ByteArray := prog_5_method_4_code
def yX3_takesLetter : MethodName := ⟨RX3, "takesLetter", "(I)Z"⟩
abbrev cX3_takesFigure : ByteArray := prog_5_method_5_code
def yX3_takesFigure : MethodName := ⟨RX3, "takesFigure", "(I)Z"⟩
abbrev cX3_isDue : ByteArray := prog_5_method_6_code
def yX3_isDue : MethodName := ⟨RX3, "isDue", "(I)Z"⟩
abbrev cX3_takesEnd : ByteArray := prog_5_method_7_code
def yX3_takesEnd : MethodName := ⟨RX3, "takesEnd", "(I)Z"⟩
abbrev cX3_obeys : ByteArray := prog_5_method_8_code
def yX3_obeys : MethodName := ⟨RX3, "obeys", "()Z"⟩
def RX4 : String := "CarriedSets$Setup"
def TX4 : u_T := fun k => match k with
  | 0 => ("CarriedSets$Setup", "n", "I", false)
  | 1 => ("CarriedSets$Setup", "count", "I", false)
  | _ => ("CarriedSets$Setup", "generators", "[I", true)
def tyX4 : Nat → FieldType := fun k => match k with
  | 0 => .int
  | 1 => .int
  | _ => .array .int
theorem nmX4 : ∀ a, a < 3 → ∀ b, b < 3 → a ≠ b → (TX4 a).2.1 ≠ (TX4 b).2.1 := by decide +kernel
theorem tyX4_ok : ∀ k, k < 3 → parseFieldDescriptor (TX4 k).2.2.1 = some (tyX4 k) := by decide +kernel
abbrev cX4_init : ByteArray := prog_6_method_1_code
def yX4_init : MethodName := ⟨RX4, "<init>", "()V"⟩
abbrev cX4_start : ByteArray := prog_6_method_2_code
def yX4_start : MethodName := ⟨RX4, "start", "(I)V"⟩
abbrev cX4_generator : ByteArray := prog_6_method_3_code
def yX4_generator : MethodName := ⟨RX4, "generator", "(I)I"⟩
abbrev cX4_adds : ByteArray := prog_6_method_4_code
def yX4_adds : MethodName := ⟨RX4, "adds", "(I)Z"⟩
abbrev cX4_loses : ByteArray := prog_6_method_5_code
def yX4_loses : MethodName := ⟨RX4, "loses", "(I)Z"⟩
abbrev cX4_copy : ByteArray := prog_6_method_6_code
def yX4_copy : MethodName := ⟨RX4, "copy", "(LCarriedSets$Setup;)V"⟩
def RX5 : String := "CarriedSets$States"
def TX5 : u_T := fun k => match k with
  | 0 => ("CarriedSets$States", "count", "I", false)
  | _ => ("CarriedSets$States", "rows", "[LCarriedSets$Setup;", true)
def tyX5 : Nat → FieldType := fun k => match k with
  | 0 => .int
  | _ => .array (.object "CarriedSets$Setup")
theorem nmX5 : ∀ a, a < 2 → ∀ b, b < 2 → a ≠ b → (TX5 a).2.1 ≠ (TX5 b).2.1 := by decide +kernel
theorem tyX5_ok : ∀ k, k < 2 → parseFieldDescriptor (TX5 k).2.2.1 = some (tyX5 k) := by decide +kernel
abbrev cX5_init : ByteArray := prog_7_method_1_code
def yX5_init : MethodName := ⟨RX5, "<init>", "()V"⟩
abbrev cX5_push : ByteArray := prog_7_method_2_code
def yX5_push : MethodName := ⟨RX5, "push", "(LCarriedSets$Setup;)V"⟩
abbrev cX5_pop : ByteArray := prog_7_method_3_code
def yX5_pop : MethodName := ⟨RX5, "pop", "(LCarriedSets$Setup;)V"⟩
abbrev cX5_loseOldest : ByteArray := prog_7_method_4_code
def yX5_loseOldest : MethodName := ⟨RX5, "loseOldest", "()V"⟩
def RX6 : String := "CarriedSets$Text"
def TX6 : u_T := fun k => match k with
  | 0 => ("CarriedSets$Text", "length", "I", false)
  | _ => ("CarriedSets$Text", "bytes", "[B", true)
def tyX6 : Nat → FieldType := fun k => match k with
  | 0 => .int
  | _ => .array .byte
theorem nmX6 : ∀ a, a < 2 → ∀ b, b < 2 → a ≠ b → (TX6 a).2.1 ≠ (TX6 b).2.1 := by decide +kernel
theorem tyX6_ok : ∀ k, k < 2 → parseFieldDescriptor (TX6 k).2.2.1 = some (tyX6 k) := by decide +kernel
abbrev cX6_init : ByteArray := prog_8_method_1_code
def yX6_init : MethodName := ⟨RX6, "<init>", "()V"⟩
abbrev cX6_add : ByteArray := prog_8_method_2_code
def yX6_add : MethodName := ⟨RX6, "add", "(I)V"⟩
abbrev cX6_at : ByteArray := prog_8_method_3_code
def yX6_at : MethodName := ⟨RX6, "at", "(I)I"⟩
def RX7 : String := "CarriedSets"
def TX7 : u_T := fun k => match k with
  | 0 => ("CarriedSets", "now", "LCarriedSets$Setup;", true)
  | 1 => ("CarriedSets", "states", "LCarriedSets$States;", true)
  | 2 => ("CarriedSets", "text", "LCarriedSets$Text;", true)
  | 3 => ("CarriedSets", "reader", "LCarriedSets$Reader;", true)
  | 4 => ("CarriedSets", "elements", "LCarriedSets$Elements;", true)
  | 5 => ("CarriedSets", "carried", "LCarriedSets$Carried;", true)
  | 6 => ("CarriedSets", "fits", "Z", false)
  | 7 => ("CarriedSets", "refusedBad", "I", false)
  | 8 => ("CarriedSets", "refusedNo", "I", false)
  | _ => ("CarriedSets", "refusedFull", "I", false)
def tyX7 : Nat → FieldType := fun k => match k with
  | 0 => .object "CarriedSets$Setup"
  | 1 => .object "CarriedSets$States"
  | 2 => .object "CarriedSets$Text"
  | 3 => .object "CarriedSets$Reader"
  | 4 => .object "CarriedSets$Elements"
  | 5 => .object "CarriedSets$Carried"
  | 6 => .boolean
  | 7 => .int
  | 8 => .int
  | _ => .int
theorem nmX7 : ∀ a, a < 10 → ∀ b, b < 10 → a ≠ b → (TX7 a).2.1 ≠ (TX7 b).2.1 := by decide +kernel
theorem tyX7_ok : ∀ k, k < 10 → parseFieldDescriptor (TX7 k).2.2.1 = some (tyX7 k) := by decide +kernel
abbrev cX7_init : ByteArray := prog_1_method_1_code
def yX7_init : MethodName := ⟨RX7, "<init>", "()V"⟩
abbrev cX7_points : ByteArray := prog_1_method_2_code
def yX7_points : MethodName := ⟨RX7, "points", "(I)I"⟩
abbrev cX7_moves : ByteArray := prog_1_method_3_code
def yX7_moves : MethodName := ⟨RX7, "moves", "(I)I"⟩
abbrev cX7_drops : ByteArray := prog_1_method_4_code
def yX7_drops : MethodName := ⟨RX7, "drops", "(I)I"⟩
abbrev cX7_order : ByteArray := prog_1_method_5_code
def yX7_order : MethodName := ⟨RX7, "order", "()I"⟩
abbrev cX7_of : ByteArray := prog_1_method_6_code
def yX7_of : MethodName := ⟨RX7, "of", "(II)I"⟩
abbrev cX7_number : ByteArray := prog_1_method_7_code
def yX7_number : MethodName := ⟨RX7, "number", "(I)I"⟩
abbrev cX7_element : ByteArray := prog_1_method_8_code
def yX7_element : MethodName := ⟨RX7, "element", "(I)I"⟩
abbrev cX7_image : ByteArray := prog_1_method_9_code
def yX7_image : MethodName := ⟨RX7, "image", "(II)I"⟩
abbrev cX7_least : ByteArray := prog_1_method_10_code
def yX7_least : MethodName := ⟨RX7, "least", "(I)I"⟩
abbrev cX7_images : ByteArray := prog_1_method_11_code
def yX7_images : MethodName := ⟨RX7, "images", "(II)I"⟩
abbrev cX7_carrier : ByteArray := prog_1_method_12_code
def yX7_carrier : MethodName := ⟨RX7, "carrier", "(II)I"⟩
abbrev cX7_holds : ByteArray := prog_1_method_13_code
def yX7_holds : MethodName := ⟨RX7, "holds", "(I)I"⟩
abbrev cX7_heads : ByteArray := prog_1_method_14_code
def yX7_heads : MethodName := ⟨RX7, "heads", "(II)I"⟩
abbrev cX7_head : ByteArray := prog_1_method_15_code
def yX7_head : MethodName := ⟨RX7, "head", "(I)I"⟩
abbrev cX7_type : ByteArray := prog_1_method_16_code
def yX7_type : MethodName := ⟨RX7, "type", "(I)I"⟩
abbrev cX7_clear : ByteArray := prog_1_method_17_code
def yX7_clear : MethodName := ⟨RX7, "clear", "()I"⟩
abbrev cX7_reads : ByteArray := prog_1_method_18_code
def yX7_reads : MethodName := ⟨RX7, "reads", "()I"⟩
abbrev cX7_back : ByteArray := prog_1_method_19_code
def yX7_back : MethodName := ⟨RX7, "back", "()I"⟩
abbrev cX7_told : ByteArray := prog_1_method_20_code
def yX7_told : MethodName := ⟨RX7, "told", "(I)I"⟩
abbrev cX7_digest : ByteArray := prog_1_method_21_code
def yX7_digest : MethodName := ⟨RX7, "digest", "()J"⟩
abbrev cX7_refuse : ByteArray := prog_1_method_22_code
def yX7_refuse : MethodName := ⟨RX7, "refuse", "(I)I"⟩
abbrev cX7_isSet : ByteArray := prog_1_method_23_code
def yX7_isSet : MethodName := ⟨RX7, "isSet", "(I)Z"⟩
abbrev cX7_keepState : ByteArray := prog_1_method_24_code
def yX7_keepState : MethodName := ⟨RX7, "keepState", "()V"⟩
abbrev cX7_fit : ByteArray := prog_1_method_25_code
def yX7_fit : MethodName := ⟨RX7, "fit", "()V"⟩
abbrev cX7_tellPoint : ByteArray := prog_1_method_26_code
def yX7_tellPoint : MethodName := ⟨RX7, "tellPoint", "(II)I"⟩
abbrev cX7_tell : ByteArray := prog_1_method_27_code
def yX7_tell : MethodName := ⟨RX7, "tell", "(I)I"⟩
def RX8 : String := "CarriedSetsModel"
def TX8 : u_T := fun k => match k with
  | 0 => ("CarriedSetsModel", "now", "[I", true)
  | 1 => ("CarriedSetsModel", "held", "[I", true)
  | 2 => ("CarriedSetsModel", "past", "[I", true)
  | 3 => ("CarriedSetsModel", "pasts", "I", false)
  | 4 => ("CarriedSetsModel", "refused", "[I", true)
  | 5 => ("CarriedSetsModel", "figures", "[I", true)
  | 6 => ("CarriedSetsModel", "isLaid", "Z", false)
  | 7 => ("CarriedSetsModel", "many", "I", false)
  | 8 => ("CarriedSetsModel", "isMade", "[Z", true)
  | 9 => ("CarriedSetsModel", "made", "[I", true)
  | 10 => ("CarriedSetsModel", "images", "[I", true)
  | 11 => ("CarriedSetsModel", "orbits", "[I", true)
  | 12 => ("CarriedSetsModel", "chains", "[I", true)
  | 13 => ("CarriedSetsModel", "isCarried", "[Z", true)
  | 14 => ("CarriedSetsModel", "carried", "[I", true)
  | 15 => ("CarriedSetsModel", "carriedMany", "I", false)
  | 16 => ("CarriedSetsModel", "isSorted", "Z", false)
  | 17 => ("CarriedSetsModel", "leasts", "[I", true)
  | 18 => ("CarriedSetsModel", "heads", "[I", true)
  | 19 => ("CarriedSetsModel", "headFrom", "[I", true)
  | 20 => ("CarriedSetsModel", "text", "[I", true)
  | 21 => ("CarriedSetsModel", "typed", "I", false)
  | 22 => ("CarriedSetsModel", "at", "I", false)
  | 23 => ("CarriedSetsModel", "fault", "I", false)
  | 24 => ("CarriedSetsModel", "orders", "I", false)
  | 25 => ("CarriedSetsModel", "pointsThen", "I", false)
  | 26 => ("CarriedSetsModel", "letters", "[I", true)
  | 27 => ("CarriedSetsModel", "numbers", "[I", true)
  | _ => ("CarriedSetsModel", "h", "J", false)
def tyX8 : Nat → FieldType := fun k => match k with
  | 0 => .array .int
  | 1 => .array .int
  | 2 => .array .int
  | 3 => .int
  | 4 => .array .int
  | 5 => .array .int
  | 6 => .boolean
  | 7 => .int
  | 8 => .array .boolean
  | 9 => .array .int
  | 10 => .array .int
  | 11 => .array .int
  | 12 => .array .int
  | 13 => .array .boolean
  | 14 => .array .int
  | 15 => .int
  | 16 => .boolean
  | 17 => .array .int
  | 18 => .array .int
  | 19 => .array .int
  | 20 => .array .int
  | 21 => .int
  | 22 => .int
  | 23 => .int
  | 24 => .int
  | 25 => .int
  | 26 => .array .int
  | 27 => .array .int
  | _ => .long
theorem nmX8 : ∀ a, a < 29 → ∀ b, b < 29 → a ≠ b → (TX8 a).2.1 ≠ (TX8 b).2.1 := by decide +kernel
theorem tyX8_ok : ∀ k, k < 29 → parseFieldDescriptor (TX8 k).2.2.1 = some (tyX8 k) := by decide +kernel
abbrev cX8_init : ByteArray := prog_10_method_1_code
def yX8_init : MethodName := ⟨RX8, "<init>", "()V"⟩
abbrev cX8_in : ByteArray := prog_10_method_2_code
def yX8_in : MethodName := ⟨RX8, "in", "(III)Z"⟩
abbrev cX8_has : ByteArray := prog_10_method_3_code
def yX8_has : MethodName := ⟨RX8, "has", "(II)Z"⟩
abbrev cX8_refuses : ByteArray := prog_10_method_4_code
def yX8_refuses : MethodName := ⟨RX8, "refuses", "(I)I"⟩
abbrev cX8_hold : ByteArray := prog_10_method_5_code
def yX8_hold : MethodName := ⟨RX8, "hold", "()V"⟩
abbrev cX8_push : ByteArray := prog_10_method_6_code
def yX8_push : MethodName := ⟨RX8, "push", "()V"⟩
abbrev cX8_ends : ByteArray := prog_10_method_7_code
def yX8_ends : MethodName := ⟨RX8, "ends", "(I)I"⟩
abbrev cX8_back : ByteArray := prog_10_method_8_code
def yX8_back : MethodName := ⟨RX8, "back", "()I"⟩
abbrev cX8_open : ByteArray := prog_10_method_9_code
def yX8_open : MethodName := ⟨RX8, "open", "(I)V"⟩
abbrev cX8_isMove : ByteArray := prog_10_method_10_code
def yX8_isMove : MethodName := ⟨RX8, "isMove", "(I)Z"⟩
abbrev cX8_placeOf : ByteArray := prog_10_method_11_code
def yX8_placeOf : MethodName := ⟨RX8, "placeOf", "()I"⟩
abbrev cX8_codeAt : ByteArray := prog_10_method_12_code
def yX8_codeAt : MethodName := ⟨RX8, "codeAt", "(I)I"⟩
abbrev cX8_doPoints : ByteArray := prog_10_method_13_code
def yX8_doPoints : MethodName := ⟨RX8, "doPoints", "(I)I"⟩
abbrev cX8_doMoves : ByteArray := prog_10_method_14_code
def yX8_doMoves : MethodName := ⟨RX8, "doMoves", "(I)I"⟩
abbrev cX8_doDrops : ByteArray := prog_10_method_15_code
def yX8_doDrops : MethodName := ⟨RX8, "doDrops", "(I)I"⟩
abbrev cX8_points : ByteArray := prog_10_method_16_code
def yX8_points : MethodName := ⟨RX8, "points", "(I)I"⟩
abbrev cX8_moves : ByteArray := prog_10_method_17_code
def yX8_moves : MethodName := ⟨RX8, "moves", "(I)I"⟩
abbrev cX8_drops : ByteArray := prog_10_method_18_code
def yX8_drops : MethodName := ⟨RX8, "drops", "(I)I"⟩
abbrev cX8_mark : ByteArray := prog_10_method_19_code
def yX8_mark : MethodName := ⟨RX8, "mark", "(I)V"⟩
abbrev cX8_lay : ByteArray := prog_10_method_20_code
def yX8_lay : MethodName := ⟨RX8, "lay", "()V"⟩
abbrev cX8_sortMade : ByteArray := prog_10_method_21_code
def yX8_sortMade : MethodName := ⟨RX8, "sortMade", "()V"⟩
abbrev cX8_findChains : ByteArray := prog_10_method_22_code
def yX8_findChains : MethodName := ⟨RX8, "findChains", "()V"⟩
abbrev cX8_order : ByteArray := prog_10_method_23_code
def yX8_order : MethodName := ⟨RX8, "order", "()I"⟩
abbrev cX8_lowest : ByteArray := prog_10_method_24_code
def yX8_lowest : MethodName := ⟨RX8, "lowest", "(I)I"⟩
abbrev cX8_ofPoint : ByteArray := prog_10_method_25_code
def yX8_ofPoint : MethodName := ⟨RX8, "ofPoint", "(II)I"⟩
abbrev cX8_of : ByteArray := prog_10_method_26_code
def yX8_of : MethodName := ⟨RX8, "of", "(II)I"⟩
abbrev cX8_number : ByteArray := prog_10_method_27_code
def yX8_number : MethodName := ⟨RX8, "number", "(I)I"⟩
abbrev cX8_element : ByteArray := prog_10_method_28_code
def yX8_element : MethodName := ⟨RX8, "element", "(I)I"⟩
abbrev cX8_isSet : ByteArray := prog_10_method_29_code
def yX8_isSet : MethodName := ⟨RX8, "isSet", "(I)Z"⟩
abbrev cX8_imageOf : ByteArray := prog_10_method_30_code
def yX8_imageOf : MethodName := ⟨RX8, "imageOf", "(I)I"⟩
abbrev cX8_size : ByteArray := prog_10_method_31_code
def yX8_size : MethodName := ⟨RX8, "size", "(I)I"⟩
abbrev cX8_turned : ByteArray := prog_10_method_32_code
def yX8_turned : MethodName := ⟨RX8, "turned", "(I)I"⟩
abbrev cX8_image : ByteArray := prog_10_method_33_code
def yX8_image : MethodName := ⟨RX8, "image", "(II)I"⟩
abbrev cX8_carry : ByteArray := prog_10_method_34_code
def yX8_carry : MethodName := ⟨RX8, "carry", "(I)V"⟩
abbrev cX8_findImages : ByteArray := prog_10_method_35_code
def yX8_findImages : MethodName := ⟨RX8, "findImages", "(I)V"⟩
abbrev cX8_sortSets : ByteArray := prog_10_method_36_code
def yX8_sortSets : MethodName := ⟨RX8, "sortSets", "()V"⟩
abbrev cX8_leastOf : ByteArray := prog_10_method_37_code
def yX8_leastOf : MethodName := ⟨RX8, "leastOf", "(I)I"⟩
abbrev cX8_least : ByteArray := prog_10_method_38_code
def yX8_least : MethodName := ⟨RX8, "least", "(I)I"⟩
abbrev cX8_images : ByteArray := prog_10_method_39_code
def yX8_images : MethodName := ⟨RX8, "images", "(II)I"⟩
abbrev cX8_carrier : ByteArray := prog_10_method_40_code
def yX8_carrier : MethodName := ⟨RX8, "carrier", "(II)I"⟩
abbrev cX8_holds : ByteArray := prog_10_method_41_code
def yX8_holds : MethodName := ⟨RX8, "holds", "(I)I"⟩
abbrev cX8_headsOf : ByteArray := prog_10_method_42_code
def yX8_headsOf : MethodName := ⟨RX8, "headsOf", "(II)I"⟩
abbrev cX8_heads : ByteArray := prog_10_method_43_code
def yX8_heads : MethodName := ⟨RX8, "heads", "(II)I"⟩
abbrev cX8_head : ByteArray := prog_10_method_44_code
def yX8_head : MethodName := ⟨RX8, "head", "(I)I"⟩
abbrev cX8_type : ByteArray := prog_10_method_45_code
def yX8_type : MethodName := ⟨RX8, "type", "(I)I"⟩
abbrev cX8_clear : ByteArray := prog_10_method_46_code
def yX8_clear : MethodName := ⟨RX8, "clear", "()I"⟩
abbrev cX8_here : ByteArray := prog_10_method_47_code
def yX8_here : MethodName := ⟨RX8, "here", "()I"⟩
abbrev cX8_must : ByteArray := prog_10_method_48_code
def yX8_must : MethodName := ⟨RX8, "must", "(Z)V"⟩
abbrev cX8_figure : ByteArray := prog_10_method_49_code
def yX8_figure : MethodName := ⟨RX8, "figure", "(II)I"⟩
abbrev cX8_readMove : ByteArray := prog_10_method_50_code
def yX8_readMove : MethodName := ⟨RX8, "readMove", "()I"⟩
abbrev cX8_readOrder : ByteArray := prog_10_method_51_code
def yX8_readOrder : MethodName := ⟨RX8, "readOrder", "()V"⟩
abbrev cX8_doOrder : ByteArray := prog_10_method_52_code
def yX8_doOrder : MethodName := ⟨RX8, "doOrder", "(I)I"⟩
abbrev cX8_reads : ByteArray := prog_10_method_53_code
def yX8_reads : MethodName := ⟨RX8, "reads", "()I"⟩
abbrev cX8_toldOf : ByteArray := prog_10_method_54_code
def yX8_toldOf : MethodName := ⟨RX8, "toldOf", "(I)I"⟩
abbrev cX8_told : ByteArray := prog_10_method_55_code
def yX8_told : MethodName := ⟨RX8, "told", "(I)I"⟩
abbrev cX8_mix : ByteArray := prog_10_method_56_code
def yX8_mix : MethodName := ⟨RX8, "mix", "(I)V"⟩
abbrev cX8_digest : ByteArray := prog_10_method_57_code
def yX8_digest : MethodName := ⟨RX8, "digest", "()J"⟩
def RJ6 : String := "java/lang/Integer"
def TJ6 : u_T := fun k => match k with
  | _ => ("", "", "", false)
def tyJ6 : Nat → FieldType := fun k => match k with
  | _ => .int
theorem nmJ6 : ∀ a, a < 0 → ∀ b, b < 0 → a ≠ b → (TJ6 a).2.1 ≠ (TJ6 b).2.1 := by decide +kernel
theorem tyJ6_ok : ∀ k, k < 0 → parseFieldDescriptor (TJ6 k).2.2.1 = some (tyJ6 k) := by decide +kernel
abbrev cJ6_bitCount_0f7a4 : ByteArray := prog_11_method_49_code
def yJ6_bitCount_0f7a4 : MethodName := ⟨RJ6, "bitCount", "(I)I"⟩
def RJ9 : String := "java/lang/Math"
def TJ9 : u_T := fun k => match k with
  | _ => ("", "", "", false)
def tyJ9 : Nat → FieldType := fun k => match k with
  | _ => .int
theorem nmJ9 : ∀ a, a < 0 → ∀ b, b < 0 → a ≠ b → (TJ9 a).2.1 ≠ (TJ9 b).2.1 := by decide +kernel
theorem tyJ9_ok : ∀ k, k < 0 → parseFieldDescriptor (TJ9 k).2.2.1 = some (tyJ9 k) := by decide +kernel
abbrev cJ9_max_7cf53 : ByteArray := prog_12_method_65_code
def yJ9_max_7cf53 : MethodName := ⟨RJ9, "max", "(II)I"⟩
abbrev cJ9_min_7cf53 : ByteArray := prog_12_method_69_code
def yJ9_min_7cf53 : MethodName := ⟨RJ9, "min", "(II)I"⟩
def RJ10 : String := "java/lang/System"
def TJ10 : u_T := fun k => match k with
  | _ => ("", "", "", false)
def tyJ10 : Nat → FieldType := fun k => match k with
  | _ => .int
theorem nmJ10 : ∀ a, a < 0 → ∀ b, b < 0 → a ≠ b → (TJ10 a).2.1 ≠ (TJ10 b).2.1 := by decide +kernel
theorem tyJ10_ok : ∀ k, k < 0 → parseFieldDescriptor (TJ10 k).2.2.1 = some (tyJ10 k) := by decide +kernel
def RJ7 : String := "java/util/Arrays"
def TJ7 : u_T := fun k => match k with
  | _ => ("", "", "", false)
def tyJ7 : Nat → FieldType := fun k => match k with
  | _ => .int
theorem nmJ7 : ∀ a, a < 0 → ∀ b, b < 0 → a ≠ b → (TJ7 a).2.1 ≠ (TJ7 b).2.1 := by decide +kernel
theorem tyJ7_ok : ∀ k, k < 0 → parseFieldDescriptor (TJ7 k).2.2.1 = some (tyJ7 k) := by decide +kernel
abbrev cJ7_fill_53178 : ByteArray := prog_14_method_103_code
def yJ7_fill_53178 : MethodName := ⟨RJ7, "fill", "([II)V"⟩
def RL : String := "CarriedSetsLaw"
abbrev cL_law : ByteArray := code
def yL_law : MethodName := ⟨RL, "law", "([I)Z"⟩
abbrev vwCl : List vw_C := [(RX0, TX0, 7), (RX1, TX1, 8), (RX3, TX3, 8), (RX4, TX4, 3), (RX5, TX5, 2), (RX6, TX6, 2), (RX7, TX7, 10), (RX8, TX8, 29)]
end
section
def xtb : List Cond := lw_tbl.filter goodWord
theorem tw_r (i : Nat) {w : Cond} (h : lw_tbl[i]? = some w) (hg : goodWord w = true) : w ∈ xtb := List.mem_filter.mpr ⟨List.mem_of_getElem? h, hg⟩
theorem tw_in {ws : List Cond} (ps : List Nat) (hp : ws = ps.filterMap (fun i => lw_tbl[i]?)) (hg : ws.all goodWord = true) : ∀ w ∈ ws, w ∈ xtb := by
  intro w hw
  have h2 := List.all_eq_true.mp hg w hw
  rw [hp] at hw
  obtain ⟨i, -, hi⟩ := List.mem_filterMap.mp hw
  exact List.mem_filter.mpr ⟨List.mem_of_getElem? hi, h2⟩
theorem tw_good : ∀ w ∈ xtb, goodWord w = true := fun w h => (List.mem_filter.mp h).2
theorem inX0 : ∀ w ∈ u_ws RX0 TX0 7, w ∈ xtb := tw_in [215, 217, 219, 221, 223, 225, 227] (by decide +kernel) (by decide +kernel)
theorem inX1 : ∀ w ∈ u_ws RX1 TX1 8, w ∈ xtb := tw_in [182, 184, 186, 188, 190, 192, 194, 196] (by decide +kernel) (by decide +kernel)
theorem inX3 : ∀ w ∈ u_ws RX3 TX3 8, w ∈ xtb := tw_in [151, 153, 155, 157, 159, 161, 163, 165] (by decide +kernel) (by decide +kernel)
theorem inX4 : ∀ w ∈ u_ws RX4 TX4 3, w ∈ xtb := tw_in [91, 93, 95] (by decide +kernel) (by decide +kernel)
theorem inX5 : ∀ w ∈ u_ws RX5 TX5 2, w ∈ xtb := tw_in [111, 113] (by decide +kernel) (by decide +kernel)
theorem inX6 : ∀ w ∈ u_ws RX6 TX6 2, w ∈ xtb := tw_in [126, 128] (by decide +kernel) (by decide +kernel)
theorem inX7 : ∀ w ∈ u_ws RX7 TX7 10, w ∈ xtb := tw_in [240, 242, 244, 246, 248, 250, 252, 254, 256, 258] (by decide +kernel) (by decide +kernel)
theorem inX8 : ∀ w ∈ u_ws RX8 TX8 29, w ∈ xtb := tw_in [649, 651, 653, 655, 657, 659, 661, 663, 665, 667, 669, 671, 673, 675, 677, 679, 681, 683, 685, 687, 689, 691, 693, 695, 697, 699, 701, 703, 705] (by decide +kernel) (by decide +kernel)
theorem lkF_X4_9 : Cond.fieldLink RX4 9 "CarriedSets$Setup" "n" "I" ∈ xtb := tw_r 83 (by decide +kernel) (by decide +kernel)
theorem lkF_X7_69 : Cond.fieldLink RX7 69 "CarriedSets$Setup" "n" "I" ∈ xtb := tw_r 84 (by decide +kernel) (by decide +kernel)
theorem lkF_X1_37 : Cond.fieldLink RX1 37 "CarriedSets$Setup" "n" "I" ∈ xtb := tw_r 85 (by decide +kernel) (by decide +kernel)
theorem lkF_X3_69 : Cond.fieldLink RX3 69 "CarriedSets$Setup" "n" "I" ∈ xtb := tw_r 86 (by decide +kernel) (by decide +kernel)
theorem lkF_X4_15 : Cond.fieldLink RX4 15 "CarriedSets$Setup" "count" "I" ∈ xtb := tw_r 87 (by decide +kernel) (by decide +kernel)
theorem lkF_X7_85 : Cond.fieldLink RX7 85 "CarriedSets$Setup" "count" "I" ∈ xtb := tw_r 88 (by decide +kernel) (by decide +kernel)
theorem lkF_X1_43 : Cond.fieldLink RX1 43 "CarriedSets$Setup" "count" "I" ∈ xtb := tw_r 89 (by decide +kernel) (by decide +kernel)
theorem lkF_X4_18 : Cond.fieldLink RX4 18 "CarriedSets$Setup" "generators" "[I" ∈ xtb := tw_r 90 (by decide +kernel) (by decide +kernel)
theorem lkF_X5_9 : Cond.fieldLink RX5 9 "CarriedSets$States" "count" "I" ∈ xtb := tw_r 108 (by decide +kernel) (by decide +kernel)
theorem lkF_X7_169 : Cond.fieldLink RX7 169 "CarriedSets$States" "count" "I" ∈ xtb := tw_r 109 (by decide +kernel) (by decide +kernel)
theorem lkF_X5_17 : Cond.fieldLink RX5 17 "CarriedSets$States" "rows" "[LCarriedSets$Setup;" ∈ xtb := tw_r 110 (by decide +kernel) (by decide +kernel)
theorem lkF_X6_9 : Cond.fieldLink RX6 9 "CarriedSets$Text" "length" "I" ∈ xtb := tw_r 122 (by decide +kernel) (by decide +kernel)
theorem lkF_X3_44 : Cond.fieldLink RX3 44 "CarriedSets$Text" "length" "I" ∈ xtb := tw_r 123 (by decide +kernel) (by decide +kernel)
theorem lkF_X7_147 : Cond.fieldLink RX7 147 "CarriedSets$Text" "length" "I" ∈ xtb := tw_r 124 (by decide +kernel) (by decide +kernel)
theorem lkF_X6_15 : Cond.fieldLink RX6 15 "CarriedSets$Text" "bytes" "[B" ∈ xtb := tw_r 125 (by decide +kernel) (by decide +kernel)
theorem lkF_X3_12 : Cond.fieldLink RX3 12 "CarriedSets$Reader" "trial" "LCarriedSets$Setup;" ∈ xtb := tw_r 140 (by decide +kernel) (by decide +kernel)
theorem lkF_X7_159 : Cond.fieldLink RX7 159 "CarriedSets$Reader" "trial" "LCarriedSets$Setup;" ∈ xtb := tw_r 141 (by decide +kernel) (by decide +kernel)
theorem lkF_X3_18 : Cond.fieldLink RX3 18 "CarriedSets$Reader" "done" "I" ∈ xtb := tw_r 142 (by decide +kernel) (by decide +kernel)
theorem lkF_X7_166 : Cond.fieldLink RX7 166 "CarriedSets$Reader" "done" "I" ∈ xtb := tw_r 143 (by decide +kernel) (by decide +kernel)
theorem lkF_X3_22 : Cond.fieldLink RX3 22 "CarriedSets$Reader" "stopped" "I" ∈ xtb := tw_r 144 (by decide +kernel) (by decide +kernel)
theorem lkF_X7_156 : Cond.fieldLink RX7 156 "CarriedSets$Reader" "stopped" "I" ∈ xtb := tw_r 145 (by decide +kernel) (by decide +kernel)
theorem lkF_X3_25 : Cond.fieldLink RX3 25 "CarriedSets$Reader" "due" "I" ∈ xtb := tw_r 146 (by decide +kernel) (by decide +kernel)
theorem lkF_X3_28 : Cond.fieldLink RX3 28 "CarriedSets$Reader" "letter" "I" ∈ xtb := tw_r 147 (by decide +kernel) (by decide +kernel)
theorem lkF_X3_31 : Cond.fieldLink RX3 31 "CarriedSets$Reader" "value" "I" ∈ xtb := tw_r 148 (by decide +kernel) (by decide +kernel)
theorem lkF_X3_34 : Cond.fieldLink RX3 34 "CarriedSets$Reader" "figures" "I" ∈ xtb := tw_r 149 (by decide +kernel) (by decide +kernel)
theorem lkF_X3_37 : Cond.fieldLink RX3 37 "CarriedSets$Reader" "seen" "I" ∈ xtb := tw_r 150 (by decide +kernel) (by decide +kernel)
theorem lkF_X1_9 : Cond.fieldLink RX1 9 "CarriedSets$Elements" "n" "I" ∈ xtb := tw_r 174 (by decide +kernel) (by decide +kernel)
theorem lkF_X1_15 : Cond.fieldLink RX1 15 "CarriedSets$Elements" "steps" "[I" ∈ xtb := tw_r 175 (by decide +kernel) (by decide +kernel)
theorem lkF_X1_19 : Cond.fieldLink RX1 19 "CarriedSets$Elements" "undoing" "[I" ∈ xtb := tw_r 176 (by decide +kernel) (by decide +kernel)
theorem lkF_X1_22 : Cond.fieldLink RX1 22 "CarriedSets$Elements" "chains" "[I" ∈ xtb := tw_r 177 (by decide +kernel) (by decide +kernel)
theorem lkF_X1_25 : Cond.fieldLink RX1 25 "CarriedSets$Elements" "leaving" "[I" ∈ xtb := tw_r 178 (by decide +kernel) (by decide +kernel)
theorem lkF_X1_28 : Cond.fieldLink RX1 28 "CarriedSets$Elements" "found" "[I" ∈ xtb := tw_r 179 (by decide +kernel) (by decide +kernel)
theorem lkF_X1_31 : Cond.fieldLink RX1 31 "CarriedSets$Elements" "foundAt" "[I" ∈ xtb := tw_r 180 (by decide +kernel) (by decide +kernel)
theorem lkF_X1_34 : Cond.fieldLink RX1 34 "CarriedSets$Elements" "foundCount" "I" ∈ xtb := tw_r 181 (by decide +kernel) (by decide +kernel)
theorem lkF_X0_9 : Cond.fieldLink RX0 9 "CarriedSets$Carried" "n" "I" ∈ xtb := tw_r 208 (by decide +kernel) (by decide +kernel)
theorem lkF_X0_15 : Cond.fieldLink RX0 15 "CarriedSets$Carried" "inOrder" "[I" ∈ xtb := tw_r 209 (by decide +kernel) (by decide +kernel)
theorem lkF_X0_19 : Cond.fieldLink RX0 19 "CarriedSets$Carried" "starts" "[I" ∈ xtb := tw_r 210 (by decide +kernel) (by decide +kernel)
theorem lkF_X0_22 : Cond.fieldLink RX0 22 "CarriedSets$Carried" "firsts" "[I" ∈ xtb := tw_r 211 (by decide +kernel) (by decide +kernel)
theorem lkF_X0_25 : Cond.fieldLink RX0 25 "CarriedSets$Carried" "reached" "[I" ∈ xtb := tw_r 212 (by decide +kernel) (by decide +kernel)
theorem lkF_X0_28 : Cond.fieldLink RX0 28 "CarriedSets$Carried" "reachedAt" "[I" ∈ xtb := tw_r 213 (by decide +kernel) (by decide +kernel)
theorem lkF_X0_31 : Cond.fieldLink RX0 31 "CarriedSets$Carried" "reachedCount" "I" ∈ xtb := tw_r 214 (by decide +kernel) (by decide +kernel)
theorem lkF_X7_10 : Cond.fieldLink RX7 10 "CarriedSets" "now" "LCarriedSets$Setup;" ∈ xtb := tw_r 230 (by decide +kernel) (by decide +kernel)
theorem lkF_X7_19 : Cond.fieldLink RX7 19 "CarriedSets" "states" "LCarriedSets$States;" ∈ xtb := tw_r 231 (by decide +kernel) (by decide +kernel)
theorem lkF_X7_26 : Cond.fieldLink RX7 26 "CarriedSets" "text" "LCarriedSets$Text;" ∈ xtb := tw_r 232 (by decide +kernel) (by decide +kernel)
theorem lkF_X7_33 : Cond.fieldLink RX7 33 "CarriedSets" "reader" "LCarriedSets$Reader;" ∈ xtb := tw_r 233 (by decide +kernel) (by decide +kernel)
theorem lkF_X7_40 : Cond.fieldLink RX7 40 "CarriedSets" "elements" "LCarriedSets$Elements;" ∈ xtb := tw_r 234 (by decide +kernel) (by decide +kernel)
theorem lkF_X7_47 : Cond.fieldLink RX7 47 "CarriedSets" "carried" "LCarriedSets$Carried;" ∈ xtb := tw_r 235 (by decide +kernel) (by decide +kernel)
theorem lkF_X7_51 : Cond.fieldLink RX7 51 "CarriedSets" "fits" "Z" ∈ xtb := tw_r 236 (by decide +kernel) (by decide +kernel)
theorem lkF_X7_55 : Cond.fieldLink RX7 55 "CarriedSets" "refusedBad" "I" ∈ xtb := tw_r 237 (by decide +kernel) (by decide +kernel)
theorem lkF_X7_59 : Cond.fieldLink RX7 59 "CarriedSets" "refusedNo" "I" ∈ xtb := tw_r 238 (by decide +kernel) (by decide +kernel)
theorem lkF_X7_62 : Cond.fieldLink RX7 62 "CarriedSets" "refusedFull" "I" ∈ xtb := tw_r 239 (by decide +kernel) (by decide +kernel)
theorem lkF_X8_7 : Cond.fieldLink RX8 7 "CarriedSetsModel" "now" "[I" ∈ xtb := tw_r 620 (by decide +kernel) (by decide +kernel)
theorem lkF_X8_13 : Cond.fieldLink RX8 13 "CarriedSetsModel" "held" "[I" ∈ xtb := tw_r 621 (by decide +kernel) (by decide +kernel)
theorem lkF_X8_16 : Cond.fieldLink RX8 16 "CarriedSetsModel" "past" "[I" ∈ xtb := tw_r 622 (by decide +kernel) (by decide +kernel)
theorem lkF_X8_66 : Cond.fieldLink RX8 66 "CarriedSetsModel" "pasts" "I" ∈ xtb := tw_r 623 (by decide +kernel) (by decide +kernel)
theorem lkF_X8_19 : Cond.fieldLink RX8 19 "CarriedSetsModel" "refused" "[I" ∈ xtb := tw_r 624 (by decide +kernel) (by decide +kernel)
theorem lkF_X8_22 : Cond.fieldLink RX8 22 "CarriedSetsModel" "figures" "[I" ∈ xtb := tw_r 625 (by decide +kernel) (by decide +kernel)
theorem lkF_X8_77 : Cond.fieldLink RX8 77 "CarriedSetsModel" "isLaid" "Z" ∈ xtb := tw_r 626 (by decide +kernel) (by decide +kernel)
theorem lkF_X8_111 : Cond.fieldLink RX8 111 "CarriedSetsModel" "many" "I" ∈ xtb := tw_r 627 (by decide +kernel) (by decide +kernel)
theorem lkF_X8_26 : Cond.fieldLink RX8 26 "CarriedSetsModel" "isMade" "[Z" ∈ xtb := tw_r 628 (by decide +kernel) (by decide +kernel)
theorem lkF_X8_30 : Cond.fieldLink RX8 30 "CarriedSetsModel" "made" "[I" ∈ xtb := tw_r 629 (by decide +kernel) (by decide +kernel)
theorem lkF_X8_33 : Cond.fieldLink RX8 33 "CarriedSetsModel" "images" "[I" ∈ xtb := tw_r 630 (by decide +kernel) (by decide +kernel)
theorem lkF_X8_36 : Cond.fieldLink RX8 36 "CarriedSetsModel" "orbits" "[I" ∈ xtb := tw_r 631 (by decide +kernel) (by decide +kernel)
theorem lkF_X8_39 : Cond.fieldLink RX8 39 "CarriedSetsModel" "chains" "[I" ∈ xtb := tw_r 632 (by decide +kernel) (by decide +kernel)
theorem lkF_X8_42 : Cond.fieldLink RX8 42 "CarriedSetsModel" "isCarried" "[Z" ∈ xtb := tw_r 633 (by decide +kernel) (by decide +kernel)
theorem lkF_X8_45 : Cond.fieldLink RX8 45 "CarriedSetsModel" "carried" "[I" ∈ xtb := tw_r 634 (by decide +kernel) (by decide +kernel)
theorem lkF_X8_150 : Cond.fieldLink RX8 150 "CarriedSetsModel" "carriedMany" "I" ∈ xtb := tw_r 635 (by decide +kernel) (by decide +kernel)
theorem lkF_X8_81 : Cond.fieldLink RX8 81 "CarriedSetsModel" "isSorted" "Z" ∈ xtb := tw_r 636 (by decide +kernel) (by decide +kernel)
theorem lkF_X8_48 : Cond.fieldLink RX8 48 "CarriedSetsModel" "leasts" "[I" ∈ xtb := tw_r 637 (by decide +kernel) (by decide +kernel)
theorem lkF_X8_51 : Cond.fieldLink RX8 51 "CarriedSetsModel" "heads" "[I" ∈ xtb := tw_r 638 (by decide +kernel) (by decide +kernel)
theorem lkF_X8_54 : Cond.fieldLink RX8 54 "CarriedSetsModel" "headFrom" "[I" ∈ xtb := tw_r 639 (by decide +kernel) (by decide +kernel)
theorem lkF_X8_57 : Cond.fieldLink RX8 57 "CarriedSetsModel" "text" "[I" ∈ xtb := tw_r 640 (by decide +kernel) (by decide +kernel)
theorem lkF_X8_174 : Cond.fieldLink RX8 174 "CarriedSetsModel" "typed" "I" ∈ xtb := tw_r 641 (by decide +kernel) (by decide +kernel)
theorem lkF_X8_177 : Cond.fieldLink RX8 177 "CarriedSetsModel" "at" "I" ∈ xtb := tw_r 642 (by decide +kernel) (by decide +kernel)
theorem lkF_X8_180 : Cond.fieldLink RX8 180 "CarriedSetsModel" "fault" "I" ∈ xtb := tw_r 643 (by decide +kernel) (by decide +kernel)
theorem lkF_X8_193 : Cond.fieldLink RX8 193 "CarriedSetsModel" "orders" "I" ∈ xtb := tw_r 644 (by decide +kernel) (by decide +kernel)
theorem lkF_X8_190 : Cond.fieldLink RX8 190 "CarriedSetsModel" "pointsThen" "I" ∈ xtb := tw_r 645 (by decide +kernel) (by decide +kernel)
theorem lkF_X8_60 : Cond.fieldLink RX8 60 "CarriedSetsModel" "letters" "[I" ∈ xtb := tw_r 646 (by decide +kernel) (by decide +kernel)
theorem lkF_X8_63 : Cond.fieldLink RX8 63 "CarriedSetsModel" "numbers" "[I" ∈ xtb := tw_r 647 (by decide +kernel) (by decide +kernel)
theorem lkF_X8_213 : Cond.fieldLink RX8 213 "CarriedSetsModel" "h" "J" ∈ xtb := tw_r 648 (by decide +kernel) (by decide +kernel)
theorem lkM_L_9 : Cond.methodLink RL 9 yX7_init ∈ xtb := tw_r 71 (by decide +kernel) (by decide +kernel)
theorem lkM_X7_1 : Cond.methodLink RX7 1 objectInit ∈ xtb := tw_r 74 (by decide +kernel) (by decide +kernel)
theorem lkN_X7_9 : Cond.methodLinkNest RX7 9 yX4_init "CarriedSets" ∈ lw_tbl := List.mem_of_getElem? (i := 79) (by decide +kernel)
theorem lkM_X4_3 : Cond.methodLink RX4 3 objectInit ∈ xtb := tw_r 82 (by decide +kernel) (by decide +kernel)
theorem lkM_X7_18 : Cond.methodLink RX7 18 yX5_init ∈ xtb := tw_r 101 (by decide +kernel) (by decide +kernel)
theorem lkM_X5_3 : Cond.methodLink RX5 3 objectInit ∈ xtb := tw_r 104 (by decide +kernel) (by decide +kernel)
theorem lkN_X5_21 : Cond.methodLinkNest RX5 21 yX4_init "CarriedSets" ∈ lw_tbl := List.mem_of_getElem? (i := 107) (by decide +kernel)
theorem lkN_X7_25 : Cond.methodLinkNest RX7 25 yX6_init "CarriedSets" ∈ lw_tbl := List.mem_of_getElem? (i := 118) (by decide +kernel)
theorem lkM_X6_3 : Cond.methodLink RX6 3 objectInit ∈ xtb := tw_r 121 (by decide +kernel) (by decide +kernel)
theorem lkN_X7_32 : Cond.methodLinkNest RX7 32 yX3_init "CarriedSets" ∈ lw_tbl := List.mem_of_getElem? (i := 134) (by decide +kernel)
theorem lkM_X3_3 : Cond.methodLink RX3 3 objectInit ∈ xtb := tw_r 137 (by decide +kernel) (by decide +kernel)
theorem lkN_X3_11 : Cond.methodLinkNest RX3 11 yX4_init "CarriedSets" ∈ lw_tbl := List.mem_of_getElem? (i := 139) (by decide +kernel)
theorem lkN_X7_39 : Cond.methodLinkNest RX7 39 yX1_init "CarriedSets" ∈ lw_tbl := List.mem_of_getElem? (i := 170) (by decide +kernel)
theorem lkM_X1_3 : Cond.methodLink RX1 3 objectInit ∈ xtb := tw_r 173 (by decide +kernel) (by decide +kernel)
theorem lkM_X7_46 : Cond.methodLink RX7 46 yX0_init ∈ xtb := tw_r 201 (by decide +kernel) (by decide +kernel)
theorem lkM_X0_3 : Cond.methodLink RX0 3 objectInit ∈ xtb := tw_r 204 (by decide +kernel) (by decide +kernel)
theorem lkM_X0_34 : Cond.methodLink RX0 34 yJ7_fill_53178 ∈ xtb := tw_r 205 (by decide +kernel) (by decide +kernel)
theorem lkM_L_13 : Cond.methodLink RL 13 yX7_points ∈ xtb := tw_r 261 (by decide +kernel) (by decide +kernel)
theorem lkM_X7_65 : Cond.methodLink RX7 65 yX7_refuse ∈ xtb := tw_r 265 (by decide +kernel) (by decide +kernel)
theorem lkM_X7_72 : Cond.methodLink RX7 72 yX7_keepState ∈ xtb := tw_r 269 (by decide +kernel) (by decide +kernel)
theorem lkM_X7_187 : Cond.methodLink RX7 187 yX5_push ∈ xtb := tw_r 273 (by decide +kernel) (by decide +kernel)
theorem lkM_X5_22 : Cond.methodLink RX5 22 yX5_loseOldest ∈ xtb := tw_r 277 (by decide +kernel) (by decide +kernel)
theorem lkM_X5_25 : Cond.methodLink RX5 25 yX4_copy ∈ xtb := tw_r 281 (by decide +kernel) (by decide +kernel)
theorem lkM_X4_25 : Cond.methodLink RX4 25 ⟨"java/lang/System", "arraycopy", "(Ljava/lang/Object;ILjava/lang/Object;II)V"⟩ ∈ xtb := tw_r 285 (by decide +kernel) (by decide +kernel)
theorem lkM_X7_75 : Cond.methodLink RX7 75 yX4_start ∈ xtb := tw_r 288 (by decide +kernel) (by decide +kernel)
theorem lkM_L_18 : Cond.methodLink RL 18 yX7_moves ∈ xtb := tw_r 292 (by decide +kernel) (by decide +kernel)
theorem lkM_X7_79 : Cond.methodLink RX7 79 yX2_read ∈ xtb := tw_r 296 (by decide +kernel) (by decide +kernel)
theorem lkM_X7_88 : Cond.methodLink RX7 88 yX4_adds ∈ xtb := tw_r 300 (by decide +kernel) (by decide +kernel)
theorem lkM_L_22 : Cond.methodLink RL 22 yX7_drops ∈ xtb := tw_r 304 (by decide +kernel) (by decide +kernel)
theorem lkM_X7_92 : Cond.methodLink RX7 92 yX4_loses ∈ xtb := tw_r 308 (by decide +kernel) (by decide +kernel)
theorem lkM_L_26 : Cond.methodLink RL 26 yX7_order ∈ xtb := tw_r 312 (by decide +kernel) (by decide +kernel)
theorem lkM_X7_95 : Cond.methodLink RX7 95 yX7_fit ∈ xtb := tw_r 316 (by decide +kernel) (by decide +kernel)
theorem lkM_X7_190 : Cond.methodLink RX7 190 yX1_make ∈ xtb := tw_r 320 (by decide +kernel) (by decide +kernel)
theorem lkM_X1_46 : Cond.methodLink RX1 46 yX4_generator ∈ xtb := tw_r 325 (by decide +kernel) (by decide +kernel)
theorem lkM_X1_50 : Cond.methodLink RX1 50 yX1_take ∈ xtb := tw_r 330 (by decide +kernel) (by decide +kernel)
theorem lkM_X1_62 : Cond.methodLink RX1 62 yX2_at ∈ xtb := tw_r 334 (by decide +kernel) (by decide +kernel)
theorem lkM_X1_66 : Cond.methodLink RX1 66 yX1_addStep ∈ xtb := tw_r 337 (by decide +kernel) (by decide +kernel)
theorem lkM_X1_73 : Cond.methodLink RX1 73 yX2_inverse ∈ xtb := tw_r 341 (by decide +kernel) (by decide +kernel)
theorem lkM_X1_70 : Cond.methodLink RX1 70 yX2_then ∈ xtb := tw_r 344 (by decide +kernel) (by decide +kernel)
theorem lkM_X1_54 : Cond.methodLink RX1 54 yX1_closeSteps ∈ xtb := tw_r 347 (by decide +kernel) (by decide +kernel)
theorem lkM_X1_57 : Cond.methodLink RX1 57 yJ6_bitCount_0f7a4 ∈ xtb := tw_r 351 (by decide +kernel) (by decide +kernel)
theorem lkM_X7_193 : Cond.methodLink RX7 193 yX0_make ∈ xtb := tw_r 357 (by decide +kernel) (by decide +kernel)
theorem lkM_X0_40 : Cond.methodLink RX0 40 yX0_arrange ∈ xtb := tw_r 361 (by decide +kernel) (by decide +kernel)
theorem lkM_X0_47 : Cond.methodLink RX0 47 yJ6_bitCount_0f7a4 ∈ xtb := tw_r 365 (by decide +kernel) (by decide +kernel)
theorem lkM_X0_53 : Cond.methodLink RX0 53 yX0_turnRound ∈ xtb := tw_r 366 (by decide +kernel) (by decide +kernel)
theorem lkM_X0_43 : Cond.methodLink RX0 43 yX0_spread ∈ xtb := tw_r 370 (by decide +kernel) (by decide +kernel)
theorem lkM_X0_56 : Cond.methodLink RX0 56 yX0_reach ∈ xtb := tw_r 374 (by decide +kernel) (by decide +kernel)
theorem lkM_X0_60 : Cond.methodLink RX0 60 yX1_chain ∈ xtb := tw_r 378 (by decide +kernel) (by decide +kernel)
theorem lkM_X0_65 : Cond.methodLink RX0 65 yX1_step ∈ xtb := tw_r 382 (by decide +kernel) (by decide +kernel)
theorem lkM_X0_69 : Cond.methodLink RX0 69 yX0_spreadBy ∈ xtb := tw_r 386 (by decide +kernel) (by decide +kernel)
theorem lkM_X0_73 : Cond.methodLink RX0 73 yX2_carry ∈ xtb := tw_r 390 (by decide +kernel) (by decide +kernel)
theorem lkM_X7_98 : Cond.methodLink RX7 98 yX1_howMany ∈ xtb := tw_r 393 (by decide +kernel) (by decide +kernel)
theorem lkM_L_31 : Cond.methodLink RL 31 yX7_of ∈ xtb := tw_r 397 (by decide +kernel) (by decide +kernel)
theorem lkM_X7_102 : Cond.methodLink RX7 102 yX7_tellPoint ∈ xtb := tw_r 401 (by decide +kernel) (by decide +kernel)
theorem lkM_X7_196 : Cond.methodLink RX7 196 yX0_orbit ∈ xtb := tw_r 405 (by decide +kernel) (by decide +kernel)
theorem lkM_X0_101 : Cond.methodLink RX0 101 yX0_first ∈ xtb := tw_r 409 (by decide +kernel) (by decide +kernel)
theorem lkM_X7_199 : Cond.methodLink RX7 199 yX1_chain ∈ xtb := tw_r 413 (by decide +kernel) (by decide +kernel)
theorem lkM_X7_202 : Cond.methodLink RX7 202 yX0_leastPoint ∈ xtb := tw_r 414 (by decide +kernel) (by decide +kernel)
theorem lkM_L_36 : Cond.methodLink RL 36 yX7_number ∈ xtb := tw_r 418 (by decide +kernel) (by decide +kernel)
theorem lkM_X7_105 : Cond.methodLink RX7 105 yX1_rank ∈ xtb := tw_r 422 (by decide +kernel) (by decide +kernel)
theorem lkM_X1_85 : Cond.methodLink RX1 85 yX1_choices ∈ xtb := tw_r 426 (by decide +kernel) (by decide +kernel)
theorem lkM_X1_76 : Cond.methodLink RX1 76 yX1_chain ∈ xtb := tw_r 430 (by decide +kernel) (by decide +kernel)
theorem lkM_X1_79 : Cond.methodLink RX1 79 yX2_carry ∈ xtb := tw_r 431 (by decide +kernel) (by decide +kernel)
theorem lkM_X1_88 : Cond.methodLink RX1 88 yX1_goOn ∈ xtb := tw_r 432 (by decide +kernel) (by decide +kernel)
theorem lkM_X1_82 : Cond.methodLink RX1 82 yX1_step ∈ xtb := tw_r 436 (by decide +kernel) (by decide +kernel)
theorem lkM_L_40 : Cond.methodLink RL 40 yX7_element ∈ xtb := tw_r 437 (by decide +kernel) (by decide +kernel)
theorem lkM_X7_108 : Cond.methodLink RX7 108 yX1_withRank ∈ xtb := tw_r 441 (by decide +kernel) (by decide +kernel)
theorem lkM_X7_111 : Cond.methodLink RX7 111 yX2_write ∈ xtb := tw_r 445 (by decide +kernel) (by decide +kernel)
theorem lkM_X2_12 : Cond.methodLink RX2 12 yX2_at ∈ xtb := tw_r 448 (by decide +kernel) (by decide +kernel)
theorem lkM_L_44 : Cond.methodLink RL 44 yX7_image ∈ xtb := tw_r 449 (by decide +kernel) (by decide +kernel)
theorem lkM_X7_114 : Cond.methodLink RX7 114 yX7_isSet ∈ xtb := tw_r 453 (by decide +kernel) (by decide +kernel)
theorem lkM_X7_117 : Cond.methodLink RX7 117 yX2_carry ∈ xtb := tw_r 457 (by decide +kernel) (by decide +kernel)
theorem lkM_L_48 : Cond.methodLink RL 48 yX7_least ∈ xtb := tw_r 458 (by decide +kernel) (by decide +kernel)
theorem lkM_X7_120 : Cond.methodLink RX7 120 yX0_first ∈ xtb := tw_r 462 (by decide +kernel) (by decide +kernel)
theorem lkM_L_52 : Cond.methodLink RL 52 yX7_images ∈ xtb := tw_r 463 (by decide +kernel) (by decide +kernel)
theorem lkM_X7_123 : Cond.methodLink RX7 123 yX0_countWith ∈ xtb := tw_r 467 (by decide +kernel) (by decide +kernel)
theorem lkM_X0_104 : Cond.methodLink RX0 104 yX0_start ∈ xtb := tw_r 471 (by decide +kernel) (by decide +kernel)
theorem lkM_X0_93 : Cond.methodLink RX0 93 yJ9_min_7cf53 ∈ xtb := tw_r 475 (by decide +kernel) (by decide +kernel)
theorem lkM_X0_98 : Cond.methodLink RX0 98 yJ9_max_7cf53 ∈ xtb := tw_r 478 (by decide +kernel) (by decide +kernel)
theorem lkM_X7_126 : Cond.methodLink RX7 126 yX0_nthWith ∈ xtb := tw_r 481 (by decide +kernel) (by decide +kernel)
theorem lkM_L_56 : Cond.methodLink RL 56 yX7_carrier ∈ xtb := tw_r 485 (by decide +kernel) (by decide +kernel)
theorem lkM_X7_129 : Cond.methodLink RX7 129 yJ6_bitCount_0f7a4 ∈ xtb := tw_r 489 (by decide +kernel) (by decide +kernel)
theorem lkM_X7_134 : Cond.methodLink RX7 134 yX0_firstMove ∈ xtb := tw_r 490 (by decide +kernel) (by decide +kernel)
theorem lkM_X0_79 : Cond.methodLink RX0 79 yX0_goOnTowards ∈ xtb := tw_r 495 (by decide +kernel) (by decide +kernel)
theorem lkM_X0_83 : Cond.methodLink RX0 83 yX1_choices ∈ xtb := tw_r 499 (by decide +kernel) (by decide +kernel)
theorem lkM_X0_86 : Cond.methodLink RX0 86 yX1_goOn ∈ xtb := tw_r 500 (by decide +kernel) (by decide +kernel)
theorem lkM_X0_90 : Cond.methodLink RX0 90 yX2_inverse ∈ xtb := tw_r 501 (by decide +kernel) (by decide +kernel)
theorem lkM_L_60 : Cond.methodLink RL 60 yX7_holds ∈ xtb := tw_r 502 (by decide +kernel) (by decide +kernel)
theorem lkM_L_64 : Cond.methodLink RL 64 yX7_heads ∈ xtb := tw_r 506 (by decide +kernel) (by decide +kernel)
theorem lkM_X7_138 : Cond.methodLink RX7 138 yX0_countFirsts ∈ xtb := tw_r 510 (by decide +kernel) (by decide +kernel)
theorem lkM_X0_107 : Cond.methodLink RX0 107 yX0_isFirst ∈ xtb := tw_r 514 (by decide +kernel) (by decide +kernel)
theorem lkM_X7_141 : Cond.methodLink RX7 141 yX0_nthFirst ∈ xtb := tw_r 518 (by decide +kernel) (by decide +kernel)
theorem lkM_L_68 : Cond.methodLink RL 68 yX7_head ∈ xtb := tw_r 522 (by decide +kernel) (by decide +kernel)
theorem lkM_X7_144 : Cond.methodLink RX7 144 yX0_placeOfFirst ∈ xtb := tw_r 526 (by decide +kernel) (by decide +kernel)
theorem lkM_L_72 : Cond.methodLink RL 72 yX7_type ∈ xtb := tw_r 530 (by decide +kernel) (by decide +kernel)
theorem lkM_X7_150 : Cond.methodLink RX7 150 yX6_add ∈ xtb := tw_r 534 (by decide +kernel) (by decide +kernel)
theorem lkM_L_76 : Cond.methodLink RL 76 yX7_clear ∈ xtb := tw_r 538 (by decide +kernel) (by decide +kernel)
theorem lkM_L_80 : Cond.methodLink RL 80 yX7_reads ∈ xtb := tw_r 542 (by decide +kernel) (by decide +kernel)
theorem lkM_X7_153 : Cond.methodLink RX7 153 yX3_read ∈ xtb := tw_r 546 (by decide +kernel) (by decide +kernel)
theorem lkM_X3_40 : Cond.methodLink RX3 40 yX4_copy ∈ xtb := tw_r 550 (by decide +kernel) (by decide +kernel)
theorem lkM_X3_49 : Cond.methodLink RX3 49 yX6_at ∈ xtb := tw_r 551 (by decide +kernel) (by decide +kernel)
theorem lkM_X3_53 : Cond.methodLink RX3 53 yX3_takes ∈ xtb := tw_r 555 (by decide +kernel) (by decide +kernel)
theorem lkM_X3_57 : Cond.methodLink RX3 57 yX3_takesLetter ∈ xtb := tw_r 559 (by decide +kernel) (by decide +kernel)
theorem lkM_X3_60 : Cond.methodLink RX3 60 yX3_takesFigure ∈ xtb := tw_r 563 (by decide +kernel) (by decide +kernel)
theorem lkM_X3_66 : Cond.methodLink RX3 66 yX3_isDue ∈ xtb := tw_r 567 (by decide +kernel) (by decide +kernel)
theorem lkM_X3_63 : Cond.methodLink RX3 63 yX3_takesEnd ∈ xtb := tw_r 571 (by decide +kernel) (by decide +kernel)
theorem lkM_X3_72 : Cond.methodLink RX3 72 yX3_obeys ∈ xtb := tw_r 575 (by decide +kernel) (by decide +kernel)
theorem lkM_X3_76 : Cond.methodLink RX3 76 yX4_start ∈ xtb := tw_r 579 (by decide +kernel) (by decide +kernel)
theorem lkM_X3_80 : Cond.methodLink RX3 80 yX2_read ∈ xtb := tw_r 580 (by decide +kernel) (by decide +kernel)
theorem lkM_X3_86 : Cond.methodLink RX3 86 yX4_adds ∈ xtb := tw_r 581 (by decide +kernel) (by decide +kernel)
theorem lkM_X3_89 : Cond.methodLink RX3 89 yX4_loses ∈ xtb := tw_r 582 (by decide +kernel) (by decide +kernel)
theorem lkM_X7_162 : Cond.methodLink RX7 162 yX4_copy ∈ xtb := tw_r 583 (by decide +kernel) (by decide +kernel)
theorem lkM_L_84 : Cond.methodLink RL 84 yX7_back ∈ xtb := tw_r 584 (by decide +kernel) (by decide +kernel)
theorem lkM_X7_170 : Cond.methodLink RX7 170 yX5_pop ∈ xtb := tw_r 588 (by decide +kernel) (by decide +kernel)
theorem lkM_L_88 : Cond.methodLink RL 88 yX7_told ∈ xtb := tw_r 592 (by decide +kernel) (by decide +kernel)
theorem lkM_X7_173 : Cond.methodLink RX7 173 yX7_tell ∈ xtb := tw_r 596 (by decide +kernel) (by decide +kernel)
theorem lkM_L_92 : Cond.methodLink RL 92 yX7_digest ∈ xtb := tw_r 600 (by decide +kernel) (by decide +kernel)
theorem lkM_X7_180 : Cond.methodLink RX7 180 yX4_generator ∈ xtb := tw_r 606 (by decide +kernel) (by decide +kernel)
theorem lkM_X7_183 : Cond.methodLink RX7 183 yX0_digestFirsts ∈ xtb := tw_r 607 (by decide +kernel) (by decide +kernel)
theorem lkM_X0_113 : Cond.methodLink RX0 113 yX0_countFirsts ∈ xtb := tw_r 612 (by decide +kernel) (by decide +kernel)
theorem lkM_L_12 : Cond.methodLink RL 12 yX8_init ∈ xtb := tw_r 615 (by decide +kernel) (by decide +kernel)
theorem lkM_X8_1 : Cond.methodLink RX8 1 objectInit ∈ xtb := tw_r 618 (by decide +kernel) (by decide +kernel)
theorem lkM_L_87 : Cond.methodLink RL 87 yX8_back ∈ xtb := tw_r 709 (by decide +kernel) (by decide +kernel)
theorem lkM_X8_70 : Cond.methodLink RX8 70 yX8_refuses ∈ xtb := tw_r 713 (by decide +kernel) (by decide +kernel)
theorem lkM_L_17 : Cond.methodLink RL 17 yX8_points ∈ xtb := tw_r 717 (by decide +kernel) (by decide +kernel)
theorem lkM_X8_96 : Cond.methodLink RX8 96 yX8_hold ∈ xtb := tw_r 721 (by decide +kernel) (by decide +kernel)
theorem lkM_X8_99 : Cond.methodLink RX8 99 yX8_doPoints ∈ xtb := tw_r 725 (by decide +kernel) (by decide +kernel)
theorem lkM_X8_84 : Cond.methodLink RX8 84 yX8_in ∈ xtb := tw_r 729 (by decide +kernel) (by decide +kernel)
theorem lkM_X8_102 : Cond.methodLink RX8 102 yX8_ends ∈ xtb := tw_r 732 (by decide +kernel) (by decide +kernel)
theorem lkM_X8_74 : Cond.methodLink RX8 74 yX8_push ∈ xtb := tw_r 736 (by decide +kernel) (by decide +kernel)
theorem lkM_L_21 : Cond.methodLink RL 21 yX8_moves ∈ xtb := tw_r 740 (by decide +kernel) (by decide +kernel)
theorem lkM_X8_105 : Cond.methodLink RX8 105 yX8_doMoves ∈ xtb := tw_r 744 (by decide +kernel) (by decide +kernel)
theorem lkM_X8_92 : Cond.methodLink RX8 92 yX8_isMove ∈ xtb := tw_r 748 (by decide +kernel) (by decide +kernel)
theorem lkM_X8_88 : Cond.methodLink RX8 88 yX8_open ∈ xtb := tw_r 752 (by decide +kernel) (by decide +kernel)
theorem lkM_L_25 : Cond.methodLink RL 25 yX8_drops ∈ xtb := tw_r 756 (by decide +kernel) (by decide +kernel)
theorem lkM_X8_108 : Cond.methodLink RX8 108 yX8_doDrops ∈ xtb := tw_r 760 (by decide +kernel) (by decide +kernel)
theorem lkM_L_30 : Cond.methodLink RL 30 yX8_order ∈ xtb := tw_r 764 (by decide +kernel) (by decide +kernel)
theorem lkM_X8_130 : Cond.methodLink RX8 130 yX8_lay ∈ xtb := tw_r 768 (by decide +kernel) (by decide +kernel)
theorem lkM_X8_114 : Cond.methodLink RX8 114 yX8_mark ∈ xtb := tw_r 772 (by decide +kernel) (by decide +kernel)
theorem lkM_X8_117 : Cond.methodLink RX8 117 yX8_codeAt ∈ xtb := tw_r 776 (by decide +kernel) (by decide +kernel)
theorem lkM_X8_120 : Cond.methodLink RX8 120 yX8_placeOf ∈ xtb := tw_r 780 (by decide +kernel) (by decide +kernel)
theorem lkM_X8_124 : Cond.methodLink RX8 124 yX8_sortMade ∈ xtb := tw_r 784 (by decide +kernel) (by decide +kernel)
theorem lkM_X8_127 : Cond.methodLink RX8 127 yX8_findChains ∈ xtb := tw_r 788 (by decide +kernel) (by decide +kernel)
theorem lkM_L_35 : Cond.methodLink RL 35 yX8_of ∈ xtb := tw_r 792 (by decide +kernel) (by decide +kernel)
theorem lkM_X8_140 : Cond.methodLink RX8 140 yX8_ofPoint ∈ xtb := tw_r 796 (by decide +kernel) (by decide +kernel)
theorem lkM_X8_137 : Cond.methodLink RX8 137 yX8_lowest ∈ xtb := tw_r 800 (by decide +kernel) (by decide +kernel)
theorem lkM_X8_133 : Cond.methodLink RX8 133 yX8_has ∈ xtb := tw_r 803 (by decide +kernel) (by decide +kernel)
theorem lkM_L_39 : Cond.methodLink RL 39 yX8_number ∈ xtb := tw_r 806 (by decide +kernel) (by decide +kernel)
theorem lkM_L_43 : Cond.methodLink RL 43 yX8_element ∈ xtb := tw_r 810 (by decide +kernel) (by decide +kernel)
theorem lkM_L_47 : Cond.methodLink RL 47 yX8_image ∈ xtb := tw_r 814 (by decide +kernel) (by decide +kernel)
theorem lkM_X8_144 : Cond.methodLink RX8 144 yX8_isSet ∈ xtb := tw_r 818 (by decide +kernel) (by decide +kernel)
theorem lkM_X8_147 : Cond.methodLink RX8 147 yX8_imageOf ∈ xtb := tw_r 822 (by decide +kernel) (by decide +kernel)
theorem lkM_L_51 : Cond.methodLink RL 51 yX8_least ∈ xtb := tw_r 826 (by decide +kernel) (by decide +kernel)
theorem lkM_X8_168 : Cond.methodLink RX8 168 yX8_leastOf ∈ xtb := tw_r 830 (by decide +kernel) (by decide +kernel)
theorem lkM_X8_165 : Cond.methodLink RX8 165 yX8_sortSets ∈ xtb := tw_r 834 (by decide +kernel) (by decide +kernel)
theorem lkM_X8_156 : Cond.methodLink RX8 156 yX8_turned ∈ xtb := tw_r 838 (by decide +kernel) (by decide +kernel)
theorem lkM_X8_159 : Cond.methodLink RX8 159 yX8_size ∈ xtb := tw_r 841 (by decide +kernel) (by decide +kernel)
theorem lkM_X8_162 : Cond.methodLink RX8 162 yX8_findImages ∈ xtb := tw_r 844 (by decide +kernel) (by decide +kernel)
theorem lkM_X8_153 : Cond.methodLink RX8 153 yX8_carry ∈ xtb := tw_r 848 (by decide +kernel) (by decide +kernel)
theorem lkM_L_55 : Cond.methodLink RL 55 yX8_images ∈ xtb := tw_r 852 (by decide +kernel) (by decide +kernel)
theorem lkM_L_59 : Cond.methodLink RL 59 yX8_carrier ∈ xtb := tw_r 856 (by decide +kernel) (by decide +kernel)
theorem lkM_L_63 : Cond.methodLink RL 63 yX8_holds ∈ xtb := tw_r 860 (by decide +kernel) (by decide +kernel)
theorem lkM_L_67 : Cond.methodLink RL 67 yX8_heads ∈ xtb := tw_r 864 (by decide +kernel) (by decide +kernel)
theorem lkM_X8_171 : Cond.methodLink RX8 171 yX8_headsOf ∈ xtb := tw_r 868 (by decide +kernel) (by decide +kernel)
theorem lkM_L_71 : Cond.methodLink RL 71 yX8_head ∈ xtb := tw_r 872 (by decide +kernel) (by decide +kernel)
theorem lkM_L_75 : Cond.methodLink RL 75 yX8_type ∈ xtb := tw_r 876 (by decide +kernel) (by decide +kernel)
theorem lkM_L_79 : Cond.methodLink RL 79 yX8_clear ∈ xtb := tw_r 880 (by decide +kernel) (by decide +kernel)
theorem lkM_L_83 : Cond.methodLink RL 83 yX8_reads ∈ xtb := tw_r 884 (by decide +kernel) (by decide +kernel)
theorem lkM_X8_183 : Cond.methodLink RX8 183 yX8_here ∈ xtb := tw_r 888 (by decide +kernel) (by decide +kernel)
theorem lkM_X8_202 : Cond.methodLink RX8 202 yX8_readOrder ∈ xtb := tw_r 892 (by decide +kernel) (by decide +kernel)
theorem lkM_X8_186 : Cond.methodLink RX8 186 yX8_must ∈ xtb := tw_r 896 (by decide +kernel) (by decide +kernel)
theorem lkM_X8_196 : Cond.methodLink RX8 196 yX8_readMove ∈ xtb := tw_r 900 (by decide +kernel) (by decide +kernel)
theorem lkM_X8_199 : Cond.methodLink RX8 199 yX8_figure ∈ xtb := tw_r 904 (by decide +kernel) (by decide +kernel)
theorem lkM_X8_205 : Cond.methodLink RX8 205 yX8_doOrder ∈ xtb := tw_r 908 (by decide +kernel) (by decide +kernel)
theorem lkM_L_91 : Cond.methodLink RL 91 yX8_told ∈ xtb := tw_r 912 (by decide +kernel) (by decide +kernel)
theorem lkM_X8_208 : Cond.methodLink RX8 208 yX8_toldOf ∈ xtb := tw_r 916 (by decide +kernel) (by decide +kernel)
theorem lkM_L_96 : Cond.methodLink RL 96 yX8_digest ∈ xtb := tw_r 920 (by decide +kernel) (by decide +kernel)
theorem lkM_X8_219 : Cond.methodLink RX8 219 yX8_mix ∈ xtb := tw_r 925 (by decide +kernel) (by decide +kernel)
theorem lkM_X8_222 : Cond.methodLink RX8 222 yX8_order ∈ xtb := tw_r 930 (by decide +kernel) (by decide +kernel)
theorem wC_X7_init : Cond.code yX7_init cX7_init 1 none ∈ xtb := tw_r 73 (by decide +kernel) (by decide +kernel)
theorem wC_objectInit : Cond.code objectInit ⟨#[0xb1]⟩ 1 none ∈ xtb := tw_r 76 (by decide +kernel) (by decide +kernel)
theorem wC_X4_init : Cond.code yX4_init cX4_init 1 none ∈ xtb := tw_r 81 (by decide +kernel) (by decide +kernel)
theorem wC_X5_init : Cond.code yX5_init cX5_init 2 none ∈ xtb := tw_r 103 (by decide +kernel) (by decide +kernel)
theorem wC_X6_init : Cond.code yX6_init cX6_init 1 none ∈ xtb := tw_r 120 (by decide +kernel) (by decide +kernel)
theorem wC_X3_init : Cond.code yX3_init cX3_init 1 none ∈ xtb := tw_r 136 (by decide +kernel) (by decide +kernel)
theorem wC_X1_init : Cond.code yX1_init cX1_init 1 none ∈ xtb := tw_r 172 (by decide +kernel) (by decide +kernel)
theorem wC_X0_init : Cond.code yX0_init cX0_init 1 none ∈ xtb := tw_r 203 (by decide +kernel) (by decide +kernel)
theorem wC_J7_fill_53178 : Cond.code yJ7_fill_53178 cJ7_fill_53178 4 none ∈ xtb := tw_r 207 (by decide +kernel) (by decide +kernel)
theorem wC_X7_points : Cond.code yX7_points cX7_points 3 (some .int) ∈ xtb := tw_r 264 (by decide +kernel) (by decide +kernel)
theorem wC_X7_refuse : Cond.code yX7_refuse cX7_refuse 2 (some .int) ∈ xtb := tw_r 268 (by decide +kernel) (by decide +kernel)
theorem wC_X7_keepState : Cond.code yX7_keepState cX7_keepState 1 none ∈ xtb := tw_r 272 (by decide +kernel) (by decide +kernel)
theorem wC_X5_push : Cond.code yX5_push cX5_push 2 none ∈ xtb := tw_r 276 (by decide +kernel) (by decide +kernel)
theorem wC_X5_loseOldest : Cond.code yX5_loseOldest cX5_loseOldest 3 none ∈ xtb := tw_r 280 (by decide +kernel) (by decide +kernel)
theorem wC_X4_copy : Cond.code yX4_copy cX4_copy 2 none ∈ xtb := tw_r 284 (by decide +kernel) (by decide +kernel)
theorem wC_X4_start : Cond.code yX4_start cX4_start 2 none ∈ xtb := tw_r 291 (by decide +kernel) (by decide +kernel)
theorem wC_X7_moves : Cond.code yX7_moves cX7_moves 3 (some .int) ∈ xtb := tw_r 295 (by decide +kernel) (by decide +kernel)
theorem wC_X2_read : Cond.code yX2_read cX2_read 7 (some .int) ∈ xtb := tw_r 298 (by decide +kernel) (by decide +kernel)
theorem wC_X4_adds : Cond.code yX4_adds cX4_adds 2 (some .boolean) ∈ xtb := tw_r 303 (by decide +kernel) (by decide +kernel)
theorem wC_X7_drops : Cond.code yX7_drops cX7_drops 2 (some .int) ∈ xtb := tw_r 307 (by decide +kernel) (by decide +kernel)
theorem wC_X4_loses : Cond.code yX4_loses cX4_loses 3 (some .boolean) ∈ xtb := tw_r 311 (by decide +kernel) (by decide +kernel)
theorem wC_X7_order : Cond.code yX7_order cX7_order 1 (some .int) ∈ xtb := tw_r 315 (by decide +kernel) (by decide +kernel)
theorem wC_X7_fit : Cond.code yX7_fit cX7_fit 1 none ∈ xtb := tw_r 319 (by decide +kernel) (by decide +kernel)
theorem wC_X1_make : Cond.code yX1_make cX1_make 3 none ∈ xtb := tw_r 323 (by decide +kernel) (by decide +kernel)
theorem wC_X4_generator : Cond.code yX4_generator cX4_generator 2 (some .int) ∈ xtb := tw_r 328 (by decide +kernel) (by decide +kernel)
theorem wC_X1_take : Cond.code yX1_take cX1_take 5 none ∈ xtb := tw_r 333 (by decide +kernel) (by decide +kernel)
theorem wC_X2_at : Cond.code yX2_at cX2_at 2 (some .int) ∈ xtb := tw_r 336 (by decide +kernel) (by decide +kernel)
theorem wC_X1_addStep : Cond.code yX1_addStep cX1_addStep 4 none ∈ xtb := tw_r 340 (by decide +kernel) (by decide +kernel)
theorem wC_X2_inverse : Cond.code yX2_inverse cX2_inverse 3 (some .int) ∈ xtb := tw_r 343 (by decide +kernel) (by decide +kernel)
theorem wC_X2_then : Cond.code yX2_then cX2_then 4 (some .int) ∈ xtb := tw_r 346 (by decide +kernel) (by decide +kernel)
theorem wC_X1_closeSteps : Cond.code yX1_closeSteps cX1_closeSteps 3 none ∈ xtb := tw_r 350 (by decide +kernel) (by decide +kernel)
theorem wC_J6_bitCount_0f7a4 : Cond.code yJ6_bitCount_0f7a4 cJ6_bitCount_0f7a4 1 (some .int) ∈ xtb := tw_r 353 (by decide +kernel) (by decide +kernel)
theorem wC_X0_make : Cond.code yX0_make cX0_make 6 none ∈ xtb := tw_r 360 (by decide +kernel) (by decide +kernel)
theorem wC_X0_arrange : Cond.code yX0_arrange cX0_arrange 4 none ∈ xtb := tw_r 364 (by decide +kernel) (by decide +kernel)
theorem wC_X0_turnRound : Cond.code yX0_turnRound cX0_turnRound 4 (some .int) ∈ xtb := tw_r 369 (by decide +kernel) (by decide +kernel)
theorem wC_X0_spread : Cond.code yX0_spread cX0_spread 7 none ∈ xtb := tw_r 373 (by decide +kernel) (by decide +kernel)
theorem wC_X0_reach : Cond.code yX0_reach cX0_reach 3 none ∈ xtb := tw_r 377 (by decide +kernel) (by decide +kernel)
theorem wC_X1_chain : Cond.code yX1_chain cX1_chain 2 (some .int) ∈ xtb := tw_r 381 (by decide +kernel) (by decide +kernel)
theorem wC_X1_step : Cond.code yX1_step cX1_step 3 (some .int) ∈ xtb := tw_r 385 (by decide +kernel) (by decide +kernel)
theorem wC_X0_spreadBy : Cond.code yX0_spreadBy cX0_spreadBy 5 none ∈ xtb := tw_r 389 (by decide +kernel) (by decide +kernel)
theorem wC_X2_carry : Cond.code yX2_carry cX2_carry 5 (some .int) ∈ xtb := tw_r 392 (by decide +kernel) (by decide +kernel)
theorem wC_X1_howMany : Cond.code yX1_howMany cX1_howMany 1 (some .int) ∈ xtb := tw_r 396 (by decide +kernel) (by decide +kernel)
theorem wC_X7_of : Cond.code yX7_of cX7_of 3 (some .int) ∈ xtb := tw_r 400 (by decide +kernel) (by decide +kernel)
theorem wC_X7_tellPoint : Cond.code yX7_tellPoint cX7_tellPoint 3 (some .int) ∈ xtb := tw_r 404 (by decide +kernel) (by decide +kernel)
theorem wC_X0_orbit : Cond.code yX0_orbit cX0_orbit 4 (some .int) ∈ xtb := tw_r 408 (by decide +kernel) (by decide +kernel)
theorem wC_X0_first : Cond.code yX0_first cX0_first 2 (some .int) ∈ xtb := tw_r 412 (by decide +kernel) (by decide +kernel)
theorem wC_X0_leastPoint : Cond.code yX0_leastPoint cX0_leastPoint 3 (some .int) ∈ xtb := tw_r 417 (by decide +kernel) (by decide +kernel)
theorem wC_X7_number : Cond.code yX7_number cX7_number 3 (some .int) ∈ xtb := tw_r 421 (by decide +kernel) (by decide +kernel)
theorem wC_X1_rank : Cond.code yX1_rank cX1_rank 7 (some .int) ∈ xtb := tw_r 425 (by decide +kernel) (by decide +kernel)
theorem wC_X1_choices : Cond.code yX1_choices cX1_choices 3 (some .int) ∈ xtb := tw_r 429 (by decide +kernel) (by decide +kernel)
theorem wC_X1_goOn : Cond.code yX1_goOn cX1_goOn 4 (some .int) ∈ xtb := tw_r 435 (by decide +kernel) (by decide +kernel)
theorem wC_X7_element : Cond.code yX7_element cX7_element 2 (some .int) ∈ xtb := tw_r 440 (by decide +kernel) (by decide +kernel)
theorem wC_X1_withRank : Cond.code yX1_withRank cX1_withRank 7 (some .int) ∈ xtb := tw_r 444 (by decide +kernel) (by decide +kernel)
theorem wC_X2_write : Cond.code yX2_write cX2_write 4 (some .int) ∈ xtb := tw_r 447 (by decide +kernel) (by decide +kernel)
theorem wC_X7_image : Cond.code yX7_image cX7_image 4 (some .int) ∈ xtb := tw_r 452 (by decide +kernel) (by decide +kernel)
theorem wC_X7_isSet : Cond.code yX7_isSet cX7_isSet 2 (some .boolean) ∈ xtb := tw_r 456 (by decide +kernel) (by decide +kernel)
theorem wC_X7_least : Cond.code yX7_least cX7_least 2 (some .int) ∈ xtb := tw_r 461 (by decide +kernel) (by decide +kernel)
theorem wC_X7_images : Cond.code yX7_images cX7_images 3 (some .int) ∈ xtb := tw_r 466 (by decide +kernel) (by decide +kernel)
theorem wC_X0_countWith : Cond.code yX0_countWith cX0_countWith 6 (some .int) ∈ xtb := tw_r 470 (by decide +kernel) (by decide +kernel)
theorem wC_X0_start : Cond.code yX0_start cX0_start 2 (some .int) ∈ xtb := tw_r 474 (by decide +kernel) (by decide +kernel)
theorem wC_J9_min_7cf53 : Cond.code yJ9_min_7cf53 cJ9_min_7cf53 2 (some .int) ∈ xtb := tw_r 477 (by decide +kernel) (by decide +kernel)
theorem wC_J9_max_7cf53 : Cond.code yJ9_max_7cf53 cJ9_max_7cf53 2 (some .int) ∈ xtb := tw_r 480 (by decide +kernel) (by decide +kernel)
theorem wC_X0_nthWith : Cond.code yX0_nthWith cX0_nthWith 7 (some .int) ∈ xtb := tw_r 484 (by decide +kernel) (by decide +kernel)
theorem wC_X7_carrier : Cond.code yX7_carrier cX7_carrier 4 (some .int) ∈ xtb := tw_r 488 (by decide +kernel) (by decide +kernel)
theorem wC_X0_firstMove : Cond.code yX0_firstMove cX0_firstMove 6 (some .int) ∈ xtb := tw_r 493 (by decide +kernel) (by decide +kernel)
theorem wC_X0_goOnTowards : Cond.code yX0_goOnTowards cX0_goOnTowards 8 (some .int) ∈ xtb := tw_r 498 (by decide +kernel) (by decide +kernel)
theorem wC_X7_holds : Cond.code yX7_holds cX7_holds 3 (some .int) ∈ xtb := tw_r 505 (by decide +kernel) (by decide +kernel)
theorem wC_X7_heads : Cond.code yX7_heads cX7_heads 3 (some .int) ∈ xtb := tw_r 509 (by decide +kernel) (by decide +kernel)
theorem wC_X0_countFirsts : Cond.code yX0_countFirsts cX0_countFirsts 4 (some .int) ∈ xtb := tw_r 513 (by decide +kernel) (by decide +kernel)
theorem wC_X0_isFirst : Cond.code yX0_isFirst cX0_isFirst 2 (some .boolean) ∈ xtb := tw_r 517 (by decide +kernel) (by decide +kernel)
theorem wC_X0_nthFirst : Cond.code yX0_nthFirst cX0_nthFirst 5 (some .int) ∈ xtb := tw_r 521 (by decide +kernel) (by decide +kernel)
theorem wC_X7_head : Cond.code yX7_head cX7_head 2 (some .int) ∈ xtb := tw_r 525 (by decide +kernel) (by decide +kernel)
theorem wC_X0_placeOfFirst : Cond.code yX0_placeOfFirst cX0_placeOfFirst 5 (some .int) ∈ xtb := tw_r 529 (by decide +kernel) (by decide +kernel)
theorem wC_X7_type : Cond.code yX7_type cX7_type 2 (some .int) ∈ xtb := tw_r 533 (by decide +kernel) (by decide +kernel)
theorem wC_X6_add : Cond.code yX6_add cX6_add 2 none ∈ xtb := tw_r 537 (by decide +kernel) (by decide +kernel)
theorem wC_X7_clear : Cond.code yX7_clear cX7_clear 2 (some .int) ∈ xtb := tw_r 541 (by decide +kernel) (by decide +kernel)
theorem wC_X7_reads : Cond.code yX7_reads cX7_reads 2 (some .int) ∈ xtb := tw_r 545 (by decide +kernel) (by decide +kernel)
theorem wC_X3_read : Cond.code yX3_read cX3_read 5 (some .int) ∈ xtb := tw_r 549 (by decide +kernel) (by decide +kernel)
theorem wC_X6_at : Cond.code yX6_at cX6_at 2 (some .int) ∈ xtb := tw_r 554 (by decide +kernel) (by decide +kernel)
theorem wC_X3_takes : Cond.code yX3_takes cX3_takes 2 (some .boolean) ∈ xtb := tw_r 558 (by decide +kernel) (by decide +kernel)
theorem wC_X3_takesLetter : Cond.code yX3_takesLetter cX3_takesLetter 2 (some .boolean) ∈ xtb := tw_r 562 (by decide +kernel) (by decide +kernel)
theorem wC_X3_takesFigure : Cond.code yX3_takesFigure cX3_takesFigure 2 (some .boolean) ∈ xtb := tw_r 566 (by decide +kernel) (by decide +kernel)
theorem wC_X3_isDue : Cond.code yX3_isDue cX3_isDue 2 (some .boolean) ∈ xtb := tw_r 570 (by decide +kernel) (by decide +kernel)
theorem wC_X3_takesEnd : Cond.code yX3_takesEnd cX3_takesEnd 2 (some .boolean) ∈ xtb := tw_r 574 (by decide +kernel) (by decide +kernel)
theorem wC_X3_obeys : Cond.code yX3_obeys cX3_obeys 1 (some .boolean) ∈ xtb := tw_r 578 (by decide +kernel) (by decide +kernel)
theorem wC_X7_back : Cond.code yX7_back cX7_back 1 (some .int) ∈ xtb := tw_r 587 (by decide +kernel) (by decide +kernel)
theorem wC_X5_pop : Cond.code yX5_pop cX5_pop 2 none ∈ xtb := tw_r 591 (by decide +kernel) (by decide +kernel)
theorem wC_X7_told : Cond.code yX7_told cX7_told 2 (some .int) ∈ xtb := tw_r 595 (by decide +kernel) (by decide +kernel)
theorem wC_X7_tell : Cond.code yX7_tell cX7_tell 2 (some .int) ∈ xtb := tw_r 599 (by decide +kernel) (by decide +kernel)
theorem wC_X7_digest : Cond.code yX7_digest cX7_digest 5 (some .long) ∈ xtb := tw_r 603 (by decide +kernel) (by decide +kernel)
theorem wC_X0_digestFirsts : Cond.code yX0_digestFirsts cX0_digestFirsts 7 (some .long) ∈ xtb := tw_r 610 (by decide +kernel) (by decide +kernel)
theorem wC_X8_init : Cond.code yX8_init cX8_init 1 none ∈ xtb := tw_r 617 (by decide +kernel) (by decide +kernel)
theorem wC_X8_back : Cond.code yX8_back cX8_back 2 (some .int) ∈ xtb := tw_r 712 (by decide +kernel) (by decide +kernel)
theorem wC_X8_refuses : Cond.code yX8_refuses cX8_refuses 2 (some .int) ∈ xtb := tw_r 716 (by decide +kernel) (by decide +kernel)
theorem wC_X8_points : Cond.code yX8_points cX8_points 2 (some .int) ∈ xtb := tw_r 720 (by decide +kernel) (by decide +kernel)
theorem wC_X8_hold : Cond.code yX8_hold cX8_hold 2 none ∈ xtb := tw_r 724 (by decide +kernel) (by decide +kernel)
theorem wC_X8_doPoints : Cond.code yX8_doPoints cX8_doPoints 3 (some .int) ∈ xtb := tw_r 728 (by decide +kernel) (by decide +kernel)
theorem wC_X8_in : Cond.code yX8_in cX8_in 3 (some .boolean) ∈ xtb := tw_r 731 (by decide +kernel) (by decide +kernel)
theorem wC_X8_ends : Cond.code yX8_ends cX8_ends 2 (some .int) ∈ xtb := tw_r 735 (by decide +kernel) (by decide +kernel)
theorem wC_X8_push : Cond.code yX8_push cX8_push 2 none ∈ xtb := tw_r 739 (by decide +kernel) (by decide +kernel)
theorem wC_X8_moves : Cond.code yX8_moves cX8_moves 2 (some .int) ∈ xtb := tw_r 743 (by decide +kernel) (by decide +kernel)
theorem wC_X8_doMoves : Cond.code yX8_doMoves cX8_doMoves 2 (some .int) ∈ xtb := tw_r 747 (by decide +kernel) (by decide +kernel)
theorem wC_X8_isMove : Cond.code yX8_isMove cX8_isMove 5 (some .boolean) ∈ xtb := tw_r 751 (by decide +kernel) (by decide +kernel)
theorem wC_X8_open : Cond.code yX8_open cX8_open 4 none ∈ xtb := tw_r 755 (by decide +kernel) (by decide +kernel)
theorem wC_X8_drops : Cond.code yX8_drops cX8_drops 2 (some .int) ∈ xtb := tw_r 759 (by decide +kernel) (by decide +kernel)
theorem wC_X8_doDrops : Cond.code yX8_doDrops cX8_doDrops 3 (some .int) ∈ xtb := tw_r 763 (by decide +kernel) (by decide +kernel)
theorem wC_X8_order : Cond.code yX8_order cX8_order 1 (some .int) ∈ xtb := tw_r 767 (by decide +kernel) (by decide +kernel)
theorem wC_X8_lay : Cond.code yX8_lay cX8_lay 4 none ∈ xtb := tw_r 771 (by decide +kernel) (by decide +kernel)
theorem wC_X8_mark : Cond.code yX8_mark cX8_mark 2 none ∈ xtb := tw_r 775 (by decide +kernel) (by decide +kernel)
theorem wC_X8_codeAt : Cond.code yX8_codeAt cX8_codeAt 5 (some .int) ∈ xtb := tw_r 779 (by decide +kernel) (by decide +kernel)
theorem wC_X8_placeOf : Cond.code yX8_placeOf cX8_placeOf 5 (some .int) ∈ xtb := tw_r 783 (by decide +kernel) (by decide +kernel)
theorem wC_X8_sortMade : Cond.code yX8_sortMade cX8_sortMade 3 none ∈ xtb := tw_r 787 (by decide +kernel) (by decide +kernel)
theorem wC_X8_findChains : Cond.code yX8_findChains cX8_findChains 4 none ∈ xtb := tw_r 791 (by decide +kernel) (by decide +kernel)
theorem wC_X8_of : Cond.code yX8_of cX8_of 3 (some .int) ∈ xtb := tw_r 795 (by decide +kernel) (by decide +kernel)
theorem wC_X8_ofPoint : Cond.code yX8_ofPoint cX8_ofPoint 3 (some .int) ∈ xtb := tw_r 799 (by decide +kernel) (by decide +kernel)
theorem wC_X8_lowest : Cond.code yX8_lowest cX8_lowest 2 (some .int) ∈ xtb := tw_r 802 (by decide +kernel) (by decide +kernel)
theorem wC_X8_has : Cond.code yX8_has cX8_has 2 (some .boolean) ∈ xtb := tw_r 805 (by decide +kernel) (by decide +kernel)
theorem wC_X8_number : Cond.code yX8_number cX8_number 6 (some .int) ∈ xtb := tw_r 809 (by decide +kernel) (by decide +kernel)
theorem wC_X8_element : Cond.code yX8_element cX8_element 2 (some .int) ∈ xtb := tw_r 813 (by decide +kernel) (by decide +kernel)
theorem wC_X8_image : Cond.code yX8_image cX8_image 3 (some .int) ∈ xtb := tw_r 817 (by decide +kernel) (by decide +kernel)
theorem wC_X8_isSet : Cond.code yX8_isSet cX8_isSet 2 (some .boolean) ∈ xtb := tw_r 821 (by decide +kernel) (by decide +kernel)
theorem wC_X8_imageOf : Cond.code yX8_imageOf cX8_imageOf 4 (some .int) ∈ xtb := tw_r 825 (by decide +kernel) (by decide +kernel)
theorem wC_X8_least : Cond.code yX8_least cX8_least 2 (some .int) ∈ xtb := tw_r 829 (by decide +kernel) (by decide +kernel)
theorem wC_X8_leastOf : Cond.code yX8_leastOf cX8_leastOf 2 (some .int) ∈ xtb := tw_r 833 (by decide +kernel) (by decide +kernel)
theorem wC_X8_sortSets : Cond.code yX8_sortSets cX8_sortSets 6 none ∈ xtb := tw_r 837 (by decide +kernel) (by decide +kernel)
theorem wC_X8_turned : Cond.code yX8_turned cX8_turned 3 (some .int) ∈ xtb := tw_r 840 (by decide +kernel) (by decide +kernel)
theorem wC_X8_size : Cond.code yX8_size cX8_size 3 (some .int) ∈ xtb := tw_r 843 (by decide +kernel) (by decide +kernel)
theorem wC_X8_findImages : Cond.code yX8_findImages cX8_findImages 4 none ∈ xtb := tw_r 847 (by decide +kernel) (by decide +kernel)
theorem wC_X8_carry : Cond.code yX8_carry cX8_carry 2 none ∈ xtb := tw_r 851 (by decide +kernel) (by decide +kernel)
theorem wC_X8_images : Cond.code yX8_images cX8_images 3 (some .int) ∈ xtb := tw_r 855 (by decide +kernel) (by decide +kernel)
theorem wC_X8_carrier : Cond.code yX8_carrier cX8_carrier 5 (some .int) ∈ xtb := tw_r 859 (by decide +kernel) (by decide +kernel)
theorem wC_X8_holds : Cond.code yX8_holds cX8_holds 4 (some .int) ∈ xtb := tw_r 863 (by decide +kernel) (by decide +kernel)
theorem wC_X8_heads : Cond.code yX8_heads cX8_heads 3 (some .int) ∈ xtb := tw_r 867 (by decide +kernel) (by decide +kernel)
theorem wC_X8_headsOf : Cond.code yX8_headsOf cX8_headsOf 4 (some .int) ∈ xtb := tw_r 871 (by decide +kernel) (by decide +kernel)
theorem wC_X8_head : Cond.code yX8_head cX8_head 4 (some .int) ∈ xtb := tw_r 875 (by decide +kernel) (by decide +kernel)
theorem wC_X8_type : Cond.code yX8_type cX8_type 2 (some .int) ∈ xtb := tw_r 879 (by decide +kernel) (by decide +kernel)
theorem wC_X8_clear : Cond.code yX8_clear cX8_clear 2 (some .int) ∈ xtb := tw_r 883 (by decide +kernel) (by decide +kernel)
theorem wC_X8_reads : Cond.code yX8_reads cX8_reads 3 (some .int) ∈ xtb := tw_r 887 (by decide +kernel) (by decide +kernel)
theorem wC_X8_here : Cond.code yX8_here cX8_here 1 (some .int) ∈ xtb := tw_r 891 (by decide +kernel) (by decide +kernel)
theorem wC_X8_readOrder : Cond.code yX8_readOrder cX8_readOrder 2 none ∈ xtb := tw_r 895 (by decide +kernel) (by decide +kernel)
theorem wC_X8_must : Cond.code yX8_must cX8_must 2 none ∈ xtb := tw_r 899 (by decide +kernel) (by decide +kernel)
theorem wC_X8_readMove : Cond.code yX8_readMove cX8_readMove 5 (some .int) ∈ xtb := tw_r 903 (by decide +kernel) (by decide +kernel)
theorem wC_X8_figure : Cond.code yX8_figure cX8_figure 4 (some .int) ∈ xtb := tw_r 907 (by decide +kernel) (by decide +kernel)
theorem wC_X8_doOrder : Cond.code yX8_doOrder cX8_doOrder 2 (some .int) ∈ xtb := tw_r 911 (by decide +kernel) (by decide +kernel)
theorem wC_X8_told : Cond.code yX8_told cX8_told 2 (some .int) ∈ xtb := tw_r 915 (by decide +kernel) (by decide +kernel)
theorem wC_X8_toldOf : Cond.code yX8_toldOf cX8_toldOf 2 (some .int) ∈ xtb := tw_r 919 (by decide +kernel) (by decide +kernel)
theorem wC_X8_digest : Cond.code yX8_digest cX8_digest 4 (some .long) ∈ xtb := tw_r 923 (by decide +kernel) (by decide +kernel)
theorem wC_X8_mix : Cond.code yX8_mix cX8_mix 2 none ∈ xtb := tw_r 928 (by decide +kernel) (by decide +kernel)
theorem wI_X7_init : Cond.instanceMethod yX7_init ∈ xtb := tw_r 72 (by decide +kernel) (by decide +kernel)
theorem wI_objectInit : Cond.instanceMethod objectInit ∈ xtb := tw_r 75 (by decide +kernel) (by decide +kernel)
theorem wI_X4_init : Cond.instanceMethod yX4_init ∈ xtb := tw_r 80 (by decide +kernel) (by decide +kernel)
theorem wI_X5_init : Cond.instanceMethod yX5_init ∈ xtb := tw_r 102 (by decide +kernel) (by decide +kernel)
theorem wI_X6_init : Cond.instanceMethod yX6_init ∈ xtb := tw_r 119 (by decide +kernel) (by decide +kernel)
theorem wI_X3_init : Cond.instanceMethod yX3_init ∈ xtb := tw_r 135 (by decide +kernel) (by decide +kernel)
theorem wI_X1_init : Cond.instanceMethod yX1_init ∈ xtb := tw_r 171 (by decide +kernel) (by decide +kernel)
theorem wI_X0_init : Cond.instanceMethod yX0_init ∈ xtb := tw_r 202 (by decide +kernel) (by decide +kernel)
theorem wI_X7_points : Cond.instanceMethod yX7_points ∈ xtb := tw_r 262 (by decide +kernel) (by decide +kernel)
theorem wI_X7_refuse : Cond.instanceMethod yX7_refuse ∈ xtb := tw_r 267 (by decide +kernel) (by decide +kernel)
theorem wI_X7_keepState : Cond.instanceMethod yX7_keepState ∈ xtb := tw_r 271 (by decide +kernel) (by decide +kernel)
theorem wI_X5_push : Cond.instanceMethod yX5_push ∈ xtb := tw_r 274 (by decide +kernel) (by decide +kernel)
theorem wI_X5_loseOldest : Cond.instanceMethod yX5_loseOldest ∈ xtb := tw_r 279 (by decide +kernel) (by decide +kernel)
theorem wI_X4_copy : Cond.instanceMethod yX4_copy ∈ xtb := tw_r 282 (by decide +kernel) (by decide +kernel)
theorem wI_X4_start : Cond.instanceMethod yX4_start ∈ xtb := tw_r 289 (by decide +kernel) (by decide +kernel)
theorem wI_X7_moves : Cond.instanceMethod yX7_moves ∈ xtb := tw_r 293 (by decide +kernel) (by decide +kernel)
theorem wI_X4_adds : Cond.instanceMethod yX4_adds ∈ xtb := tw_r 301 (by decide +kernel) (by decide +kernel)
theorem wI_X7_drops : Cond.instanceMethod yX7_drops ∈ xtb := tw_r 305 (by decide +kernel) (by decide +kernel)
theorem wI_X4_loses : Cond.instanceMethod yX4_loses ∈ xtb := tw_r 309 (by decide +kernel) (by decide +kernel)
theorem wI_X7_order : Cond.instanceMethod yX7_order ∈ xtb := tw_r 313 (by decide +kernel) (by decide +kernel)
theorem wI_X7_fit : Cond.instanceMethod yX7_fit ∈ xtb := tw_r 318 (by decide +kernel) (by decide +kernel)
theorem wI_X1_make : Cond.instanceMethod yX1_make ∈ xtb := tw_r 321 (by decide +kernel) (by decide +kernel)
theorem wI_X4_generator : Cond.instanceMethod yX4_generator ∈ xtb := tw_r 326 (by decide +kernel) (by decide +kernel)
theorem wI_X1_take : Cond.instanceMethod yX1_take ∈ xtb := tw_r 332 (by decide +kernel) (by decide +kernel)
theorem wI_X1_addStep : Cond.instanceMethod yX1_addStep ∈ xtb := tw_r 339 (by decide +kernel) (by decide +kernel)
theorem wI_X1_closeSteps : Cond.instanceMethod yX1_closeSteps ∈ xtb := tw_r 349 (by decide +kernel) (by decide +kernel)
theorem wI_X0_make : Cond.instanceMethod yX0_make ∈ xtb := tw_r 358 (by decide +kernel) (by decide +kernel)
theorem wI_X0_arrange : Cond.instanceMethod yX0_arrange ∈ xtb := tw_r 363 (by decide +kernel) (by decide +kernel)
theorem wI_X0_turnRound : Cond.instanceMethod yX0_turnRound ∈ xtb := tw_r 368 (by decide +kernel) (by decide +kernel)
theorem wI_X0_spread : Cond.instanceMethod yX0_spread ∈ xtb := tw_r 372 (by decide +kernel) (by decide +kernel)
theorem wI_X0_reach : Cond.instanceMethod yX0_reach ∈ xtb := tw_r 376 (by decide +kernel) (by decide +kernel)
theorem wI_X1_chain : Cond.instanceMethod yX1_chain ∈ xtb := tw_r 379 (by decide +kernel) (by decide +kernel)
theorem wI_X1_step : Cond.instanceMethod yX1_step ∈ xtb := tw_r 383 (by decide +kernel) (by decide +kernel)
theorem wI_X0_spreadBy : Cond.instanceMethod yX0_spreadBy ∈ xtb := tw_r 388 (by decide +kernel) (by decide +kernel)
theorem wI_X1_howMany : Cond.instanceMethod yX1_howMany ∈ xtb := tw_r 394 (by decide +kernel) (by decide +kernel)
theorem wI_X7_of : Cond.instanceMethod yX7_of ∈ xtb := tw_r 398 (by decide +kernel) (by decide +kernel)
theorem wI_X7_tellPoint : Cond.instanceMethod yX7_tellPoint ∈ xtb := tw_r 403 (by decide +kernel) (by decide +kernel)
theorem wI_X0_orbit : Cond.instanceMethod yX0_orbit ∈ xtb := tw_r 406 (by decide +kernel) (by decide +kernel)
theorem wI_X0_first : Cond.instanceMethod yX0_first ∈ xtb := tw_r 410 (by decide +kernel) (by decide +kernel)
theorem wI_X0_leastPoint : Cond.instanceMethod yX0_leastPoint ∈ xtb := tw_r 415 (by decide +kernel) (by decide +kernel)
theorem wI_X7_number : Cond.instanceMethod yX7_number ∈ xtb := tw_r 419 (by decide +kernel) (by decide +kernel)
theorem wI_X1_rank : Cond.instanceMethod yX1_rank ∈ xtb := tw_r 423 (by decide +kernel) (by decide +kernel)
theorem wI_X1_choices : Cond.instanceMethod yX1_choices ∈ xtb := tw_r 427 (by decide +kernel) (by decide +kernel)
theorem wI_X1_goOn : Cond.instanceMethod yX1_goOn ∈ xtb := tw_r 433 (by decide +kernel) (by decide +kernel)
theorem wI_X7_element : Cond.instanceMethod yX7_element ∈ xtb := tw_r 438 (by decide +kernel) (by decide +kernel)
theorem wI_X1_withRank : Cond.instanceMethod yX1_withRank ∈ xtb := tw_r 442 (by decide +kernel) (by decide +kernel)
theorem wI_X7_image : Cond.instanceMethod yX7_image ∈ xtb := tw_r 450 (by decide +kernel) (by decide +kernel)
theorem wI_X7_isSet : Cond.instanceMethod yX7_isSet ∈ xtb := tw_r 455 (by decide +kernel) (by decide +kernel)
theorem wI_X7_least : Cond.instanceMethod yX7_least ∈ xtb := tw_r 459 (by decide +kernel) (by decide +kernel)
theorem wI_X7_images : Cond.instanceMethod yX7_images ∈ xtb := tw_r 464 (by decide +kernel) (by decide +kernel)
theorem wI_X0_countWith : Cond.instanceMethod yX0_countWith ∈ xtb := tw_r 468 (by decide +kernel) (by decide +kernel)
theorem wI_X0_start : Cond.instanceMethod yX0_start ∈ xtb := tw_r 473 (by decide +kernel) (by decide +kernel)
theorem wI_X0_nthWith : Cond.instanceMethod yX0_nthWith ∈ xtb := tw_r 482 (by decide +kernel) (by decide +kernel)
theorem wI_X7_carrier : Cond.instanceMethod yX7_carrier ∈ xtb := tw_r 486 (by decide +kernel) (by decide +kernel)
theorem wI_X0_firstMove : Cond.instanceMethod yX0_firstMove ∈ xtb := tw_r 491 (by decide +kernel) (by decide +kernel)
theorem wI_X0_goOnTowards : Cond.instanceMethod yX0_goOnTowards ∈ xtb := tw_r 497 (by decide +kernel) (by decide +kernel)
theorem wI_X7_holds : Cond.instanceMethod yX7_holds ∈ xtb := tw_r 503 (by decide +kernel) (by decide +kernel)
theorem wI_X7_heads : Cond.instanceMethod yX7_heads ∈ xtb := tw_r 507 (by decide +kernel) (by decide +kernel)
theorem wI_X0_countFirsts : Cond.instanceMethod yX0_countFirsts ∈ xtb := tw_r 511 (by decide +kernel) (by decide +kernel)
theorem wI_X0_isFirst : Cond.instanceMethod yX0_isFirst ∈ xtb := tw_r 516 (by decide +kernel) (by decide +kernel)
theorem wI_X0_nthFirst : Cond.instanceMethod yX0_nthFirst ∈ xtb := tw_r 519 (by decide +kernel) (by decide +kernel)
theorem wI_X7_head : Cond.instanceMethod yX7_head ∈ xtb := tw_r 523 (by decide +kernel) (by decide +kernel)
theorem wI_X0_placeOfFirst : Cond.instanceMethod yX0_placeOfFirst ∈ xtb := tw_r 527 (by decide +kernel) (by decide +kernel)
theorem wI_X7_type : Cond.instanceMethod yX7_type ∈ xtb := tw_r 531 (by decide +kernel) (by decide +kernel)
theorem wI_X6_add : Cond.instanceMethod yX6_add ∈ xtb := tw_r 535 (by decide +kernel) (by decide +kernel)
theorem wI_X7_clear : Cond.instanceMethod yX7_clear ∈ xtb := tw_r 539 (by decide +kernel) (by decide +kernel)
theorem wI_X7_reads : Cond.instanceMethod yX7_reads ∈ xtb := tw_r 543 (by decide +kernel) (by decide +kernel)
theorem wI_X3_read : Cond.instanceMethod yX3_read ∈ xtb := tw_r 547 (by decide +kernel) (by decide +kernel)
theorem wI_X6_at : Cond.instanceMethod yX6_at ∈ xtb := tw_r 552 (by decide +kernel) (by decide +kernel)
theorem wI_X3_takes : Cond.instanceMethod yX3_takes ∈ xtb := tw_r 557 (by decide +kernel) (by decide +kernel)
theorem wI_X3_takesLetter : Cond.instanceMethod yX3_takesLetter ∈ xtb := tw_r 561 (by decide +kernel) (by decide +kernel)
theorem wI_X3_takesFigure : Cond.instanceMethod yX3_takesFigure ∈ xtb := tw_r 565 (by decide +kernel) (by decide +kernel)
theorem wI_X3_isDue : Cond.instanceMethod yX3_isDue ∈ xtb := tw_r 569 (by decide +kernel) (by decide +kernel)
theorem wI_X3_takesEnd : Cond.instanceMethod yX3_takesEnd ∈ xtb := tw_r 573 (by decide +kernel) (by decide +kernel)
theorem wI_X3_obeys : Cond.instanceMethod yX3_obeys ∈ xtb := tw_r 577 (by decide +kernel) (by decide +kernel)
theorem wI_X7_back : Cond.instanceMethod yX7_back ∈ xtb := tw_r 585 (by decide +kernel) (by decide +kernel)
theorem wI_X5_pop : Cond.instanceMethod yX5_pop ∈ xtb := tw_r 589 (by decide +kernel) (by decide +kernel)
theorem wI_X7_told : Cond.instanceMethod yX7_told ∈ xtb := tw_r 593 (by decide +kernel) (by decide +kernel)
theorem wI_X7_tell : Cond.instanceMethod yX7_tell ∈ xtb := tw_r 598 (by decide +kernel) (by decide +kernel)
theorem wI_X7_digest : Cond.instanceMethod yX7_digest ∈ xtb := tw_r 601 (by decide +kernel) (by decide +kernel)
theorem wI_X0_digestFirsts : Cond.instanceMethod yX0_digestFirsts ∈ xtb := tw_r 608 (by decide +kernel) (by decide +kernel)
theorem wI_X8_init : Cond.instanceMethod yX8_init ∈ xtb := tw_r 616 (by decide +kernel) (by decide +kernel)
theorem wI_X8_back : Cond.instanceMethod yX8_back ∈ xtb := tw_r 710 (by decide +kernel) (by decide +kernel)
theorem wI_X8_refuses : Cond.instanceMethod yX8_refuses ∈ xtb := tw_r 715 (by decide +kernel) (by decide +kernel)
theorem wI_X8_points : Cond.instanceMethod yX8_points ∈ xtb := tw_r 718 (by decide +kernel) (by decide +kernel)
theorem wI_X8_hold : Cond.instanceMethod yX8_hold ∈ xtb := tw_r 723 (by decide +kernel) (by decide +kernel)
theorem wI_X8_doPoints : Cond.instanceMethod yX8_doPoints ∈ xtb := tw_r 727 (by decide +kernel) (by decide +kernel)
theorem wI_X8_ends : Cond.instanceMethod yX8_ends ∈ xtb := tw_r 734 (by decide +kernel) (by decide +kernel)
theorem wI_X8_push : Cond.instanceMethod yX8_push ∈ xtb := tw_r 738 (by decide +kernel) (by decide +kernel)
theorem wI_X8_moves : Cond.instanceMethod yX8_moves ∈ xtb := tw_r 741 (by decide +kernel) (by decide +kernel)
theorem wI_X8_doMoves : Cond.instanceMethod yX8_doMoves ∈ xtb := tw_r 746 (by decide +kernel) (by decide +kernel)
theorem wI_X8_isMove : Cond.instanceMethod yX8_isMove ∈ xtb := tw_r 750 (by decide +kernel) (by decide +kernel)
theorem wI_X8_open : Cond.instanceMethod yX8_open ∈ xtb := tw_r 754 (by decide +kernel) (by decide +kernel)
theorem wI_X8_drops : Cond.instanceMethod yX8_drops ∈ xtb := tw_r 757 (by decide +kernel) (by decide +kernel)
theorem wI_X8_doDrops : Cond.instanceMethod yX8_doDrops ∈ xtb := tw_r 762 (by decide +kernel) (by decide +kernel)
theorem wI_X8_order : Cond.instanceMethod yX8_order ∈ xtb := tw_r 765 (by decide +kernel) (by decide +kernel)
theorem wI_X8_lay : Cond.instanceMethod yX8_lay ∈ xtb := tw_r 770 (by decide +kernel) (by decide +kernel)
theorem wI_X8_mark : Cond.instanceMethod yX8_mark ∈ xtb := tw_r 774 (by decide +kernel) (by decide +kernel)
theorem wI_X8_codeAt : Cond.instanceMethod yX8_codeAt ∈ xtb := tw_r 778 (by decide +kernel) (by decide +kernel)
theorem wI_X8_placeOf : Cond.instanceMethod yX8_placeOf ∈ xtb := tw_r 782 (by decide +kernel) (by decide +kernel)
theorem wI_X8_sortMade : Cond.instanceMethod yX8_sortMade ∈ xtb := tw_r 786 (by decide +kernel) (by decide +kernel)
theorem wI_X8_findChains : Cond.instanceMethod yX8_findChains ∈ xtb := tw_r 790 (by decide +kernel) (by decide +kernel)
theorem wI_X8_of : Cond.instanceMethod yX8_of ∈ xtb := tw_r 793 (by decide +kernel) (by decide +kernel)
theorem wI_X8_ofPoint : Cond.instanceMethod yX8_ofPoint ∈ xtb := tw_r 798 (by decide +kernel) (by decide +kernel)
theorem wI_X8_number : Cond.instanceMethod yX8_number ∈ xtb := tw_r 807 (by decide +kernel) (by decide +kernel)
theorem wI_X8_element : Cond.instanceMethod yX8_element ∈ xtb := tw_r 811 (by decide +kernel) (by decide +kernel)
theorem wI_X8_image : Cond.instanceMethod yX8_image ∈ xtb := tw_r 815 (by decide +kernel) (by decide +kernel)
theorem wI_X8_isSet : Cond.instanceMethod yX8_isSet ∈ xtb := tw_r 820 (by decide +kernel) (by decide +kernel)
theorem wI_X8_imageOf : Cond.instanceMethod yX8_imageOf ∈ xtb := tw_r 824 (by decide +kernel) (by decide +kernel)
theorem wI_X8_least : Cond.instanceMethod yX8_least ∈ xtb := tw_r 827 (by decide +kernel) (by decide +kernel)
theorem wI_X8_leastOf : Cond.instanceMethod yX8_leastOf ∈ xtb := tw_r 832 (by decide +kernel) (by decide +kernel)
theorem wI_X8_sortSets : Cond.instanceMethod yX8_sortSets ∈ xtb := tw_r 836 (by decide +kernel) (by decide +kernel)
theorem wI_X8_findImages : Cond.instanceMethod yX8_findImages ∈ xtb := tw_r 846 (by decide +kernel) (by decide +kernel)
theorem wI_X8_carry : Cond.instanceMethod yX8_carry ∈ xtb := tw_r 850 (by decide +kernel) (by decide +kernel)
theorem wI_X8_images : Cond.instanceMethod yX8_images ∈ xtb := tw_r 853 (by decide +kernel) (by decide +kernel)
theorem wI_X8_carrier : Cond.instanceMethod yX8_carrier ∈ xtb := tw_r 857 (by decide +kernel) (by decide +kernel)
theorem wI_X8_holds : Cond.instanceMethod yX8_holds ∈ xtb := tw_r 861 (by decide +kernel) (by decide +kernel)
theorem wI_X8_heads : Cond.instanceMethod yX8_heads ∈ xtb := tw_r 865 (by decide +kernel) (by decide +kernel)
theorem wI_X8_headsOf : Cond.instanceMethod yX8_headsOf ∈ xtb := tw_r 870 (by decide +kernel) (by decide +kernel)
theorem wI_X8_head : Cond.instanceMethod yX8_head ∈ xtb := tw_r 873 (by decide +kernel) (by decide +kernel)
theorem wI_X8_type : Cond.instanceMethod yX8_type ∈ xtb := tw_r 877 (by decide +kernel) (by decide +kernel)
theorem wI_X8_clear : Cond.instanceMethod yX8_clear ∈ xtb := tw_r 881 (by decide +kernel) (by decide +kernel)
theorem wI_X8_reads : Cond.instanceMethod yX8_reads ∈ xtb := tw_r 885 (by decide +kernel) (by decide +kernel)
theorem wI_X8_here : Cond.instanceMethod yX8_here ∈ xtb := tw_r 890 (by decide +kernel) (by decide +kernel)
theorem wI_X8_readOrder : Cond.instanceMethod yX8_readOrder ∈ xtb := tw_r 894 (by decide +kernel) (by decide +kernel)
theorem wI_X8_must : Cond.instanceMethod yX8_must ∈ xtb := tw_r 898 (by decide +kernel) (by decide +kernel)
theorem wI_X8_readMove : Cond.instanceMethod yX8_readMove ∈ xtb := tw_r 902 (by decide +kernel) (by decide +kernel)
theorem wI_X8_figure : Cond.instanceMethod yX8_figure ∈ xtb := tw_r 906 (by decide +kernel) (by decide +kernel)
theorem wI_X8_doOrder : Cond.instanceMethod yX8_doOrder ∈ xtb := tw_r 910 (by decide +kernel) (by decide +kernel)
theorem wI_X8_told : Cond.instanceMethod yX8_told ∈ xtb := tw_r 913 (by decide +kernel) (by decide +kernel)
theorem wI_X8_toldOf : Cond.instanceMethod yX8_toldOf ∈ xtb := tw_r 918 (by decide +kernel) (by decide +kernel)
theorem wI_X8_digest : Cond.instanceMethod yX8_digest ∈ xtb := tw_r 921 (by decide +kernel) (by decide +kernel)
theorem wI_X8_mix : Cond.instanceMethod yX8_mix ∈ xtb := tw_r 927 (by decide +kernel) (by decide +kernel)
theorem wS_X7_points : Cond.selects RX7 yX7_points yX7_points ∈ xtb := tw_r 263 (by decide +kernel) (by decide +kernel)
theorem wS_X5_push : Cond.selects RX5 yX5_push yX5_push ∈ xtb := tw_r 275 (by decide +kernel) (by decide +kernel)
theorem wS_X4_copy : Cond.selects RX4 yX4_copy yX4_copy ∈ xtb := tw_r 283 (by decide +kernel) (by decide +kernel)
theorem wS_X4_start : Cond.selects RX4 yX4_start yX4_start ∈ xtb := tw_r 290 (by decide +kernel) (by decide +kernel)
theorem wS_X7_moves : Cond.selects RX7 yX7_moves yX7_moves ∈ xtb := tw_r 294 (by decide +kernel) (by decide +kernel)
theorem wS_X4_adds : Cond.selects RX4 yX4_adds yX4_adds ∈ xtb := tw_r 302 (by decide +kernel) (by decide +kernel)
theorem wS_X7_drops : Cond.selects RX7 yX7_drops yX7_drops ∈ xtb := tw_r 306 (by decide +kernel) (by decide +kernel)
theorem wS_X4_loses : Cond.selects RX4 yX4_loses yX4_loses ∈ xtb := tw_r 310 (by decide +kernel) (by decide +kernel)
theorem wS_X7_order : Cond.selects RX7 yX7_order yX7_order ∈ xtb := tw_r 314 (by decide +kernel) (by decide +kernel)
theorem wS_X1_make : Cond.selects RX1 yX1_make yX1_make ∈ xtb := tw_r 322 (by decide +kernel) (by decide +kernel)
theorem wS_X4_generator : Cond.selects RX4 yX4_generator yX4_generator ∈ xtb := tw_r 327 (by decide +kernel) (by decide +kernel)
theorem wS_X0_make : Cond.selects RX0 yX0_make yX0_make ∈ xtb := tw_r 359 (by decide +kernel) (by decide +kernel)
theorem wS_X1_chain : Cond.selects RX1 yX1_chain yX1_chain ∈ xtb := tw_r 380 (by decide +kernel) (by decide +kernel)
theorem wS_X1_step : Cond.selects RX1 yX1_step yX1_step ∈ xtb := tw_r 384 (by decide +kernel) (by decide +kernel)
theorem wS_X1_howMany : Cond.selects RX1 yX1_howMany yX1_howMany ∈ xtb := tw_r 395 (by decide +kernel) (by decide +kernel)
theorem wS_X7_of : Cond.selects RX7 yX7_of yX7_of ∈ xtb := tw_r 399 (by decide +kernel) (by decide +kernel)
theorem wS_X0_orbit : Cond.selects RX0 yX0_orbit yX0_orbit ∈ xtb := tw_r 407 (by decide +kernel) (by decide +kernel)
theorem wS_X0_first : Cond.selects RX0 yX0_first yX0_first ∈ xtb := tw_r 411 (by decide +kernel) (by decide +kernel)
theorem wS_X0_leastPoint : Cond.selects RX0 yX0_leastPoint yX0_leastPoint ∈ xtb := tw_r 416 (by decide +kernel) (by decide +kernel)
theorem wS_X7_number : Cond.selects RX7 yX7_number yX7_number ∈ xtb := tw_r 420 (by decide +kernel) (by decide +kernel)
theorem wS_X1_rank : Cond.selects RX1 yX1_rank yX1_rank ∈ xtb := tw_r 424 (by decide +kernel) (by decide +kernel)
theorem wS_X1_choices : Cond.selects RX1 yX1_choices yX1_choices ∈ xtb := tw_r 428 (by decide +kernel) (by decide +kernel)
theorem wS_X1_goOn : Cond.selects RX1 yX1_goOn yX1_goOn ∈ xtb := tw_r 434 (by decide +kernel) (by decide +kernel)
theorem wS_X7_element : Cond.selects RX7 yX7_element yX7_element ∈ xtb := tw_r 439 (by decide +kernel) (by decide +kernel)
theorem wS_X1_withRank : Cond.selects RX1 yX1_withRank yX1_withRank ∈ xtb := tw_r 443 (by decide +kernel) (by decide +kernel)
theorem wS_X7_image : Cond.selects RX7 yX7_image yX7_image ∈ xtb := tw_r 451 (by decide +kernel) (by decide +kernel)
theorem wS_X7_least : Cond.selects RX7 yX7_least yX7_least ∈ xtb := tw_r 460 (by decide +kernel) (by decide +kernel)
theorem wS_X7_images : Cond.selects RX7 yX7_images yX7_images ∈ xtb := tw_r 465 (by decide +kernel) (by decide +kernel)
theorem wS_X0_countWith : Cond.selects RX0 yX0_countWith yX0_countWith ∈ xtb := tw_r 469 (by decide +kernel) (by decide +kernel)
theorem wS_X0_nthWith : Cond.selects RX0 yX0_nthWith yX0_nthWith ∈ xtb := tw_r 483 (by decide +kernel) (by decide +kernel)
theorem wS_X7_carrier : Cond.selects RX7 yX7_carrier yX7_carrier ∈ xtb := tw_r 487 (by decide +kernel) (by decide +kernel)
theorem wS_X0_firstMove : Cond.selects RX0 yX0_firstMove yX0_firstMove ∈ xtb := tw_r 492 (by decide +kernel) (by decide +kernel)
theorem wS_X7_holds : Cond.selects RX7 yX7_holds yX7_holds ∈ xtb := tw_r 504 (by decide +kernel) (by decide +kernel)
theorem wS_X7_heads : Cond.selects RX7 yX7_heads yX7_heads ∈ xtb := tw_r 508 (by decide +kernel) (by decide +kernel)
theorem wS_X0_countFirsts : Cond.selects RX0 yX0_countFirsts yX0_countFirsts ∈ xtb := tw_r 512 (by decide +kernel) (by decide +kernel)
theorem wS_X0_nthFirst : Cond.selects RX0 yX0_nthFirst yX0_nthFirst ∈ xtb := tw_r 520 (by decide +kernel) (by decide +kernel)
theorem wS_X7_head : Cond.selects RX7 yX7_head yX7_head ∈ xtb := tw_r 524 (by decide +kernel) (by decide +kernel)
theorem wS_X0_placeOfFirst : Cond.selects RX0 yX0_placeOfFirst yX0_placeOfFirst ∈ xtb := tw_r 528 (by decide +kernel) (by decide +kernel)
theorem wS_X7_type : Cond.selects RX7 yX7_type yX7_type ∈ xtb := tw_r 532 (by decide +kernel) (by decide +kernel)
theorem wS_X6_add : Cond.selects RX6 yX6_add yX6_add ∈ xtb := tw_r 536 (by decide +kernel) (by decide +kernel)
theorem wS_X7_clear : Cond.selects RX7 yX7_clear yX7_clear ∈ xtb := tw_r 540 (by decide +kernel) (by decide +kernel)
theorem wS_X7_reads : Cond.selects RX7 yX7_reads yX7_reads ∈ xtb := tw_r 544 (by decide +kernel) (by decide +kernel)
theorem wS_X3_read : Cond.selects RX3 yX3_read yX3_read ∈ xtb := tw_r 548 (by decide +kernel) (by decide +kernel)
theorem wS_X6_at : Cond.selects RX6 yX6_at yX6_at ∈ xtb := tw_r 553 (by decide +kernel) (by decide +kernel)
theorem wS_X7_back : Cond.selects RX7 yX7_back yX7_back ∈ xtb := tw_r 586 (by decide +kernel) (by decide +kernel)
theorem wS_X5_pop : Cond.selects RX5 yX5_pop yX5_pop ∈ xtb := tw_r 590 (by decide +kernel) (by decide +kernel)
theorem wS_X7_told : Cond.selects RX7 yX7_told yX7_told ∈ xtb := tw_r 594 (by decide +kernel) (by decide +kernel)
theorem wS_X7_digest : Cond.selects RX7 yX7_digest yX7_digest ∈ xtb := tw_r 602 (by decide +kernel) (by decide +kernel)
theorem wS_X0_digestFirsts : Cond.selects RX0 yX0_digestFirsts yX0_digestFirsts ∈ xtb := tw_r 609 (by decide +kernel) (by decide +kernel)
theorem wS_X8_back : Cond.selects RX8 yX8_back yX8_back ∈ xtb := tw_r 711 (by decide +kernel) (by decide +kernel)
theorem wS_X8_points : Cond.selects RX8 yX8_points yX8_points ∈ xtb := tw_r 719 (by decide +kernel) (by decide +kernel)
theorem wS_X8_moves : Cond.selects RX8 yX8_moves yX8_moves ∈ xtb := tw_r 742 (by decide +kernel) (by decide +kernel)
theorem wS_X8_drops : Cond.selects RX8 yX8_drops yX8_drops ∈ xtb := tw_r 758 (by decide +kernel) (by decide +kernel)
theorem wS_X8_order : Cond.selects RX8 yX8_order yX8_order ∈ xtb := tw_r 766 (by decide +kernel) (by decide +kernel)
theorem wS_X8_of : Cond.selects RX8 yX8_of yX8_of ∈ xtb := tw_r 794 (by decide +kernel) (by decide +kernel)
theorem wS_X8_number : Cond.selects RX8 yX8_number yX8_number ∈ xtb := tw_r 808 (by decide +kernel) (by decide +kernel)
theorem wS_X8_element : Cond.selects RX8 yX8_element yX8_element ∈ xtb := tw_r 812 (by decide +kernel) (by decide +kernel)
theorem wS_X8_image : Cond.selects RX8 yX8_image yX8_image ∈ xtb := tw_r 816 (by decide +kernel) (by decide +kernel)
theorem wS_X8_least : Cond.selects RX8 yX8_least yX8_least ∈ xtb := tw_r 828 (by decide +kernel) (by decide +kernel)
theorem wS_X8_images : Cond.selects RX8 yX8_images yX8_images ∈ xtb := tw_r 854 (by decide +kernel) (by decide +kernel)
theorem wS_X8_carrier : Cond.selects RX8 yX8_carrier yX8_carrier ∈ xtb := tw_r 858 (by decide +kernel) (by decide +kernel)
theorem wS_X8_holds : Cond.selects RX8 yX8_holds yX8_holds ∈ xtb := tw_r 862 (by decide +kernel) (by decide +kernel)
theorem wS_X8_heads : Cond.selects RX8 yX8_heads yX8_heads ∈ xtb := tw_r 866 (by decide +kernel) (by decide +kernel)
theorem wS_X8_head : Cond.selects RX8 yX8_head yX8_head ∈ xtb := tw_r 874 (by decide +kernel) (by decide +kernel)
theorem wS_X8_type : Cond.selects RX8 yX8_type yX8_type ∈ xtb := tw_r 878 (by decide +kernel) (by decide +kernel)
theorem wS_X8_clear : Cond.selects RX8 yX8_clear yX8_clear ∈ xtb := tw_r 882 (by decide +kernel) (by decide +kernel)
theorem wS_X8_reads : Cond.selects RX8 yX8_reads yX8_reads ∈ xtb := tw_r 886 (by decide +kernel) (by decide +kernel)
theorem wS_X8_told : Cond.selects RX8 yX8_told yX8_told ∈ xtb := tw_r 914 (by decide +kernel) (by decide +kernel)
theorem wS_X8_digest : Cond.selects RX8 yX8_digest yX8_digest ∈ xtb := tw_r 922 (by decide +kernel) (by decide +kernel)
theorem wS_X7_refuse : Cond.selects RX7 yX7_refuse yX7_refuse ∈ xtb := tw_r 0 (by decide +kernel) (by decide +kernel)
theorem wS_X7_keepState : Cond.selects RX7 yX7_keepState yX7_keepState ∈ xtb := tw_r 1 (by decide +kernel) (by decide +kernel)
theorem wS_X5_loseOldest : Cond.selects RX5 yX5_loseOldest yX5_loseOldest ∈ xtb := tw_r 2 (by decide +kernel) (by decide +kernel)
theorem wS_X7_fit : Cond.selects RX7 yX7_fit yX7_fit ∈ xtb := tw_r 3 (by decide +kernel) (by decide +kernel)
theorem wS_X1_take : Cond.selects RX1 yX1_take yX1_take ∈ xtb := tw_r 4 (by decide +kernel) (by decide +kernel)
theorem wS_X1_addStep : Cond.selects RX1 yX1_addStep yX1_addStep ∈ xtb := tw_r 5 (by decide +kernel) (by decide +kernel)
theorem wS_X1_closeSteps : Cond.selects RX1 yX1_closeSteps yX1_closeSteps ∈ xtb := tw_r 6 (by decide +kernel) (by decide +kernel)
theorem wS_X0_arrange : Cond.selects RX0 yX0_arrange yX0_arrange ∈ xtb := tw_r 7 (by decide +kernel) (by decide +kernel)
theorem wS_X0_turnRound : Cond.selects RX0 yX0_turnRound yX0_turnRound ∈ xtb := tw_r 8 (by decide +kernel) (by decide +kernel)
theorem wS_X0_spread : Cond.selects RX0 yX0_spread yX0_spread ∈ xtb := tw_r 9 (by decide +kernel) (by decide +kernel)
theorem wS_X0_reach : Cond.selects RX0 yX0_reach yX0_reach ∈ xtb := tw_r 10 (by decide +kernel) (by decide +kernel)
theorem wS_X0_spreadBy : Cond.selects RX0 yX0_spreadBy yX0_spreadBy ∈ xtb := tw_r 11 (by decide +kernel) (by decide +kernel)
theorem wS_X7_tellPoint : Cond.selects RX7 yX7_tellPoint yX7_tellPoint ∈ xtb := tw_r 12 (by decide +kernel) (by decide +kernel)
theorem wS_X7_isSet : Cond.selects RX7 yX7_isSet yX7_isSet ∈ xtb := tw_r 13 (by decide +kernel) (by decide +kernel)
theorem wS_X0_start : Cond.selects RX0 yX0_start yX0_start ∈ xtb := tw_r 14 (by decide +kernel) (by decide +kernel)
theorem wS_X0_goOnTowards : Cond.selects RX0 yX0_goOnTowards yX0_goOnTowards ∈ xtb := tw_r 15 (by decide +kernel) (by decide +kernel)
theorem wS_X0_isFirst : Cond.selects RX0 yX0_isFirst yX0_isFirst ∈ xtb := tw_r 16 (by decide +kernel) (by decide +kernel)
theorem wS_X3_takes : Cond.selects RX3 yX3_takes yX3_takes ∈ xtb := tw_r 17 (by decide +kernel) (by decide +kernel)
theorem wS_X3_takesLetter : Cond.selects RX3 yX3_takesLetter yX3_takesLetter ∈ xtb := tw_r 18 (by decide +kernel) (by decide +kernel)
theorem wS_X3_takesFigure : Cond.selects RX3 yX3_takesFigure yX3_takesFigure ∈ xtb := tw_r 19 (by decide +kernel) (by decide +kernel)
theorem wS_X3_isDue : Cond.selects RX3 yX3_isDue yX3_isDue ∈ xtb := tw_r 20 (by decide +kernel) (by decide +kernel)
theorem wS_X3_takesEnd : Cond.selects RX3 yX3_takesEnd yX3_takesEnd ∈ xtb := tw_r 21 (by decide +kernel) (by decide +kernel)
theorem wS_X3_obeys : Cond.selects RX3 yX3_obeys yX3_obeys ∈ xtb := tw_r 22 (by decide +kernel) (by decide +kernel)
theorem wS_X7_tell : Cond.selects RX7 yX7_tell yX7_tell ∈ xtb := tw_r 23 (by decide +kernel) (by decide +kernel)
theorem wS_X8_refuses : Cond.selects RX8 yX8_refuses yX8_refuses ∈ xtb := tw_r 24 (by decide +kernel) (by decide +kernel)
theorem wS_X8_hold : Cond.selects RX8 yX8_hold yX8_hold ∈ xtb := tw_r 25 (by decide +kernel) (by decide +kernel)
theorem wS_X8_doPoints : Cond.selects RX8 yX8_doPoints yX8_doPoints ∈ xtb := tw_r 26 (by decide +kernel) (by decide +kernel)
theorem wS_X8_ends : Cond.selects RX8 yX8_ends yX8_ends ∈ xtb := tw_r 27 (by decide +kernel) (by decide +kernel)
theorem wS_X8_push : Cond.selects RX8 yX8_push yX8_push ∈ xtb := tw_r 28 (by decide +kernel) (by decide +kernel)
theorem wS_X8_doMoves : Cond.selects RX8 yX8_doMoves yX8_doMoves ∈ xtb := tw_r 29 (by decide +kernel) (by decide +kernel)
theorem wS_X8_isMove : Cond.selects RX8 yX8_isMove yX8_isMove ∈ xtb := tw_r 30 (by decide +kernel) (by decide +kernel)
theorem wS_X8_open : Cond.selects RX8 yX8_open yX8_open ∈ xtb := tw_r 31 (by decide +kernel) (by decide +kernel)
theorem wS_X8_doDrops : Cond.selects RX8 yX8_doDrops yX8_doDrops ∈ xtb := tw_r 32 (by decide +kernel) (by decide +kernel)
theorem wS_X8_lay : Cond.selects RX8 yX8_lay yX8_lay ∈ xtb := tw_r 33 (by decide +kernel) (by decide +kernel)
theorem wS_X8_mark : Cond.selects RX8 yX8_mark yX8_mark ∈ xtb := tw_r 34 (by decide +kernel) (by decide +kernel)
theorem wS_X8_codeAt : Cond.selects RX8 yX8_codeAt yX8_codeAt ∈ xtb := tw_r 35 (by decide +kernel) (by decide +kernel)
theorem wS_X8_placeOf : Cond.selects RX8 yX8_placeOf yX8_placeOf ∈ xtb := tw_r 36 (by decide +kernel) (by decide +kernel)
theorem wS_X8_sortMade : Cond.selects RX8 yX8_sortMade yX8_sortMade ∈ xtb := tw_r 37 (by decide +kernel) (by decide +kernel)
theorem wS_X8_findChains : Cond.selects RX8 yX8_findChains yX8_findChains ∈ xtb := tw_r 38 (by decide +kernel) (by decide +kernel)
theorem wS_X8_ofPoint : Cond.selects RX8 yX8_ofPoint yX8_ofPoint ∈ xtb := tw_r 39 (by decide +kernel) (by decide +kernel)
theorem wS_X8_isSet : Cond.selects RX8 yX8_isSet yX8_isSet ∈ xtb := tw_r 40 (by decide +kernel) (by decide +kernel)
theorem wS_X8_imageOf : Cond.selects RX8 yX8_imageOf yX8_imageOf ∈ xtb := tw_r 41 (by decide +kernel) (by decide +kernel)
theorem wS_X8_leastOf : Cond.selects RX8 yX8_leastOf yX8_leastOf ∈ xtb := tw_r 42 (by decide +kernel) (by decide +kernel)
theorem wS_X8_sortSets : Cond.selects RX8 yX8_sortSets yX8_sortSets ∈ xtb := tw_r 43 (by decide +kernel) (by decide +kernel)
theorem wS_X8_findImages : Cond.selects RX8 yX8_findImages yX8_findImages ∈ xtb := tw_r 44 (by decide +kernel) (by decide +kernel)
theorem wS_X8_carry : Cond.selects RX8 yX8_carry yX8_carry ∈ xtb := tw_r 45 (by decide +kernel) (by decide +kernel)
theorem wS_X8_headsOf : Cond.selects RX8 yX8_headsOf yX8_headsOf ∈ xtb := tw_r 46 (by decide +kernel) (by decide +kernel)
theorem wS_X8_here : Cond.selects RX8 yX8_here yX8_here ∈ xtb := tw_r 47 (by decide +kernel) (by decide +kernel)
theorem wS_X8_readOrder : Cond.selects RX8 yX8_readOrder yX8_readOrder ∈ xtb := tw_r 48 (by decide +kernel) (by decide +kernel)
theorem wS_X8_must : Cond.selects RX8 yX8_must yX8_must ∈ xtb := tw_r 49 (by decide +kernel) (by decide +kernel)
theorem wS_X8_readMove : Cond.selects RX8 yX8_readMove yX8_readMove ∈ xtb := tw_r 50 (by decide +kernel) (by decide +kernel)
theorem wS_X8_figure : Cond.selects RX8 yX8_figure yX8_figure ∈ xtb := tw_r 51 (by decide +kernel) (by decide +kernel)
theorem wS_X8_doOrder : Cond.selects RX8 yX8_doOrder yX8_doOrder ∈ xtb := tw_r 52 (by decide +kernel) (by decide +kernel)
theorem wS_X8_toldOf : Cond.selects RX8 yX8_toldOf yX8_toldOf ∈ xtb := tw_r 53 (by decide +kernel) (by decide +kernel)
theorem wS_X8_mix : Cond.selects RX8 yX8_mix yX8_mix ∈ xtb := tw_r 54 (by decide +kernel) (by decide +kernel)
theorem wT_J7_fill_53178 : Cond.static yJ7_fill_53178 ∈ xtb := tw_r 206 (by decide +kernel) (by decide +kernel)
theorem wT_sys_copy : Cond.static ⟨"java/lang/System", "arraycopy", "(Ljava/lang/Object;ILjava/lang/Object;II)V"⟩ ∈ xtb := tw_r 286 (by decide +kernel) (by decide +kernel)
theorem wT_X2_read : Cond.static yX2_read ∈ xtb := tw_r 297 (by decide +kernel) (by decide +kernel)
theorem wT_X2_at : Cond.static yX2_at ∈ xtb := tw_r 335 (by decide +kernel) (by decide +kernel)
theorem wT_X2_inverse : Cond.static yX2_inverse ∈ xtb := tw_r 342 (by decide +kernel) (by decide +kernel)
theorem wT_X2_then : Cond.static yX2_then ∈ xtb := tw_r 345 (by decide +kernel) (by decide +kernel)
theorem wT_J6_bitCount_0f7a4 : Cond.static yJ6_bitCount_0f7a4 ∈ xtb := tw_r 352 (by decide +kernel) (by decide +kernel)
theorem wT_X2_carry : Cond.static yX2_carry ∈ xtb := tw_r 391 (by decide +kernel) (by decide +kernel)
theorem wT_X2_write : Cond.static yX2_write ∈ xtb := tw_r 446 (by decide +kernel) (by decide +kernel)
theorem wT_J9_min_7cf53 : Cond.static yJ9_min_7cf53 ∈ xtb := tw_r 476 (by decide +kernel) (by decide +kernel)
theorem wT_J9_max_7cf53 : Cond.static yJ9_max_7cf53 ∈ xtb := tw_r 479 (by decide +kernel) (by decide +kernel)
theorem wT_X8_in : Cond.static yX8_in ∈ xtb := tw_r 730 (by decide +kernel) (by decide +kernel)
theorem wT_X8_lowest : Cond.static yX8_lowest ∈ xtb := tw_r 801 (by decide +kernel) (by decide +kernel)
theorem wT_X8_has : Cond.static yX8_has ∈ xtb := tw_r 804 (by decide +kernel) (by decide +kernel)
theorem wT_X8_turned : Cond.static yX8_turned ∈ xtb := tw_r 839 (by decide +kernel) (by decide +kernel)
theorem wT_X8_size : Cond.static yX8_size ∈ xtb := tw_r 842 (by decide +kernel) (by decide +kernel)
theorem wN_L : Cond.initialized RL ∈ xtb := tw_r 55 (by decide +kernel) (by decide +kernel)
theorem wN_X7 : Cond.initialized RX7 ∈ xtb := tw_r 56 (by decide +kernel) (by decide +kernel)
theorem wN_X4 : Cond.initialized RX4 ∈ xtb := tw_r 57 (by decide +kernel) (by decide +kernel)
theorem wN_X5 : Cond.initialized RX5 ∈ xtb := tw_r 58 (by decide +kernel) (by decide +kernel)
theorem wN_X6 : Cond.initialized RX6 ∈ xtb := tw_r 59 (by decide +kernel) (by decide +kernel)
theorem wN_X3 : Cond.initialized RX3 ∈ xtb := tw_r 60 (by decide +kernel) (by decide +kernel)
theorem wN_X1 : Cond.initialized RX1 ∈ xtb := tw_r 61 (by decide +kernel) (by decide +kernel)
theorem wN_X0 : Cond.initialized RX0 ∈ xtb := tw_r 62 (by decide +kernel) (by decide +kernel)
theorem wN_J7 : Cond.initialized RJ7 ∈ xtb := tw_r 63 (by decide +kernel) (by decide +kernel)
theorem wN_X8 : Cond.initialized RX8 ∈ xtb := tw_r 64 (by decide +kernel) (by decide +kernel)
theorem wN_J10 : Cond.initialized RJ10 ∈ xtb := tw_r 65 (by decide +kernel) (by decide +kernel)
theorem wN_X2 : Cond.initialized RX2 ∈ xtb := tw_r 66 (by decide +kernel) (by decide +kernel)
theorem wN_J6 : Cond.initialized RJ6 ∈ xtb := tw_r 67 (by decide +kernel) (by decide +kernel)
theorem wN_J9 : Cond.initialized RJ9 ∈ xtb := tw_r 68 (by decide +kernel) (by decide +kernel)
theorem kI_X2_11 : Cond.constant RX2 11 (16434824 : Int32) ∈ xtb := tw_r 299 (by decide +kernel) (by decide +kernel)
theorem kI_X1_42 : Cond.constant RX1 42 (16434824 : Int32) ∈ xtb := tw_r 324 (by decide +kernel) (by decide +kernel)
theorem kI_X4_24 : Cond.constant RX4 24 (16434824 : Int32) ∈ xtb := tw_r 329 (by decide +kernel) (by decide +kernel)
theorem kI_J6_265 : Cond.constant RJ6 265 (1431655765 : Int32) ∈ xtb := tw_r 354 (by decide +kernel) (by decide +kernel)
theorem kI_J6_266 : Cond.constant RJ6 266 (858993459 : Int32) ∈ xtb := tw_r 355 (by decide +kernel) (by decide +kernel)
theorem kI_J6_267 : Cond.constant RJ6 267 (252645135 : Int32) ∈ xtb := tw_r 356 (by decide +kernel) (by decide +kernel)
theorem kI_X0_78 : Cond.constant RX0 78 (16434824 : Int32) ∈ xtb := tw_r 494 (by decide +kernel) (by decide +kernel)
theorem kI_X8_25 : Cond.constant RX8 25 (40320 : Int32) ∈ xtb := tw_r 619 (by decide +kernel) (by decide +kernel)
theorem kJ_X7_176 : Cond.constantLong RX7 176 (2477 : Int64) ∈ xtb := tw_r 604 (by decide +kernel) (by decide +kernel)
theorem kJ_X7_178 : Cond.constantLong RX7 178 (31 : Int64) ∈ xtb := tw_r 605 (by decide +kernel) (by decide +kernel)
theorem kJ_X0_111 : Cond.constantLong RX0 111 (31 : Int64) ∈ xtb := tw_r 611 (by decide +kernel) (by decide +kernel)
theorem kJ_X8_217 : Cond.constantLong RX8 217 (2477 : Int64) ∈ xtb := tw_r 924 (by decide +kernel) (by decide +kernel)
theorem kJ_X8_211 : Cond.constantLong RX8 211 (31 : Int64) ∈ xtb := tw_r 929 (by decide +kernel) (by decide +kernel)
theorem lkC_L_7 : Cond.classLink RL 7 RX7 ∈ xtb := tw_r 69 (by decide +kernel) (by decide +kernel)
theorem lkC_X7_7 : Cond.classLink RX7 7 RX4 ∈ xtb := tw_r 77 (by decide +kernel) (by decide +kernel)
theorem lkC_X7_16 : Cond.classLink RX7 16 RX5 ∈ xtb := tw_r 99 (by decide +kernel) (by decide +kernel)
theorem lkC_X5_15 : Cond.classLink RX5 15 RX4 ∈ xtb := tw_r 105 (by decide +kernel) (by decide +kernel)
theorem lkC_X7_23 : Cond.classLink RX7 23 RX6 ∈ xtb := tw_r 116 (by decide +kernel) (by decide +kernel)
theorem lkC_X7_30 : Cond.classLink RX7 30 RX3 ∈ xtb := tw_r 132 (by decide +kernel) (by decide +kernel)
theorem lkC_X3_9 : Cond.classLink RX3 9 RX4 ∈ xtb := tw_r 138 (by decide +kernel) (by decide +kernel)
theorem lkC_X7_37 : Cond.classLink RX7 37 RX1 ∈ xtb := tw_r 168 (by decide +kernel) (by decide +kernel)
theorem lkC_X7_44 : Cond.classLink RX7 44 RX0 ∈ xtb := tw_r 199 (by decide +kernel) (by decide +kernel)
theorem lkC_L_10 : Cond.classLink RL 10 RX8 ∈ xtb := tw_r 613 (by decide +kernel) (by decide +kernel)
theorem wB_X7 : Cond.instantiable RX7 10 ∈ xtb := tw_r 70 (by decide +kernel) (by decide +kernel)
theorem wB_X4 : Cond.instantiable RX4 3 ∈ xtb := tw_r 78 (by decide +kernel) (by decide +kernel)
theorem wB_X5 : Cond.instantiable RX5 2 ∈ xtb := tw_r 100 (by decide +kernel) (by decide +kernel)
theorem wB_X6 : Cond.instantiable RX6 2 ∈ xtb := tw_r 117 (by decide +kernel) (by decide +kernel)
theorem wB_X3 : Cond.instantiable RX3 8 ∈ xtb := tw_r 133 (by decide +kernel) (by decide +kernel)
theorem wB_X1 : Cond.instantiable RX1 8 ∈ xtb := tw_r 169 (by decide +kernel) (by decide +kernel)
theorem wB_X0 : Cond.instantiable RX0 7 ∈ xtb := tw_r 200 (by decide +kernel) (by decide +kernel)
theorem wB_X8 : Cond.instantiable RX8 29 ∈ xtb := tw_r 614 (by decide +kernel) (by decide +kernel)
theorem wAC_int : Cond.arrayClass .int ∈ xtb := tw_r 98 (by decide +kernel) (by decide +kernel)
theorem wAO_Setup : Cond.arrayOver (.object "CarriedSets$Setup") ∈ lw_tbl := List.mem_of_getElem? (i := 106) (by decide +kernel)
theorem wAC_byte : Cond.arrayClass .byte ∈ xtb := tw_r 131 (by decide +kernel) (by decide +kernel)
theorem wNat_copy : Cond.native arraycopyName ∈ xtb := tw_r 287 (by decide +kernel) (by decide +kernel)
theorem wAC_boolean : Cond.arrayClass .boolean ∈ xtb := tw_r 708 (by decide +kernel) (by decide +kernel)
end
section
-- branches, checks, sequences and loops of pure functions
noncomputable def xb {α : Type} (c : Prop) (a b : α) : α := @ite α c (Classical.propDecidable c) a b
theorem xb_t {α : Type} {c : Prop} {a b : α} (h : c) : xb c a b = a := by unfold xb; exact if_pos h
theorem xb_f {α : Type} {c : Prop} {a b : α} (h : ¬ c) : xb c a b = b := by unfold xb; exact if_neg h
theorem xb_tt {α : Type} {c : Prop} {a b r : α} (hc : c) (h : xb c a b = r) : a = r := (xb_t hc).symm.trans h
theorem xb_ff {α : Type} {c : Prop} {a b r : α} (hc : ¬ c) (h : xb c a b = r) : b = r := (xb_f hc).symm.trans h
noncomputable def xk {α : Type} (c : Prop) (x : Option α) : Option α := xb c x none
theorem xk_t {α : Type} {c : Prop} {x : Option α} (h : c) : xk c x = x := xb_t h
theorem xk_i {α : Type} {c : Prop} {x : Option α} {r : α} (h : xk c x = some r) : c ∧ x = some r := by
  rcases Classical.em c with q | q
  · exact ⟨q, (xk_t q).symm.trans h⟩
  · have h2 : (none : Option α) = some r := (xb_f q).symm.trans h
    cases h2
def xn {α β : Type} (x : Option α) (f : α → Option β) : Option β := match x with
  | none => none
  | some a => f a
theorem xn_i {α β : Type} {x : Option α} {f : α → Option β} {r : β} (h : xn x f = some r) : ∃ a, x = some a ∧ f a = some r := by
  cases x with
  | none => cases h
  | some a => exact ⟨a, rfl, h⟩
theorem xn_s {α β : Type} {x : Option α} {f : α → Option β} {a : α} (h : x = some a) : xn x f = f a := by rw [h]; rfl
def xl {S R : Type} (body : S → Option (S ⊕ R)) : Nat → S → Option R
  | 0, _ => none
  | n + 1, s => xn (body s) (fun o => match o with
    | .inl s' => xl body n s'
    | .inr r => some r)
theorem xl_l {S R : Type} {body : S → Option (S ⊕ R)} {n : Nat} {s s' : S} (h : body s = some (.inl s')) : xl body (n + 1) s = xl body n s' := by rw [xl, xn_s h]
theorem xl_r {S R : Type} {body : S → Option (S ⊕ R)} {n : Nat} {s : S} {r : R} (h : body s = some (.inr r)) : xl body (n + 1) s = some r := by rw [xl, xn_s h]
theorem xl_i {S R : Type} {body : S → Option (S ⊕ R)} {n : Nat} {s : S} {r : R} (h : xl body (n + 1) s = some r) : (∃ s', body s = some (.inl s') ∧ xl body n s' = some r) ∨ body s = some (.inr r) := by
  rw [xl] at h
  obtain ⟨o, h1, h2⟩ := xn_i h
  cases o with
  | inl s' => exact Or.inl ⟨s', h1, h2⟩
  | inr q => exact Or.inr (by rw [h1]; rw [Option.some.inj h2])
theorem xl_mono {S R : Type} {body : S → Option (S ⊕ R)} : ∀ {n : Nat} {s : S} {r : R} (k : Nat), xl body n s = some r → xl body (n + k) s = some r
  | 0, _, _, _, h => by cases h
  | n + 1, s, r, k, h => by
    rw [show n + 1 + k = (n + k) + 1 by omega]
    rcases xl_i h with ⟨s', h1, h2⟩ | h1
    · rw [xl_l h1]; exact xl_mono k h2
    · exact xl_r h1
theorem xl_one {S R : Type} {body : S → Option (S ⊕ R)} {n k : Nat} {s : S} {r q : R} (h1 : xl body n s = some r) (h2 : xl body k s = some q) : r = q := by
  have a := xl_mono k h1
  have b := xl_mono n h2
  rw [Nat.add_comm k n, a] at b
  exact Option.some.inj b
noncomputable def xL {S R : Type} (body : S → Option (S ⊕ R)) (s : S) : Option R := @dite _ (∃ r, ∃ n, xl body n s = some r) (Classical.propDecidable _) (fun h => some h.choose) (fun _ => none)
theorem xL_i {S R : Type} {body : S → Option (S ⊕ R)} {s : S} {r : R} (h : xL body s = some r) : ∃ n, xl body n s = some r := by
  unfold xL at h
  rcases Classical.em (∃ r, ∃ n, xl body n s = some r) with q | q
  · rw [dif_pos q] at h
    have e := Option.some.inj h
    rw [← e]; exact q.choose_spec
  · rw [dif_neg q] at h; cases h
theorem xL_s {S R : Type} {body : S → Option (S ⊕ R)} {s : S} {r : R} {n : Nat} (h : xl body n s = some r) : xL body s = some r := by
  have q : ∃ r, ∃ n, xl body n s = some r := ⟨r, n, h⟩
  unfold xL
  rw [dif_pos q]
  obtain ⟨k, hk⟩ := q.choose_spec
  rw [xl_one hk h]
theorem xL_l {S R : Type} {body : S → Option (S ⊕ R)} {s s' : S} {r : R} (h : body s = some (.inl s')) (h2 : xL body s' = some r) : xL body s = some r := by
  obtain ⟨n, hn⟩ := xL_i h2
  exact xL_s (n := n + 1) (by rw [xl_l h]; exact hn)
theorem xL_r {S R : Type} {body : S → Option (S ⊕ R)} {s : S} {r : R} (h : body s = some (.inr r)) : xL body s = some r := xL_s (n := 1) (xl_r h)
/-- the walk of a loop: what holds at its head follows from what holds behind it -/
theorem xL_w {S R : Type} {body : S → Option (S ⊕ R)} (Wd : S → Prop) (We : R → Prop) (hb : ∀ (s : S) (o : S ⊕ R), body s = some o → Sum.elim Wd We o → Wd s) {s : S} {r : R} (h : xL body s = some r) (hr : We r) : Wd s := by
  obtain ⟨n, hn⟩ := xL_i h
  clear h
  induction n generalizing s with
  | zero => cases hn
  | succ n ih =>
    rcases xl_i hn with ⟨s', h1, h2⟩ | h1
    · exact hb s _ h1 (ih h2)
    · exact hb s _ h1 hr
/-- the reckoning of a loop: an invariant and a measure -/
theorem xL_inv {S R : Type} {body : S → Option (S ⊕ R)} {P : R → Prop} (I : S → Prop) (μ : S → Nat) (h : ∀ s, I s → (∃ s', body s = some (.inl s') ∧ I s' ∧ μ s' < μ s) ∨ (∃ r, body s = some (.inr r) ∧ P r)) {s : S} (hs : I s) : ∃ r, xL body s = some r ∧ P r := by
  have key : ∀ (k : Nat) (s : S), I s → μ s < k → ∃ r, xL body s = some r ∧ P r := by
    intro k
    induction k with
    | zero => intro s _ hk; exact absurd hk (Nat.not_lt_zero _)
    | succ k ih =>
      intro s hs hk
      rcases h s hs with ⟨s', h1, h2, h3⟩ | ⟨r, h1, h2⟩
      · obtain ⟨r, h4, h5⟩ := ih s' h2 (by omega)
        exact ⟨r, xL_l h1 h4, h5⟩
      · exact ⟨r, xL_r h1, h2⟩
  exact key _ s hs (Nat.lt_succ_self _)
-- the walk's context, world, contracts
abbrev xT (cI cZ cB cO : ClassId) : List (ClassId × FieldType) := [(cI, .int), (cZ, .boolean), (cB, .byte), (cO, .object "CarriedSets$Setup")]
def xW (y : MethodName) (cc : ByteArray) (n : Nat) (ret : Option FieldType) : List Cond := Cond.code y cc n ret :: xtb
def xCtx (D : va_G) (tys : List (ClassId × FieldType)) (p : Program) (s : State) (m : MethodId) (args : Array Value) (meth : Method) (c : Code) (cc : ByteArray) (nL : Nat) (own : String) (ret : Option FieldType) : Prop :=
  p.tables.exec = Jvm.exec ∧ c.code = cc ∧ c.maxLocals = nL ∧ s.vm.findClass own = some m.cls ∧ (∀ w ∈ xtb, w.before args s = true) ∧ meth.sig.returnType = ret ∧ meth.locks = false ∧ va_K D vwCl tys s
def xWd (D : va_G) (A : Nat → Prop) (H0 H : Heap) (locs : List Loc) (ws : va_W) : Prop := va_P D vwCl ws H ∧ va_D A ws ∧ va_S A H0 H locs ∧ ∀ q, H0.size ≤ q → A q
abbrev xPre (dC : Nat → ClassId) (dI : Nat → Nat → Nat) (tys : List (ClassId × FieldType)) (av : List Value) (wc : va_W) (sz : Nat) : Array Value → State → Prop := va_Pc av (fun U => U.heap.size = sz ∧ va_P (dC, dI) vwCl wc U.heap ∧ va_K (dC, dI) vwCl tys U ∧ va_D (fun _ => True) wc)
abbrev xBk (dC : Nat → ClassId) (dI : Nat → Nat → Nat) (tys : List (ClassId × FieldType)) (wc w1 : va_W) (sz : Nat) : Unit → State → Prop := fun _ t => va_P (dC, dI) vwCl w1 t.heap ∧ va_K (dC, dI) vwCl tys t ∧ va_D (va_A wc sz) w1
abbrev xQi (dC : Nat → ClassId) (dI : Nat → Nat → Nat) (tys : List (ClassId × FieldType)) (r : Int32) (wc w1 : va_W) (sz : Nat) : Array Value → State → Outcome → State → Prop := va_Qi (fun (r' : Int32) (_ : Unit) => r' = r) (xBk dC dI tys wc w1 sz) (va_A wc sz)
abbrev xQl (dC : Nat → ClassId) (dI : Nat → Nat → Nat) (tys : List (ClassId × FieldType)) (r : Int64) (wc w1 : va_W) (sz : Nat) : Array Value → State → Outcome → State → Prop := va_Ql (fun (r' : Int64) (_ : Unit) => r' = r) (xBk dC dI tys wc w1 sz) (va_A wc sz)
abbrev xQv (dC : Nat → ClassId) (dI : Nat → Nat → Nat) (tys : List (ClassId × FieldType)) (wc w1 : va_W) (sz : Nat) : Array Value → State → Outcome → State → Prop := va_Qv (fun (_ : Unit) => True) (xBk dC dI tys wc w1 sz) (va_A wc sz)
/-- a method's entry -/
theorem x_met {l : Launch} {y : MethodName} {dC : Nat → ClassId} {dI : Nat → Nat → Nat} {tys : List (ClassId × FieldType)} {cc : ByteArray} {maxL : Nat} {ret : Option FieldType} {rm : Room} {av : List Value} {wc : va_W} {sz mc ms : Nat} {Qc : Array Value → State → Outcome → State → Prop}
    (hy : plainName y.cls = true) (hlen : (lg_sl av).length ≤ maxL)
    (body : ∀ (p : Program) (e : Env) (s : State) (m : MethodId) (args : Array Value) (below : List Frame) (meth : Method) (c : Code) (R : Room) (Q : State → Prop) (A : Nat → Prop), R = rm → s.heap.size = sz → A = va_A wc sz → Q = MQ below Qc args s mc ms (va_A wc sz) → (y.name = "<init>" → meth.name = "<init>") →
      xCtx (dC, dI) tys p s m args meth c cc maxL y.cls ret → xWd (dC, dI) A s.heap s.heap [] wc → ∀ (ls : Array Slot), lv_has ls maxL (lv_args 0 av) →
      W p l e R s m args below meth c s.heap [] 0 0 Q (F0 m 0 ls [])) :
    Met l y (xW y cc maxL ret) rm (xPre dC dI tys av wc sz) Qc mc ms (va_A wc sz) := by
  refine Met.ofW (cc := cc) (maxL := maxL) (ret := ret) hy rfl ?_
  intro p e s m args below meth c s₁ B hml hv
  obtain ⟨rfl, hsz, hP, hK, hD0⟩ := hv
  have hts := atoms_spec (ws := xW y cc maxL ret) B.pre
  have hown : s.vm.findClass y.cls = some m.cls := findClass_of_methodNamed B.named
  have hin : meth.name = y.name := (name_of_methodNamed B.named B.method).1
  have hD := hD0.self (sz := sz)
  have hl := lv_entry av (n := maxL) hlen
  rw [lg_entry_eq]
  exact body p e s m _ below meth c _ _ (va_A wc sz) rfl hsz rfl rfl (fun h => hin.trans h) ⟨B.exec, B.bytes, hml, hown, fun w h => hts w (List.mem_cons_of_mem _ h), B.returns, B.notSynchronized, hK⟩ ⟨hP, hD, va_S.rf, fun q h => Or.inr (by rw [← hsz]; exact h)⟩ _ hl
section XROWS
variable {D : va_G} {dC : Nat → ClassId} {dI : Nat → Nat → Nat} {tys : List (ClassId × FieldType)} {p : Program} {l : Launch} {e : Env} {R : Room} {s : State} {m : MethodId} {args : Array Value} {below : List Frame} {meth : Method} {c : Code} {H H0 : Heap} {locs : List Loc} {cells slots : Nat} {Q : State → Prop} {A : Nat → Prop}
variable {cc : ByteArray} {pc nL : Nat} {ls : Array Slot} {rest : List Value} {own : String} {ret : Option FieldType} {ws : va_W} {a : Nat}
theorem xWd.sub (h : xWd D A H0 H locs ws) {ws' : va_W} (is : List Nat) (hn : va_nd is = true) (hs : is.map (fun i => ws[i]?) = ws'.map some) : xWd D A H0 H locs ws' := by
  refine ⟨?_, h.2.1.sub is hn hs, h.2.2⟩
  intro k q hk
  have h1 : (ws'.map some)[k]? = some (some q) := by rw [List.getElem?_map, hk]; rfl
  rw [← hs, List.getElem?_map] at h1
  cases hi : is[k]? with
  | none => rw [hi] at h1; cases h1
  | some i =>
    rw [hi] at h1
    exact h.1 i q (Option.some.inj h1)
theorem x_get (C : xCtx D tys p s m args meth c cc nL own ret) (hw : xWd D A H0 H locs ws) {Cn ref : String} {T : u_T} {N ci index : Nat} (hin : ∀ w ∈ u_ws Cn T N, w ∈ xtb) (hc : vwCl[ci]? = some (Cn, T, N)) (k : Nat) (hk : k < N) (hlink : Cond.fieldLink own index ref (T k).2.1 (T k).2.2.1 ∈ xtb) (href : (T k).1 = ref) (q0 : Nat) {fs : List Value} (he : ws[q0]? = some (a, .inr (ci, fs))) {v : Value} (hv : fs[k]? = some v) (hdg : decode cc pc = .ok (.getfield index, 3))
    (kk : W p l e R s m args below meth c H locs cells slots Q (F0 m (pc + 3) ls (v :: rest))) : W p l e R s m args below meth c H locs cells slots Q (F0 m pc ls (.ref a :: rest)) :=
  va_get C.1 C.2.1 C.2.2.2.2.1 hin C.2.2.2.1 C.2.2.2.2.2.2.2 hw.1 q0 he hc k hk (C.2.2.2.2.1 _ hlink) (fun _ h9 => by rw [← href]; exact h9) hv hdg kk
theorem x_put (C : xCtx D tys p s m args meth c cc nL own ret) (hw : xWd D A H0 H locs ws) {Cn ref : String} {T : u_T} {N ci index : Nat} (hin : ∀ w ∈ u_ws Cn T N, w ∈ xtb) (ty0 : Nat → FieldType) (hty : ∀ k, k < N → parseFieldDescriptor (T k).2.2.1 = some (ty0 k)) (hnm : ∀ a, a < N → ∀ b, b < N → a ≠ b → (T a).2.1 ≠ (T b).2.1) (hc : vwCl[ci]? = some (Cn, T, N)) (k : Nat) (hk : k < N) (hlink : Cond.fieldLink own index ref (T k).2.1 (T k).2.2.1 ∈ xtb) (href : (T k).1 = ref) (hfin : (T k).2.2.2 = false) (q0 : Nat) {fs : List Value} (he : ws[q0]? = some (a, .inr (ci, fs))) {v : Value} (hn : narrow (ty0 k) v = v) (hfit : fits (ty0 k) v = true) (hl : k < fs.length) (hdg : decode cc pc = .ok (.putfield index, 3))
    (kk : ∀ (H1 : Heap) (locs1 : List Loc), xWd D A H0 H1 locs1 (ws.set q0 (a, .inr (ci, fs.set k v))) → W p l e R s m args below meth c H1 locs1 cells slots Q (F0 m (pc + 3) ls rest)) : W p l e R s m args below meth c H locs cells slots Q (F0 m pc ls (v :: .ref a :: rest)) :=
  va_put C.1 C.2.1 C.2.2.2.2.1 hin ty0 hty hnm C.2.2.2.1 C.2.2.2.2.2.2.2 hw.1 hw.2.1 hw.2.2.1 q0 he hc k hk (C.2.2.2.2.1 _ hlink) (fun _ h9 => by rw [← href]; exact h9) hfin (hty k hk) hn hfit hl hdg (fun H1 locs1 h1 h2 h3 => kk H1 locs1 ⟨h1, h2, h3, hw.2.2.2⟩)
theorem x_iald (C : xCtx D tys p s m args meth c cc nL own ret) (hw : xWd D A H0 H locs ws) (q0 t0 : Nat) {cA : ClassId} {n : Nat} {f : Nat → Int32} (ha : ws[q0]? = some (a, .inl (cA, n, .inl f))) (ht : tys[t0]? = some (cA, .int)) {i : Int32} (hin : vp_in i n) (hdg : decode cc pc = .ok (.iaload, 1))
    (kk : W p l e R s m args below meth c H locs cells slots Q (F0 m (pc + 1) ls (.int (f i.toNatClampNeg) :: rest))) : W p l e R s m args below meth c H locs cells slots Q (F0 m pc ls (.int i :: .ref a :: rest)) := va_iald C.1 C.2.1 C.2.2.2.2.2.2.2 hw.1 q0 t0 ha ht hin hdg kk
theorem x_zald (C : xCtx D tys p s m args meth c cc nL own ret) (hw : xWd D A H0 H locs ws) (q0 t0 : Nat) {cA : ClassId} {n : Nat} {f : Nat → Int32} (ha : ws[q0]? = some (a, .inl (cA, n, .inl f))) (ht : tys[t0]? = some (cA, .boolean)) {i : Int32} (hin : vp_in i n) (hdg : decode cc pc = .ok (.baload, 1))
    (kk : W p l e R s m args below meth c H locs cells slots Q (F0 m (pc + 1) ls (.int (f i.toNatClampNeg) :: rest))) : W p l e R s m args below meth c H locs cells slots Q (F0 m pc ls (.int i :: .ref a :: rest)) := va_zald C.1 C.2.1 C.2.2.2.2.2.2.2 hw.1 q0 t0 ha ht hin hdg kk
theorem x_bald (C : xCtx D tys p s m args meth c cc nL own ret) (hw : xWd D A H0 H locs ws) (q0 t0 : Nat) {cA : ClassId} {n : Nat} {f : Nat → Int32} (ha : ws[q0]? = some (a, .inl (cA, n, .inl f))) (ht : tys[t0]? = some (cA, .byte)) {i : Int32} (hin : vp_in i n) (hdg : decode cc pc = .ok (.baload, 1))
    (kk : W p l e R s m args below meth c H locs cells slots Q (F0 m (pc + 1) ls (.int (f i.toNatClampNeg) :: rest))) : W p l e R s m args below meth c H locs cells slots Q (F0 m pc ls (.int i :: .ref a :: rest)) := va_bald C.1 C.2.1 C.2.2.2.2.2.2.2 hw.1 q0 t0 ha ht hin hdg kk
theorem x_iast (C : xCtx D tys p s m args meth c cc nL own ret) (hw : xWd D A H0 H locs ws) (q0 t0 : Nat) {cA : ClassId} {n : Nat} {f : Nat → Int32} (ha : ws[q0]? = some (a, .inl (cA, n, .inl f))) (ht : tys[t0]? = some (cA, .int)) {i x : Int32} (hin : vp_in i n) (hdg : decode cc pc = .ok (.iastore, 1))
    (kk : ∀ (H1 : Heap) (locs1 : List Loc), xWd D A H0 H1 locs1 (ws.set q0 (a, .inl (cA, n, .inl (upd f i.toNatClampNeg x)))) → W p l e R s m args below meth c H1 locs1 cells slots Q (F0 m (pc + 1) ls rest)) : W p l e R s m args below meth c H locs cells slots Q (F0 m pc ls (.int x :: .int i :: .ref a :: rest)) :=
  va_iast C.1 C.2.1 C.2.2.2.2.2.2.2 hw.1 hw.2.1 hw.2.2.1 q0 t0 ha ht hin hdg (fun H1 locs1 h1 h2 h3 => kk H1 locs1 ⟨h1, h2, h3, hw.2.2.2⟩)
theorem x_zast (C : xCtx D tys p s m args meth c cc nL own ret) (hw : xWd D A H0 H locs ws) (q0 t0 : Nat) {cA : ClassId} {n : Nat} {f : Nat → Int32} (ha : ws[q0]? = some (a, .inl (cA, n, .inl f))) (ht : tys[t0]? = some (cA, .boolean)) {i x : Int32} (hx : vp_nar .boolean x = x) (hin : vp_in i n) (hdg : decode cc pc = .ok (.bastore, 1))
    (kk : ∀ (H1 : Heap) (locs1 : List Loc), xWd D A H0 H1 locs1 (ws.set q0 (a, .inl (cA, n, .inl (upd f i.toNatClampNeg x)))) → W p l e R s m args below meth c H1 locs1 cells slots Q (F0 m (pc + 1) ls rest)) : W p l e R s m args below meth c H locs cells slots Q (F0 m pc ls (.int x :: .int i :: .ref a :: rest)) :=
  va_zast C.1 C.2.1 C.2.2.2.2.2.2.2 hw.1 hw.2.1 hw.2.2.1 q0 t0 ha ht hin hdg (fun H1 locs1 h1 h2 h3 => kk H1 locs1 (by rw [hx] at h1 h2; exact ⟨h1, h2, h3, hw.2.2.2⟩))
theorem x_bast (C : xCtx D tys p s m args meth c cc nL own ret) (hw : xWd D A H0 H locs ws) (q0 t0 : Nat) {cA : ClassId} {n : Nat} {f : Nat → Int32} (ha : ws[q0]? = some (a, .inl (cA, n, .inl f))) (ht : tys[t0]? = some (cA, .byte)) {i x : Int32} (hx : vp_nar .byte x = x) (hin : vp_in i n) (hdg : decode cc pc = .ok (.bastore, 1))
    (kk : ∀ (H1 : Heap) (locs1 : List Loc), xWd D A H0 H1 locs1 (ws.set q0 (a, .inl (cA, n, .inl (upd f i.toNatClampNeg x)))) → W p l e R s m args below meth c H1 locs1 cells slots Q (F0 m (pc + 1) ls rest)) : W p l e R s m args below meth c H locs cells slots Q (F0 m pc ls (.int x :: .int i :: .ref a :: rest)) :=
  va_bast C.1 C.2.1 C.2.2.2.2.2.2.2 hw.1 hw.2.1 hw.2.2.1 q0 t0 ha ht hin hdg (fun H1 locs1 h1 h2 h3 => kk H1 locs1 (by rw [hx] at h1 h2; exact ⟨h1, h2, h3, hw.2.2.2⟩))
theorem x_reti {r : Int32} {wc w1 : va_W} {sz : Nat} (C : xCtx (dC, dI) tys p s m args meth c cc nL own (some .int)) (hQ : Q = MQ below (xQi dC dI tys r wc w1 sz) args s cells slots (va_A wc sz)) (hA : A = va_A wc sz) (hw : xWd (dC, dI) A s.heap H locs w1) (hdg : decode cc pc = .ok (.ireturn, 1)) : W p l e R s m args below meth c H locs cells slots Q (F0 m pc ls [.int r]) := by
  subst hQ hA
  exact W.iret C.1 C.2.1 C.2.2.2.2.2.1 (fun t ht hW => ⟨⟨r, (), rfl, rfl, by rw [ht]; exact hw.1, va_K.moved hW.alike C.2.2.2.2.2.2.2, hw.2.1⟩, hw.2.2.1.F ht⟩) hw.2.2.1.2.2 hdg C.2.2.2.2.2.2.1
theorem x_retz {r : Int32} {wc w1 : va_W} {sz : Nat} (C : xCtx (dC, dI) tys p s m args meth c cc nL own (some .boolean)) (hQ : Q = MQ below (xQi dC dI tys r wc w1 sz) args s cells slots (va_A wc sz)) (hA : A = va_A wc sz) (hw : xWd (dC, dI) A s.heap H locs w1) (hr : r = 0 ∨ r = 1) (hdg : decode cc pc = .ok (.ireturn, 1)) : W p l e R s m args below meth c H locs cells slots Q (F0 m pc ls [.int r]) := by
  subst hQ hA
  exact W.zret C.1 C.2.1 C.2.2.2.2.2.1 (by rcases hr with rfl | rfl <;> rfl) (fun t ht hW => ⟨⟨r, (), rfl, rfl, by rw [ht]; exact hw.1, va_K.moved hW.alike C.2.2.2.2.2.2.2, hw.2.1⟩, hw.2.2.1.F ht⟩) hw.2.2.1.2.2 hdg C.2.2.2.2.2.2.1
theorem x_retl {r : Int64} {wc w1 : va_W} {sz : Nat} (C : xCtx (dC, dI) tys p s m args meth c cc nL own (some .long)) (hQ : Q = MQ below (xQl dC dI tys r wc w1 sz) args s cells slots (va_A wc sz)) (hA : A = va_A wc sz) (hw : xWd (dC, dI) A s.heap H locs w1) (hdg : decode cc pc = .ok (.lreturn, 1)) : W p l e R s m args below meth c H locs cells slots Q (F0 m pc ls [.long r]) := by
  subst hQ hA
  exact W.lret C.1 C.2.1 C.2.2.2.2.2.1 (fun t ht hW => ⟨⟨r, (), rfl, rfl, by rw [ht]; exact hw.1, va_K.moved hW.alike C.2.2.2.2.2.2.2, hw.2.1⟩, hw.2.2.1.F ht⟩) hw.2.2.1.2.2 hdg C.2.2.2.2.2.2.1
theorem x_retv {wc w1 : va_W} {sz : Nat} (C : xCtx (dC, dI) tys p s m args meth c cc nL own none) (hQ : Q = MQ below (xQv dC dI tys wc w1 sz) args s cells slots (va_A wc sz)) (hA : A = va_A wc sz) (hw : xWd (dC, dI) A s.heap H locs w1) (hdg : decode cc pc = .ok (.return_, 1)) : W p l e R s m args below meth c H locs cells slots Q (F0 m pc ls []) := by
  subst hQ hA
  exact W.vret C.1 C.2.1 C.2.2.2.2.2.1 (fun t ht hW => ⟨⟨(), rfl, trivial, by rw [ht]; exact hw.1, va_K.moved hW.alike C.2.2.2.2.2.2.2, hw.2.1⟩, hw.2.2.1.F ht⟩) hw.2.2.1.2.2 hdg C.2.2.2.2.2.2.1
-- calls
theorem x_good {own : String} {index : Nat} {Cn : String} {y : MethodName} {bytes : ByteArray} {maxL : Nat} {ret : Option FieldType} (h1 : Cond.methodLink own index y ∈ xtb) (h2 : Cond.instanceMethod y ∈ xtb) (h3 : Cond.selects Cn y y ∈ xtb) (h4 : Cond.initialized Cn ∈ xtb) (h5 : Cond.code y bytes maxL ret ∈ xtb) : GoodIn xtb (wsV own index Cn y (xW y bytes maxL ret)) := by
  intro w hw
  have hm : w ∈ xtb := by
    unfold wsV xW at hw
    simp only [List.cons_append, List.nil_append, List.mem_cons] at hw
    rcases hw with rfl | rfl | rfl | rfl | rfl | h
    · exact h1
    · exact h2
    · exact h3
    · exact h4
    · exact h5
    · exact h
  exact ⟨hm, good_of_word (tw_good w hm)⟩
theorem x_goodS {own : String} {index : Nat} {y : MethodName} {bytes : ByteArray} {maxL : Nat} {ret : Option FieldType} (h1 : Cond.methodLink own index y ∈ xtb) (h2 : Cond.static y ∈ xtb) (h4 : Cond.initialized y.cls ∈ xtb) (h5 : Cond.code y bytes maxL ret ∈ xtb) : GoodIn xtb (va_wsS own index y (xW y bytes maxL ret)) := by
  intro w hw
  have hm : w ∈ xtb := by
    unfold va_wsS xW at hw
    simp only [List.cons_append, List.nil_append, List.mem_cons] at hw
    rcases hw with rfl | rfl | rfl | rfl | h
    · exact h1
    · exact h2
    · exact h4
    · exact h5
    · exact h
  exact ⟨hm, good_of_word (tw_good w hm)⟩
abbrev xDs (y : MethodName) (n : Nat) : Prop := y.cls ≠ "java/lang/invoke/MethodHandle" ∧ y.cls ≠ "java/lang/invoke/VarHandle" ∧ (parseMethodDescriptor y.desc).map (fun d => d.parameters.length) = some n
theorem x_pre {av : List Value} {wc : va_W} (C : xCtx (dC, dI) tys p s m args meth c cc nL own ret) (hP : va_P (dC, dI) vwCl wc H) (hD : va_D A wc) (U : State) (hU : U.heap = H) (hW : s.WarmedH U.vm) : xPre dC dI tys av wc H.size av.toArray U := ⟨rfl, by rw [hU], by rw [hU]; exact hP, va_K.moved hW.alike C.2.2.2.2.2.2.2, hD.weaken (fun _ _ _ _ => trivial)⟩
theorem x_blind {av : List Value} {wc : va_W} {sz : Nat} : FrameBlind (xPre dC dI tys av wc sz) := fun a U g mk q => by
  obtain ⟨q0, q1, qP, qK, qD⟩ := q
  exact ⟨q0, q1, qP, va_K.moved (u := U) (U := U.calling g mk a) (Vm.Alike.refl U.vm) qK, qD⟩
/-- the world behind a call: the rest as it was, then the callee's cells -/
theorem x_back {wc wr w1 : va_W} {t : State} {H1 : Heap} {locs1 : List Loc} (hw : xWd (dC, dI) A H0 H locs ws) (isC isR : List Nat) (hC : isC.map (fun i => ws[i]?) = wc.map some) (hR : isR.map (fun i => ws[i]?) = wr.map some) (hn : va_nd isR = true) (hdis : ∀ i ∈ isR, i ∉ isC) (ht : t.heap = H1) (hB : xBk dC dI tys wc w1 H.size () t) (hk : ∀ q : Nat, q < H.size → ¬ va_A wc H.size q → H1[q]? = H[q]?) (hS : va_S A H0 H1 locs1) : xWd (dC, dI) A H0 H1 locs1 (wr ++ w1) := by
  have hF := va_free (wc := wc) hw.2.1 hw.2.2.1 hw.2.2.2 isC hC
  obtain ⟨hP1, -, hD1⟩ := hB
  rw [ht] at hP1
  obtain ⟨h1, h2⟩ := va_join (wr := wr) (w1 := w1) hw.1 hw.2.1 isC isR hC hR hn hdis hk hF hP1 hD1
  exact ⟨h1, h2, hS, hw.2.2.2⟩
theorem x_cut {wc : va_W} (hw : xWd D A H0 H locs ws) (isC : List Nat) (hc : va_nd isC = true) (hC : isC.map (fun i => ws[i]?) = wc.map some) : va_P D vwCl wc H ∧ va_D A wc := ⟨(hw.sub isC hc hC).1, (hw.sub isC hc hC).2.1⟩
section XCALL
variable {y : MethodName} {bytes : ByteArray} {maxL index n mc ms ci b : Nat} {rt : Option FieldType} {rm : Room} {av : List Value} {As : List Value} {wc wr w1 : va_W} {fs : List Value} {Cn : String} {T : u_T} {N : Nat} {st0 : List Value}
/-- what every call needs: the words, the room, the callee's cells -/
abbrev xCall (R : Room) (own : String) (index : Nat) (y : MethodName) (bytes : ByteArray) (maxL : Nat) (rt : Option FieldType) (rm : Room) (n : Nat) (cells slots mc ms : Nat) (g : GoodIn xtb (wsV own index y.cls y (xW y bytes maxL rt))) : Prop :=
  rm.cells = mc ∧ rm.slots = ms ∧ xDs y n ∧ rm.frames + 1 ≤ R.frames ∧ 8 + (maxL + 11) + rm.locals ≤ R.locals ∧ cells + mc ≤ R.cells ∧ slots + ms ≤ R.slots
theorem x_runV {Qc : Array Value → State → Outcome → State → Prop} (C : xCtx (dC, dI) tys p s m args meth c cc nL own ret) (hw : xWd (dC, dI) A H0 H locs ws)
    (g : GoodIn xtb (wsV own index y.cls y (xW y bytes maxL rt))) (hk : xCall R own index y bytes maxL rt rm n cells slots mc ms g)
    (hM : Met l y (xW y bytes maxL rt) rm (xPre dC dI tys (.ref b :: As) wc H.size) Qc mc ms (va_A wc H.size))
    (isC : List Nat) (hc : va_nd isC = true) (hC : isC.map (fun i => ws[i]?) = wc.map some)
    (hcl : vwCl[ci]? = some (y.cls, T, N)) (he : wc[0]? = some (b, .inr (ci, fs))) (hn : As.length = n) (hls : ls.size = nL)
    (hst : st0 = As.reverse ++ .ref b :: rest) (hrm : (rest.map fun v => v.category).sum ≤ 8) (hdg : decode cc pc = .ok (.invokevirtual index, 3)) :
    va_Run p l e R s m args below meth c H locs cells slots mc ms (F0 m pc ls st0) rest (Qc (Value.ref b :: As).toArray) (va_A wc H.size) := by
  obtain ⟨hPc, hDc⟩ := x_cut hw isC hc hC
  obtain ⟨k1, k2, k3, k4, k5, k6, k7⟩ := hk
  exact va_runV (As := As) (rest := rest) ⟨C.1, C.2.1, C.2.2.1, C.2.2.2.1, C.2.2.2.2.1⟩ hM (cwV n C.2.2.2.2.1 g rfl k1 k2 ⟨rfl, k3⟩ ⟨k4, k5⟩) ⟨x_blind, va_recv C.2.2.2.2.2.2.2 hPc hcl he, fun U hU hW => x_pre C hPc hDc U hU hW⟩ rfl hn hls hst (lv_room hrm) hdg ⟨k6, k7⟩
theorem x_callVi {r : Int32} (C : xCtx (dC, dI) tys p s m args meth c cc nL own ret) (hw : xWd (dC, dI) A H0 H locs ws)
    (g : GoodIn xtb (wsV own index y.cls y (xW y bytes maxL rt))) (hk : xCall R own index y bytes maxL rt rm n cells slots 0 0 g)
    (hM : Met l y (xW y bytes maxL rt) rm (xPre dC dI tys (.ref b :: As) wc H.size) (xQi dC dI tys r wc w1 H.size) 0 0 (va_A wc H.size))
    (isC isR : List Nat) (hc : va_nd isC = true) (hC : isC.map (fun i => ws[i]?) = wc.map some) (hR : isR.map (fun i => ws[i]?) = (isR.filterMap (fun i => ws[i]?)).map some) (hr : va_nd isR = true) (hdis : ∀ i ∈ isR, i ∉ isC)
    (hcl : vwCl[ci]? = some (y.cls, T, N)) (he : wc[0]? = some (b, .inr (ci, fs))) (hn : As.length = n) (hls : ls.size = nL)
    (hst : st0 = As.reverse ++ .ref b :: rest) (hrm : (rest.map fun v => v.category).sum ≤ 8) (hdg : decode cc pc = .ok (.invokevirtual index, 3))
    (kk : ∀ (H1 : Heap) (locs1 : List Loc), xWd (dC, dI) A H0 H1 locs1 (isR.filterMap (fun i => ws[i]?) ++ w1) → W p l e R s m args below meth c H1 locs1 cells slots Q (F0 m (pc + 3) ls (.int r :: rest))) : W p l e R s m args below meth c H locs cells slots Q (F0 m pc ls st0) := by
  have hF := va_free (wc := wc) hw.2.1 hw.2.2.1 hw.2.2.2 isC hC
  refine va_calli (x_runV C hw g hk hM isC hc hC hcl he hn hls hst hrm hdg) hw.2.2.1 (fun q _ h => hF q h) hF (fun r' u t H1 locs1 ht hvm hp hB hz1 hk1 hS => ?_)
  subst hp
  exact kk H1 locs1 (x_back hw isC isR hC hR hr hdis ht hB hk1 hS)
theorem x_callVl {r : Int64} (C : xCtx (dC, dI) tys p s m args meth c cc nL own ret) (hw : xWd (dC, dI) A H0 H locs ws)
    (g : GoodIn xtb (wsV own index y.cls y (xW y bytes maxL rt))) (hk : xCall R own index y bytes maxL rt rm n cells slots 0 0 g)
    (hM : Met l y (xW y bytes maxL rt) rm (xPre dC dI tys (.ref b :: As) wc H.size) (xQl dC dI tys r wc w1 H.size) 0 0 (va_A wc H.size))
    (isC isR : List Nat) (hc : va_nd isC = true) (hC : isC.map (fun i => ws[i]?) = wc.map some) (hR : isR.map (fun i => ws[i]?) = (isR.filterMap (fun i => ws[i]?)).map some) (hr : va_nd isR = true) (hdis : ∀ i ∈ isR, i ∉ isC)
    (hcl : vwCl[ci]? = some (y.cls, T, N)) (he : wc[0]? = some (b, .inr (ci, fs))) (hn : As.length = n) (hls : ls.size = nL)
    (hst : st0 = As.reverse ++ .ref b :: rest) (hrm : (rest.map fun v => v.category).sum ≤ 8) (hdg : decode cc pc = .ok (.invokevirtual index, 3))
    (kk : ∀ (H1 : Heap) (locs1 : List Loc), xWd (dC, dI) A H0 H1 locs1 (isR.filterMap (fun i => ws[i]?) ++ w1) → W p l e R s m args below meth c H1 locs1 cells slots Q (F0 m (pc + 3) ls (.long r :: rest))) : W p l e R s m args below meth c H locs cells slots Q (F0 m pc ls st0) := by
  have hF := va_free (wc := wc) hw.2.1 hw.2.2.1 hw.2.2.2 isC hC
  refine va_calll (x_runV C hw g hk hM isC hc hC hcl he hn hls hst hrm hdg) hw.2.2.1 (fun q _ h => hF q h) hF (fun r' u t H1 locs1 ht hvm hp hB hz1 hk1 hS => ?_)
  subst hp
  exact kk H1 locs1 (x_back hw isC isR hC hR hr hdis ht hB hk1 hS)
theorem x_callVv (C : xCtx (dC, dI) tys p s m args meth c cc nL own ret) (hw : xWd (dC, dI) A H0 H locs ws)
    (g : GoodIn xtb (wsV own index y.cls y (xW y bytes maxL rt))) (hk : xCall R own index y bytes maxL rt rm n cells slots 0 0 g)
    (hM : Met l y (xW y bytes maxL rt) rm (xPre dC dI tys (.ref b :: As) wc H.size) (xQv dC dI tys wc w1 H.size) 0 0 (va_A wc H.size))
    (isC isR : List Nat) (hc : va_nd isC = true) (hC : isC.map (fun i => ws[i]?) = wc.map some) (hR : isR.map (fun i => ws[i]?) = (isR.filterMap (fun i => ws[i]?)).map some) (hr : va_nd isR = true) (hdis : ∀ i ∈ isR, i ∉ isC)
    (hcl : vwCl[ci]? = some (y.cls, T, N)) (he : wc[0]? = some (b, .inr (ci, fs))) (hn : As.length = n) (hls : ls.size = nL)
    (hst : st0 = As.reverse ++ .ref b :: rest) (hrm : (rest.map fun v => v.category).sum ≤ 8) (hdg : decode cc pc = .ok (.invokevirtual index, 3))
    (kk : ∀ (H1 : Heap) (locs1 : List Loc), xWd (dC, dI) A H0 H1 locs1 (isR.filterMap (fun i => ws[i]?) ++ w1) → W p l e R s m args below meth c H1 locs1 cells slots Q (F0 m (pc + 3) ls rest)) : W p l e R s m args below meth c H locs cells slots Q (F0 m pc ls st0) := by
  have hF := va_free (wc := wc) hw.2.1 hw.2.2.1 hw.2.2.2 isC hC
  refine va_callv (x_runV C hw g hk hM isC hc hC hcl he hn hls hst hrm hdg) hw.2.2.1 (fun q _ h => hF q h) hF (fun u t H1 locs1 ht hvm hp hB hz1 hk1 hS => ?_)
  exact kk H1 locs1 (x_back hw isC isR hC hR hr hdis ht hB hk1 hS)
theorem x_callSi {r : Int32} (C : xCtx (dC, dI) tys p s m args meth c cc nL own ret) (hw : xWd (dC, dI) A H0 H locs ws)
    (g : GoodIn xtb (va_wsS own index y (xW y bytes maxL rt))) (k3 : xDs y n) (k4 : rm.frames + 1 ≤ R.frames) (k5 : 8 + (maxL + 11) + rm.locals ≤ R.locals) (k1 : rm.cells = 0) (k2 : rm.slots = 0) (k6 : cells ≤ R.cells) (k7 : slots ≤ R.slots)
    (hM : Met l y (xW y bytes maxL rt) rm (xPre dC dI tys As wc H.size) (xQi dC dI tys r wc w1 H.size) 0 0 (va_A wc H.size))
    (isC isR : List Nat) (hc : va_nd isC = true) (hC : isC.map (fun i => ws[i]?) = wc.map some) (hR : isR.map (fun i => ws[i]?) = (isR.filterMap (fun i => ws[i]?)).map some) (hr : va_nd isR = true) (hdis : ∀ i ∈ isR, i ∉ isC)
    (hn : As.length = n) (hls : ls.size = nL) (hst : st0 = As.reverse ++ rest) (hrm : (rest.map fun v => v.category).sum ≤ 8) (hdg : decode cc pc = .ok (.invokestatic index, 3))
    (kk : ∀ (H1 : Heap) (locs1 : List Loc), xWd (dC, dI) A H0 H1 locs1 (isR.filterMap (fun i => ws[i]?) ++ w1) → W p l e R s m args below meth c H1 locs1 cells slots Q (F0 m (pc + 3) ls (.int r :: rest))) : W p l e R s m args below meth c H locs cells slots Q (F0 m pc ls st0) := by
  have hF := va_free (wc := wc) hw.2.1 hw.2.2.1 hw.2.2.2 isC hC
  obtain ⟨hPc, hDc⟩ := x_cut hw isC hc hC
  refine va_calli (va_runS (As := As) (rest := rest) ⟨C.1, C.2.1, C.2.2.1, C.2.2.2.1, C.2.2.2.2.1⟩ hM (va_cwS n C.2.2.2.2.1 g rfl k1 k2 k3 ⟨k4, k5⟩) ⟨x_blind, fun U hU hW => x_pre C hPc hDc U hU hW⟩ rfl hn hls hst (lv_room hrm) hdg ⟨k6, k7⟩) hw.2.2.1 (fun q _ h => hF q h) hF (fun r' u t H1 locs1 ht hvm hp hB hz1 hk1 hS => ?_)
  subst hp
  exact kk H1 locs1 (x_back hw isC isR hC hR hr hdis ht hB hk1 hS)
theorem x_callSv (C : xCtx (dC, dI) tys p s m args meth c cc nL own ret) (hw : xWd (dC, dI) A H0 H locs ws)
    (g : GoodIn xtb (va_wsS own index y (xW y bytes maxL rt))) (k3 : xDs y n) (k4 : rm.frames + 1 ≤ R.frames) (k5 : 8 + (maxL + 11) + rm.locals ≤ R.locals) (k1 : rm.cells = 0) (k2 : rm.slots = 0) (k6 : cells ≤ R.cells) (k7 : slots ≤ R.slots)
    (hM : Met l y (xW y bytes maxL rt) rm (xPre dC dI tys As wc H.size) (xQv dC dI tys wc w1 H.size) 0 0 (va_A wc H.size))
    (isC isR : List Nat) (hc : va_nd isC = true) (hC : isC.map (fun i => ws[i]?) = wc.map some) (hR : isR.map (fun i => ws[i]?) = (isR.filterMap (fun i => ws[i]?)).map some) (hr : va_nd isR = true) (hdis : ∀ i ∈ isR, i ∉ isC)
    (hn : As.length = n) (hls : ls.size = nL) (hst : st0 = As.reverse ++ rest) (hrm : (rest.map fun v => v.category).sum ≤ 8) (hdg : decode cc pc = .ok (.invokestatic index, 3))
    (kk : ∀ (H1 : Heap) (locs1 : List Loc), xWd (dC, dI) A H0 H1 locs1 (isR.filterMap (fun i => ws[i]?) ++ w1) → W p l e R s m args below meth c H1 locs1 cells slots Q (F0 m (pc + 3) ls rest)) : W p l e R s m args below meth c H locs cells slots Q (F0 m pc ls st0) := by
  have hF := va_free (wc := wc) hw.2.1 hw.2.2.1 hw.2.2.2 isC hC
  obtain ⟨hPc, hDc⟩ := x_cut hw isC hc hC
  refine va_callv (va_runS (As := As) (rest := rest) ⟨C.1, C.2.1, C.2.2.1, C.2.2.2.1, C.2.2.2.2.1⟩ hM (va_cwS n C.2.2.2.2.1 g rfl k1 k2 k3 ⟨k4, k5⟩) ⟨x_blind, fun U hU hW => x_pre C hPc hDc U hU hW⟩ rfl hn hls hst (lv_room hrm) hdg ⟨k6, k7⟩) hw.2.2.1 (fun q _ h => hF q h) hF (fun u t H1 locs1 ht hvm hp hB hz1 hk1 hS => ?_)
  exact kk H1 locs1 (x_back hw isC isR hC hR hr hdis ht hB hk1 hS)
end XCALL
end XROWS

def xus (x y : Int32) : Int32 := (x.toUInt32 >>> (y.toUInt32 &&& Int32.toUInt32 31)).toInt32
section XROWS2
variable {D : va_G} {dC : Nat → ClassId} {dI : Nat → Nat → Nat} {tys : List (ClassId × FieldType)} {p : Program} {l : Launch} {e : Env} {R : Room} {s : State} {m : MethodId} {args : Array Value} {below : List Frame} {meth : Method} {c : Code} {H H0 : Heap} {locs : List Loc} {cells slots : Nat} {Q : State → Prop} {A : Nat → Prop}
variable {cc : ByteArray} {pc nL : Nat} {ls : Array Slot} {rest : List Value} {own : String} {ret : Option FieldType} {ws : va_W} {a : Nat}
theorem x_ialk (C : xCtx D tys p s m args meth c cc nL own ret) (hw : xWd D A H0 H locs ws) (q0 t0 : Nat) {cA : ClassId} {n : Nat} {f : Nat → Int32} (ha : ws[q0]? = some (a, .inl (cA, n, .inl f))) (ht : tys[t0]? = some (cA, .int)) {i : Int32} {k : Nat} (hi : i.toNatClampNeg = k) (hin : vp_in i n) (hdg : decode cc pc = .ok (.iaload, 1))
    (kk : W p l e R s m args below meth c H locs cells slots Q (F0 m (pc + 1) ls (.int (f k) :: rest))) : W p l e R s m args below meth c H locs cells slots Q (F0 m pc ls (.int i :: .ref a :: rest)) := x_iald C hw q0 t0 ha ht hin hdg (by rw [hi]; exact kk)
theorem x_zalk (C : xCtx D tys p s m args meth c cc nL own ret) (hw : xWd D A H0 H locs ws) (q0 t0 : Nat) {cA : ClassId} {n : Nat} {f : Nat → Int32} (ha : ws[q0]? = some (a, .inl (cA, n, .inl f))) (ht : tys[t0]? = some (cA, .boolean)) {i : Int32} {k : Nat} (hi : i.toNatClampNeg = k) (hin : vp_in i n) (hdg : decode cc pc = .ok (.baload, 1))
    (kk : W p l e R s m args below meth c H locs cells slots Q (F0 m (pc + 1) ls (.int (f k) :: rest))) : W p l e R s m args below meth c H locs cells slots Q (F0 m pc ls (.int i :: .ref a :: rest)) := x_zald C hw q0 t0 ha ht hin hdg (by rw [hi]; exact kk)
theorem x_balk (C : xCtx D tys p s m args meth c cc nL own ret) (hw : xWd D A H0 H locs ws) (q0 t0 : Nat) {cA : ClassId} {n : Nat} {f : Nat → Int32} (ha : ws[q0]? = some (a, .inl (cA, n, .inl f))) (ht : tys[t0]? = some (cA, .byte)) {i : Int32} {k : Nat} (hi : i.toNatClampNeg = k) (hin : vp_in i n) (hdg : decode cc pc = .ok (.baload, 1))
    (kk : W p l e R s m args below meth c H locs cells slots Q (F0 m (pc + 1) ls (.int (f k) :: rest))) : W p l e R s m args below meth c H locs cells slots Q (F0 m pc ls (.int i :: .ref a :: rest)) := x_bald C hw q0 t0 ha ht hin hdg (by rw [hi]; exact kk)
theorem x_iask (C : xCtx D tys p s m args meth c cc nL own ret) (hw : xWd D A H0 H locs ws) (q0 t0 : Nat) {cA : ClassId} {n : Nat} {f : Nat → Int32} (ha : ws[q0]? = some (a, .inl (cA, n, .inl f))) (ht : tys[t0]? = some (cA, .int)) {i x : Int32} {k : Nat} (hi : i.toNatClampNeg = k) (hin : vp_in i n) (hdg : decode cc pc = .ok (.iastore, 1))
    (kk : ∀ (H1 : Heap) (locs1 : List Loc), xWd D A H0 H1 locs1 (ws.set q0 (a, .inl (cA, n, .inl (upd f k x)))) → W p l e R s m args below meth c H1 locs1 cells slots Q (F0 m (pc + 1) ls rest)) : W p l e R s m args below meth c H locs cells slots Q (F0 m pc ls (.int x :: .int i :: .ref a :: rest)) := x_iast C hw q0 t0 ha ht hin hdg (fun H1 locs1 h1 => kk H1 locs1 (by rw [← hi]; exact h1))
theorem x_zask (C : xCtx D tys p s m args meth c cc nL own ret) (hw : xWd D A H0 H locs ws) (q0 t0 : Nat) {cA : ClassId} {n : Nat} {f : Nat → Int32} (ha : ws[q0]? = some (a, .inl (cA, n, .inl f))) (ht : tys[t0]? = some (cA, .boolean)) {i x : Int32} (hx : vp_nar .boolean x = x) {k : Nat} (hi : i.toNatClampNeg = k) (hin : vp_in i n) (hdg : decode cc pc = .ok (.bastore, 1))
    (kk : ∀ (H1 : Heap) (locs1 : List Loc), xWd D A H0 H1 locs1 (ws.set q0 (a, .inl (cA, n, .inl (upd f k x)))) → W p l e R s m args below meth c H1 locs1 cells slots Q (F0 m (pc + 1) ls rest)) : W p l e R s m args below meth c H locs cells slots Q (F0 m pc ls (.int x :: .int i :: .ref a :: rest)) := x_zast C hw q0 t0 ha ht hx hin hdg (fun H1 locs1 h1 => kk H1 locs1 (by rw [← hi]; exact h1))
theorem x_bask (C : xCtx D tys p s m args meth c cc nL own ret) (hw : xWd D A H0 H locs ws) (q0 t0 : Nat) {cA : ClassId} {n : Nat} {f : Nat → Int32} (ha : ws[q0]? = some (a, .inl (cA, n, .inl f))) (ht : tys[t0]? = some (cA, .byte)) {i x : Int32} (hx : vp_nar .byte x = x) {k : Nat} (hi : i.toNatClampNeg = k) (hin : vp_in i n) (hdg : decode cc pc = .ok (.bastore, 1))
    (kk : ∀ (H1 : Heap) (locs1 : List Loc), xWd D A H0 H1 locs1 (ws.set q0 (a, .inl (cA, n, .inl (upd f k x)))) → W p l e R s m args below meth c H1 locs1 cells slots Q (F0 m (pc + 1) ls rest)) : W p l e R s m args below meth c H locs cells slots Q (F0 m pc ls (.int x :: .int i :: .ref a :: rest)) := x_bast C hw q0 t0 ha ht hx hin hdg (fun H1 locs1 h1 => kk H1 locs1 (by rw [← hi]; exact h1))
theorem x_copy (C : xCtx D tys p s m args meth c cc nL own ret) (hw : xWd D A H0 H locs ws) (q0 q1 : Nat) {a0 : Nat} {c1 : ClassId} {n0 n1 : Nat} {f g : Nat → Int32} (ha0 : ws[q0]? = some (a0, .inl (c1, n0, .inl f))) (ha1 : ws[q1]? = some (a, .inl (c1, n1, .inl g))) (ht1 : tys[0]? = some (c1, .int))
    {sp dp n : Int32} {k index : Nat} (h1 : ¬ sp < 0) (h2 : ¬ dp < 0) (h3 : ¬ n < 0) (e1 : sp.toNatClampNeg = 0) (e2 : dp.toNatClampNeg = 0) (e3 : n.toNatClampNeg = k) (h4 : k ≤ n0) (h5 : k ≤ n1) (hlink : Cond.methodLink own index arraycopyName ∈ xtb)
    (hframes : 1 ≤ R.frames) (hlocals : (rest.map fun v => v.category).sum + (nativeFrameWords "java/lang/System" "arraycopy" 5 + 11) ≤ R.locals) (hls : ls.size = nL) (hdg : decode cc pc = .ok (.invokestatic index, 3))
    (kk : ∀ (H1 : Heap) (locs1 : List Loc), xWd D A H0 H1 locs1 (ws.set q1 (a, .inl (c1, n1, .inl (va_cpy f g 0 0 k)))) → W p l e R s m args below meth c H1 locs1 cells slots Q (F0 m (pc + 3) ls rest)) : W p l e R s m args below meth c H locs cells slots Q (F0 m pc ls (.int n :: .int dp :: .ref a :: .int sp :: .ref a0 :: rest)) := by
  refine va_copyi C.1 C.2.1 (C.2.2.1.trans hls.symm) C.2.2.2.1 (C.2.2.2.2.1 _ hlink) (C.2.2.2.2.1 _ wNat_copy) (C.2.2.2.2.1 _ wT_sys_copy) (C.2.2.2.2.1 _ wN_J10) C.2.2.2.2.2.2.2 hw.1 hw.2.1 hw.2.2.1 q0 q1 0 0 ha0 ha1 ht1 ht1 rfl h1 h2 h3 (by rw [e1, e3, Nat.zero_add]; exact h4) (by rw [e2, e3, Nat.zero_add]; exact h5) (fun i _ => rfl) hframes hlocals hdg (fun H1 locs1 g1 g2 g3 => kk H1 locs1 ?_)
  rw [e1, e2, e3] at g1 g2
  exact ⟨g1, g2, g3, hw.2.2.2⟩
theorem x_max (C : xCtx D tys p s m args meth c cc nL own ret) {index : Nat} (hlink : Cond.methodLink own index yJ9_max_7cf53 ∈ xtb) (hframes : 1 ≤ R.frames) (hlocals : (rest.map fun v => v.category).sum + 13 ≤ R.locals) (hc : cells ≤ R.cells) (hs : slots ≤ R.slots) (hls : ls.size = nL) {x y : Int32} (hdg : decode cc pc = .ok (.invokestatic index, 3))
    (kk : W p l e R s m args below meth c H locs cells slots Q (F0 m (pc + 3) ls (.int (if x < y then y else x) :: rest))) : W p l e R s m args below meth c H locs cells slots Q (F0 m pc ls (.int y :: .int x :: rest)) :=
  va_mmax C.1 C.2.1 (C.2.2.1.trans hls.symm) C.2.2.2.1 (C.2.2.2.2.1 _ hlink) (C.2.2.2.2.1 _ wT_J9_max_7cf53) (C.2.2.2.2.1 _ wN_J9) (C.2.2.2.2.1 _ wC_J9_max_7cf53) hframes hlocals hc hs hdg kk
theorem x_min (C : xCtx D tys p s m args meth c cc nL own ret) {index : Nat} (hlink : Cond.methodLink own index yJ9_min_7cf53 ∈ xtb) (hframes : 1 ≤ R.frames) (hlocals : (rest.map fun v => v.category).sum + 13 ≤ R.locals) (hc : cells ≤ R.cells) (hs : slots ≤ R.slots) (hls : ls.size = nL) {x y : Int32} (hdg : decode cc pc = .ok (.invokestatic index, 3))
    (kk : W p l e R s m args below meth c H locs cells slots Q (F0 m (pc + 3) ls (.int (if y < x then y else x) :: rest))) : W p l e R s m args below meth c H locs cells slots Q (F0 m pc ls (.int y :: .int x :: rest)) :=
  va_mmin C.1 C.2.1 (C.2.2.1.trans hls.symm) C.2.2.2.1 (C.2.2.2.2.1 _ hlink) (C.2.2.2.2.1 _ wT_J9_min_7cf53) (C.2.2.2.2.1 _ wN_J9) (C.2.2.2.2.1 _ wC_J9_min_7cf53) hframes hlocals hc hs hdg kk
end XROWS2
theorem x_tabOut {x : Int32} {lo hi : Int} (h : ∀ q : Int, lo ≤ x.toInt → x.toInt ≤ hi → False) : x.toInt < lo ∨ hi < x.toInt := by
  rcases Int.lt_or_le x.toInt lo with q | q
  · exact Or.inl q
  · rcases Int.lt_or_le hi x.toInt with w | w
    · exact Or.inr w
    · exact absurd w (fun w => h 0 q w)
theorem x_ne {x k : Int32} {a : Int} (h : ¬ x = k) (hk : k.toInt = a) : x.toInt ≠ a := fun q => h (Int32.toInt_inj.mp (by rw [hk]; exact q))
end
section
def wS (cI cZ cB cO : ClassId) (h : Nat) (p : Nat → Nat) (f0 : Int32) (f1 : Int32) (f2 : (Nat → Int32)) : va_W := [(h, .inr (3, [.int f0, .int f1, .ref (p 2)])), (p 2, .inl (cI, 3, .inl f2))]
def wT (cI cZ cB cO : ClassId) (h : Nat) (p : Nat → Nat) (f0 : Int32) (f1 : (Nat → Int32)) : va_W := [(h, .inr (5, [.int f0, .ref (p 1)])), (p 1, .inl (cB, 80, .inl f1))]
def wE (cI cZ cB cO : ClassId) (h : Nat) (p : Nat → Nat) (f0 : Int32) (f1 : (Nat → Int32)) (f2 : (Nat → Int32)) (f3 : (Nat → Int32)) (f4 : (Nat → Int32)) (f5 : (Nat → Int32)) (f6 : (Nat → Int32)) (f7 : Int32) : va_W := [(h, .inr (1, [.int f0, .ref (p 1), .ref (p 2), .ref (p 3), .ref (p 4), .ref (p 5), .ref (p 6), .int f7])), (p 1, .inl (cI, 64, .inl f1)), (p 2, .inl (cI, 64, .inl f2)), (p 3, .inl (cI, 8, .inl f3)), (p 4, .inl (cI, 9, .inl f4)), (p 5, .inl (cI, 28, .inl f5)), (p 6, .inl (cI, 28, .inl f6))]
def wK (cI cZ cB cO : ClassId) (h : Nat) (p : Nat → Nat) (f0 : Int32) (f1 : (Nat → Int32)) (f2 : (Nat → Int32)) (f3 : (Nat → Int32)) (f4 : (Nat → Int32)) (f5 : (Nat → Int32)) (f6 : Int32) : va_W := [(h, .inr (0, [.int f0, .ref (p 1), .ref (p 2), .ref (p 3), .ref (p 4), .ref (p 5), .int f6])), (p 1, .inl (cI, 256, .inl f1)), (p 2, .inl (cI, 10, .inl f2)), (p 3, .inl (cI, 256, .inl f3)), (p 4, .inl (cI, 256, .inl f4)), (p 5, .inl (cI, 256, .inl f5))]
def wR (cI cZ cB cO : ClassId) (h : Nat) (p : Nat → Nat) (f1 : Int32) (f2 : Int32) (f3 : Int32) (f4 : Int32) (f5 : Int32) (f6 : Int32) (f7 : Int32) : va_W := [(h, .inr (2, [.ref (p 0), .int f1, .int f2, .int f3, .int f4, .int f5, .int f6, .int f7]))]
def wC (cI cZ cB cO : ClassId) (h : Nat) (p : Nat → Nat) (f6 : Int32) (f7 : Int32) (f8 : Int32) (f9 : Int32) : va_W := [(h, .inr (6, [.ref (p 0), .ref (p 1), .ref (p 2), .ref (p 3), .ref (p 4), .ref (p 5), .int f6, .int f7, .int f8, .int f9]))]
def wM (cI cZ cB cO : ClassId) (h : Nat) (p : Nat → Nat) (f0 : (Nat → Int32)) (f1 : (Nat → Int32)) (f2 : (Nat → Int32)) (f3 : Int32) (f4 : (Nat → Int32)) (f5 : (Nat → Int32)) (f6 : Int32) (f7 : Int32) (f8 : (Nat → Int32)) (f9 : (Nat → Int32)) (f10 : (Nat → Int32)) (f11 : (Nat → Int32)) (f12 : (Nat → Int32)) (f13 : (Nat → Int32)) (f14 : (Nat → Int32)) (f15 : Int32) (f16 : Int32) (f17 : (Nat → Int32)) (f18 : (Nat → Int32)) (f19 : (Nat → Int32)) (f20 : (Nat → Int32)) (f21 : Int32) (f22 : Int32) (f23 : Int32) (f24 : Int32) (f25 : Int32) (f26 : (Nat → Int32)) (f27 : (Nat → Int32)) (f28 : Int64) : va_W := [(h, .inr (7, [.ref (p 0), .ref (p 1), .ref (p 2), .int f3, .ref (p 4), .ref (p 5), .int f6, .int f7, .ref (p 8), .ref (p 9), .ref (p 10), .ref (p 11), .ref (p 12), .ref (p 13), .ref (p 14), .int f15, .int f16, .ref (p 17), .ref (p 18), .ref (p 19), .ref (p 20), .int f21, .int f22, .int f23, .int f24, .int f25, .ref (p 26), .ref (p 27), .long f28])), (p 0, .inl (cI, 5, .inl f0)), (p 1, .inl (cI, 5, .inl f1)), (p 2, .inl (cI, 25, .inl f2)), (p 4, .inl (cI, 3, .inl f4)), (p 5, .inl (cI, 8, .inl f5)), (p 8, .inl (cZ, 40320, .inl f8)), (p 9, .inl (cI, 40320, .inl f9)), (p 10, .inl (cI, 24, .inl f10)), (p 11, .inl (cI, 8, .inl f11)), (p 12, .inl (cI, 8, .inl f12)), (p 13, .inl (cZ, 256, .inl f13)), (p 14, .inl (cI, 256, .inl f14)), (p 17, .inl (cI, 256, .inl f17)), (p 18, .inl (cI, 256, .inl f18)), (p 19, .inl (cI, 10, .inl f19)), (p 20, .inl (cI, 80, .inl f20)), (p 26, .inl (cI, 40, .inl f26)), (p 27, .inl (cI, 40, .inl f27))]
def wA (cI cZ cB cO : ClassId) (h n : Nat) (row : Nat → Int32) : va_W := [(h, .inl (cI, n, .inl row))]
theorem dX2_at_0 : decode cX2_at 0 = .ok (.iload_n 0, 1) := by decide +kernel
theorem dX2_at_1 : decode cX2_at 1 = .ok (.iconst 3, 1) := by decide +kernel
theorem dX2_at_2 : decode cX2_at 2 = .ok (.iload_n 1, 1) := by decide +kernel
theorem dX2_at_3 : decode cX2_at 3 = .ok (.imul, 1) := by decide +kernel
theorem dX2_at_4 : decode cX2_at 4 = .ok (.iushr, 1) := by decide +kernel
theorem dX2_at_5 : decode cX2_at 5 = .ok (.bipush 7, 2) := by decide +kernel
theorem dX2_at_7 : decode cX2_at 7 = .ok (.iand, 1) := by decide +kernel
theorem dX2_at_8 : decode cX2_at 8 = .ok (.ireturn, 1) := by decide +kernel
theorem dX2_then_0 : decode cX2_then 0 = .ok (.iconst 0, 1) := by decide +kernel
theorem dX2_then_1 : decode cX2_then 1 = .ok (.istore_n 2, 1) := by decide +kernel
theorem dX2_then_2 : decode cX2_then 2 = .ok (.iconst 0, 1) := by decide +kernel
theorem dX2_then_3 : decode cX2_then 3 = .ok (.istore_n 3, 1) := by decide +kernel
theorem dX2_then_4 : decode cX2_then 4 = .ok (.iload_n 3, 1) := by decide +kernel
theorem dX2_then_5 : decode cX2_then 5 = .ok (.bipush 24, 2) := by decide +kernel
theorem dX2_then_7 : decode cX2_then 7 = .ok (.if_icmp .ge 27, 3) := by decide +kernel
theorem dX2_then_10 : decode cX2_then 10 = .ok (.iload_n 2, 1) := by decide +kernel
theorem dX2_then_11 : decode cX2_then 11 = .ok (.iload_n 1, 1) := by decide +kernel
theorem dX2_then_12 : decode cX2_then 12 = .ok (.iconst 3, 1) := by decide +kernel
theorem dX2_then_13 : decode cX2_then 13 = .ok (.iload_n 0, 1) := by decide +kernel
theorem dX2_then_14 : decode cX2_then 14 = .ok (.iload_n 3, 1) := by decide +kernel
theorem dX2_then_15 : decode cX2_then 15 = .ok (.iushr, 1) := by decide +kernel
theorem dX2_then_16 : decode cX2_then 16 = .ok (.bipush 7, 2) := by decide +kernel
theorem dX2_then_18 : decode cX2_then 18 = .ok (.iand, 1) := by decide +kernel
theorem dX2_then_19 : decode cX2_then 19 = .ok (.imul, 1) := by decide +kernel
theorem dX2_then_20 : decode cX2_then 20 = .ok (.iushr, 1) := by decide +kernel
theorem dX2_then_21 : decode cX2_then 21 = .ok (.bipush 7, 2) := by decide +kernel
theorem dX2_then_23 : decode cX2_then 23 = .ok (.iand, 1) := by decide +kernel
theorem dX2_then_24 : decode cX2_then 24 = .ok (.iload_n 3, 1) := by decide +kernel
theorem dX2_then_25 : decode cX2_then 25 = .ok (.ishl, 1) := by decide +kernel
theorem dX2_then_26 : decode cX2_then 26 = .ok (.ior, 1) := by decide +kernel
theorem dX2_then_27 : decode cX2_then 27 = .ok (.istore_n 2, 1) := by decide +kernel
theorem dX2_then_28 : decode cX2_then 28 = .ok (.iinc 3 3, 3) := by decide +kernel
theorem dX2_then_31 : decode cX2_then 31 = .ok (.goto (-27), 3) := by decide +kernel
theorem dX2_then_34 : decode cX2_then 34 = .ok (.iload_n 2, 1) := by decide +kernel
theorem dX2_then_35 : decode cX2_then 35 = .ok (.ireturn, 1) := by decide +kernel
theorem dX2_inverse_0 : decode cX2_inverse 0 = .ok (.iconst 0, 1) := by decide +kernel
theorem dX2_inverse_1 : decode cX2_inverse 1 = .ok (.istore_n 1, 1) := by decide +kernel
theorem dX2_inverse_2 : decode cX2_inverse 2 = .ok (.iconst 0, 1) := by decide +kernel
theorem dX2_inverse_3 : decode cX2_inverse 3 = .ok (.istore_n 2, 1) := by decide +kernel
theorem dX2_inverse_4 : decode cX2_inverse 4 = .ok (.iload_n 2, 1) := by decide +kernel
theorem dX2_inverse_5 : decode cX2_inverse 5 = .ok (.bipush 8, 2) := by decide +kernel
theorem dX2_inverse_7 : decode cX2_inverse 7 = .ok (.if_icmp .ge 24, 3) := by decide +kernel
theorem dX2_inverse_10 : decode cX2_inverse 10 = .ok (.iload_n 1, 1) := by decide +kernel
theorem dX2_inverse_11 : decode cX2_inverse 11 = .ok (.iload_n 2, 1) := by decide +kernel
theorem dX2_inverse_12 : decode cX2_inverse 12 = .ok (.iconst 3, 1) := by decide +kernel
theorem dX2_inverse_13 : decode cX2_inverse 13 = .ok (.iload_n 0, 1) := by decide +kernel
theorem dX2_inverse_14 : decode cX2_inverse 14 = .ok (.iconst 3, 1) := by decide +kernel
theorem dX2_inverse_15 : decode cX2_inverse 15 = .ok (.iload_n 2, 1) := by decide +kernel
theorem dX2_inverse_16 : decode cX2_inverse 16 = .ok (.imul, 1) := by decide +kernel
theorem dX2_inverse_17 : decode cX2_inverse 17 = .ok (.iushr, 1) := by decide +kernel
theorem dX2_inverse_18 : decode cX2_inverse 18 = .ok (.bipush 7, 2) := by decide +kernel
theorem dX2_inverse_20 : decode cX2_inverse 20 = .ok (.iand, 1) := by decide +kernel
theorem dX2_inverse_21 : decode cX2_inverse 21 = .ok (.imul, 1) := by decide +kernel
theorem dX2_inverse_22 : decode cX2_inverse 22 = .ok (.ishl, 1) := by decide +kernel
theorem dX2_inverse_23 : decode cX2_inverse 23 = .ok (.ior, 1) := by decide +kernel
theorem dX2_inverse_24 : decode cX2_inverse 24 = .ok (.istore_n 1, 1) := by decide +kernel
theorem dX2_inverse_25 : decode cX2_inverse 25 = .ok (.iinc 2 1, 3) := by decide +kernel
theorem dX2_inverse_28 : decode cX2_inverse 28 = .ok (.goto (-24), 3) := by decide +kernel
theorem dX2_inverse_31 : decode cX2_inverse 31 = .ok (.iload_n 1, 1) := by decide +kernel
theorem dX2_inverse_32 : decode cX2_inverse 32 = .ok (.ireturn, 1) := by decide +kernel
theorem dX2_carry_0 : decode cX2_carry 0 = .ok (.iconst 0, 1) := by decide +kernel
theorem dX2_carry_1 : decode cX2_carry 1 = .ok (.istore_n 2, 1) := by decide +kernel
theorem dX2_carry_2 : decode cX2_carry 2 = .ok (.iload_n 0, 1) := by decide +kernel
theorem dX2_carry_3 : decode cX2_carry 3 = .ok (.istore_n 3, 1) := by decide +kernel
theorem dX2_carry_4 : decode cX2_carry 4 = .ok (.iconst 0, 1) := by decide +kernel
theorem dX2_carry_5 : decode cX2_carry 5 = .ok (.istore 4, 2) := by decide +kernel
theorem dX2_carry_7 : decode cX2_carry 7 = .ok (.iload 4, 2) := by decide +kernel
theorem dX2_carry_9 : decode cX2_carry 9 = .ok (.bipush 24, 2) := by decide +kernel
theorem dX2_carry_11 : decode cX2_carry 11 = .ok (.if_icmp .ge 31, 3) := by decide +kernel
theorem dX2_carry_14 : decode cX2_carry 14 = .ok (.iload_n 3, 1) := by decide +kernel
theorem dX2_carry_15 : decode cX2_carry 15 = .ok (.ifCond .eq 27, 3) := by decide +kernel
theorem dX2_carry_18 : decode cX2_carry 18 = .ok (.iload_n 2, 1) := by decide +kernel
theorem dX2_carry_19 : decode cX2_carry 19 = .ok (.iload_n 3, 1) := by decide +kernel
theorem dX2_carry_20 : decode cX2_carry 20 = .ok (.iconst 1, 1) := by decide +kernel
theorem dX2_carry_21 : decode cX2_carry 21 = .ok (.iand, 1) := by decide +kernel
theorem dX2_carry_22 : decode cX2_carry 22 = .ok (.iload_n 1, 1) := by decide +kernel
theorem dX2_carry_23 : decode cX2_carry 23 = .ok (.iload 4, 2) := by decide +kernel
theorem dX2_carry_25 : decode cX2_carry 25 = .ok (.iushr, 1) := by decide +kernel
theorem dX2_carry_26 : decode cX2_carry 26 = .ok (.bipush 7, 2) := by decide +kernel
theorem dX2_carry_28 : decode cX2_carry 28 = .ok (.iand, 1) := by decide +kernel
theorem dX2_carry_29 : decode cX2_carry 29 = .ok (.ishl, 1) := by decide +kernel
theorem dX2_carry_30 : decode cX2_carry 30 = .ok (.ior, 1) := by decide +kernel
theorem dX2_carry_31 : decode cX2_carry 31 = .ok (.istore_n 2, 1) := by decide +kernel
theorem dX2_carry_32 : decode cX2_carry 32 = .ok (.iload_n 3, 1) := by decide +kernel
theorem dX2_carry_33 : decode cX2_carry 33 = .ok (.iconst 1, 1) := by decide +kernel
theorem dX2_carry_34 : decode cX2_carry 34 = .ok (.iushr, 1) := by decide +kernel
theorem dX2_carry_35 : decode cX2_carry 35 = .ok (.istore_n 3, 1) := by decide +kernel
theorem dX2_carry_36 : decode cX2_carry 36 = .ok (.iinc 4 3, 3) := by decide +kernel
theorem dX2_carry_39 : decode cX2_carry 39 = .ok (.goto (-32), 3) := by decide +kernel
theorem dX2_carry_42 : decode cX2_carry 42 = .ok (.iload_n 2, 1) := by decide +kernel
theorem dX2_carry_43 : decode cX2_carry 43 = .ok (.ireturn, 1) := by decide +kernel
theorem dX2_read_0 : decode cX2_read 0 = .ok (.iload_n 0, 1) := by decide +kernel
theorem dX2_read_1 : decode cX2_read 1 = .ok (.istore_n 2, 1) := by decide +kernel
theorem dX2_read_2 : decode cX2_read 2 = .ok (.iconst 0, 1) := by decide +kernel
theorem dX2_read_3 : decode cX2_read 3 = .ok (.istore_n 3, 1) := by decide +kernel
theorem dX2_read_4 : decode cX2_read 4 = .ok (.ldc 11, 2) := by decide +kernel
theorem dX2_read_6 : decode cX2_read 6 = .ok (.istore 4, 2) := by decide +kernel
theorem dX2_read_8 : decode cX2_read 8 = .ok (.iload_n 1, 1) := by decide +kernel
theorem dX2_read_9 : decode cX2_read 9 = .ok (.iconst 1, 1) := by decide +kernel
theorem dX2_read_10 : decode cX2_read 10 = .ok (.isub, 1) := by decide +kernel
theorem dX2_read_11 : decode cX2_read 11 = .ok (.istore 5, 2) := by decide +kernel
theorem dX2_read_13 : decode cX2_read 13 = .ok (.iload 5, 2) := by decide +kernel
theorem dX2_read_15 : decode cX2_read 15 = .ok (.ifCond .lt 71, 3) := by decide +kernel
theorem dX2_read_18 : decode cX2_read 18 = .ok (.iload_n 2, 1) := by decide +kernel
theorem dX2_read_19 : decode cX2_read 19 = .ok (.bipush 10, 2) := by decide +kernel
theorem dX2_read_21 : decode cX2_read 21 = .ok (.irem, 1) := by decide +kernel
theorem dX2_read_22 : decode cX2_read 22 = .ok (.istore 6, 2) := by decide +kernel
theorem dX2_read_24 : decode cX2_read 24 = .ok (.iload_n 2, 1) := by decide +kernel
theorem dX2_read_25 : decode cX2_read 25 = .ok (.bipush 10, 2) := by decide +kernel
theorem dX2_read_27 : decode cX2_read 27 = .ok (.idiv, 1) := by decide +kernel
theorem dX2_read_28 : decode cX2_read 28 = .ok (.istore_n 2, 1) := by decide +kernel
theorem dX2_read_29 : decode cX2_read 29 = .ok (.iload 6, 2) := by decide +kernel
theorem dX2_read_31 : decode cX2_read 31 = .ok (.ifCond .lt 18, 3) := by decide +kernel
theorem dX2_read_34 : decode cX2_read 34 = .ok (.iload 6, 2) := by decide +kernel
theorem dX2_read_36 : decode cX2_read 36 = .ok (.iload_n 1, 1) := by decide +kernel
theorem dX2_read_37 : decode cX2_read 37 = .ok (.if_icmp .ge 12, 3) := by decide +kernel
theorem dX2_read_40 : decode cX2_read 40 = .ok (.iload_n 3, 1) := by decide +kernel
theorem dX2_read_41 : decode cX2_read 41 = .ok (.iload 6, 2) := by decide +kernel
theorem dX2_read_43 : decode cX2_read 43 = .ok (.ishr, 1) := by decide +kernel
theorem dX2_read_44 : decode cX2_read 44 = .ok (.iconst 1, 1) := by decide +kernel
theorem dX2_read_45 : decode cX2_read 45 = .ok (.iand, 1) := by decide +kernel
theorem dX2_read_46 : decode cX2_read 46 = .ok (.ifCond .eq 5, 3) := by decide +kernel
theorem dX2_read_49 : decode cX2_read 49 = .ok (.iconst (-1), 1) := by decide +kernel
theorem dX2_read_50 : decode cX2_read 50 = .ok (.ireturn, 1) := by decide +kernel
theorem dX2_read_51 : decode cX2_read 51 = .ok (.iload_n 3, 1) := by decide +kernel
theorem dX2_read_52 : decode cX2_read 52 = .ok (.iconst 1, 1) := by decide +kernel
theorem dX2_read_53 : decode cX2_read 53 = .ok (.iload 6, 2) := by decide +kernel
theorem dX2_read_55 : decode cX2_read 55 = .ok (.ishl, 1) := by decide +kernel
theorem dX2_read_56 : decode cX2_read 56 = .ok (.ior, 1) := by decide +kernel
theorem dX2_read_57 : decode cX2_read 57 = .ok (.istore_n 3, 1) := by decide +kernel
theorem dX2_read_58 : decode cX2_read 58 = .ok (.iload 4, 2) := by decide +kernel
theorem dX2_read_60 : decode cX2_read 60 = .ok (.bipush 7, 2) := by decide +kernel
theorem dX2_read_62 : decode cX2_read 62 = .ok (.iconst 3, 1) := by decide +kernel
theorem dX2_read_63 : decode cX2_read 63 = .ok (.iload 5, 2) := by decide +kernel
theorem dX2_read_65 : decode cX2_read 65 = .ok (.imul, 1) := by decide +kernel
theorem dX2_read_66 : decode cX2_read 66 = .ok (.ishl, 1) := by decide +kernel
theorem dX2_read_67 : decode cX2_read 67 = .ok (.iconst (-1), 1) := by decide +kernel
theorem dX2_read_68 : decode cX2_read 68 = .ok (.ixor, 1) := by decide +kernel
theorem dX2_read_69 : decode cX2_read 69 = .ok (.iand, 1) := by decide +kernel
theorem dX2_read_70 : decode cX2_read 70 = .ok (.iload 6, 2) := by decide +kernel
theorem dX2_read_72 : decode cX2_read 72 = .ok (.iconst 3, 1) := by decide +kernel
theorem dX2_read_73 : decode cX2_read 73 = .ok (.iload 5, 2) := by decide +kernel
theorem dX2_read_75 : decode cX2_read 75 = .ok (.imul, 1) := by decide +kernel
theorem dX2_read_76 : decode cX2_read 76 = .ok (.ishl, 1) := by decide +kernel
theorem dX2_read_77 : decode cX2_read 77 = .ok (.ior, 1) := by decide +kernel
theorem dX2_read_78 : decode cX2_read 78 = .ok (.istore 4, 2) := by decide +kernel
theorem dX2_read_80 : decode cX2_read 80 = .ok (.iinc 5 (-1), 3) := by decide +kernel
theorem dX2_read_83 : decode cX2_read 83 = .ok (.goto (-70), 3) := by decide +kernel
theorem dX2_read_86 : decode cX2_read 86 = .ok (.iload_n 2, 1) := by decide +kernel
theorem dX2_read_87 : decode cX2_read 87 = .ok (.ifCond .ne 8, 3) := by decide +kernel
theorem dX2_read_90 : decode cX2_read 90 = .ok (.iload 4, 2) := by decide +kernel
theorem dX2_read_92 : decode cX2_read 92 = .ok (.goto 4, 3) := by decide +kernel
theorem dX2_read_95 : decode cX2_read 95 = .ok (.iconst (-1), 1) := by decide +kernel
theorem dX2_read_96 : decode cX2_read 96 = .ok (.ireturn, 1) := by decide +kernel
theorem dX2_write_0 : decode cX2_write 0 = .ok (.iconst 0, 1) := by decide +kernel
theorem dX2_write_1 : decode cX2_write 1 = .ok (.istore_n 2, 1) := by decide +kernel
theorem dX2_write_2 : decode cX2_write 2 = .ok (.iconst 0, 1) := by decide +kernel
theorem dX2_write_3 : decode cX2_write 3 = .ok (.istore_n 3, 1) := by decide +kernel
theorem dX2_write_4 : decode cX2_write 4 = .ok (.iload_n 3, 1) := by decide +kernel
theorem dX2_write_5 : decode cX2_write 5 = .ok (.iload_n 1, 1) := by decide +kernel
theorem dX2_write_6 : decode cX2_write 6 = .ok (.if_icmp .ge 20, 3) := by decide +kernel
theorem dX2_write_9 : decode cX2_write 9 = .ok (.bipush 10, 2) := by decide +kernel
theorem dX2_write_11 : decode cX2_write 11 = .ok (.iload_n 2, 1) := by decide +kernel
theorem dX2_write_12 : decode cX2_write 12 = .ok (.imul, 1) := by decide +kernel
theorem dX2_write_13 : decode cX2_write 13 = .ok (.iload_n 0, 1) := by decide +kernel
theorem dX2_write_14 : decode cX2_write 14 = .ok (.iload_n 3, 1) := by decide +kernel
theorem dX2_write_15 : decode cX2_write 15 = .ok (.invokestatic 12, 3) := by decide +kernel
theorem dX2_write_18 : decode cX2_write 18 = .ok (.iadd, 1) := by decide +kernel
theorem dX2_write_19 : decode cX2_write 19 = .ok (.istore_n 2, 1) := by decide +kernel
theorem dX2_write_20 : decode cX2_write 20 = .ok (.iinc 3 1, 3) := by decide +kernel
theorem dX2_write_23 : decode cX2_write 23 = .ok (.goto (-19), 3) := by decide +kernel
theorem dX2_write_26 : decode cX2_write 26 = .ok (.iload_n 2, 1) := by decide +kernel
theorem dX2_write_27 : decode cX2_write 27 = .ok (.ireturn, 1) := by decide +kernel
theorem dJ6_bitCount_0f7a4_0 : decode cJ6_bitCount_0f7a4 0 = .ok (.iload_n 0, 1) := by decide +kernel
theorem dJ6_bitCount_0f7a4_1 : decode cJ6_bitCount_0f7a4 1 = .ok (.iload_n 0, 1) := by decide +kernel
theorem dJ6_bitCount_0f7a4_2 : decode cJ6_bitCount_0f7a4 2 = .ok (.iconst 1, 1) := by decide +kernel
theorem dJ6_bitCount_0f7a4_3 : decode cJ6_bitCount_0f7a4 3 = .ok (.iushr, 1) := by decide +kernel
theorem dJ6_bitCount_0f7a4_4 : decode cJ6_bitCount_0f7a4 4 = .ok (.ldc_w 265, 3) := by decide +kernel
theorem dJ6_bitCount_0f7a4_7 : decode cJ6_bitCount_0f7a4 7 = .ok (.iand, 1) := by decide +kernel
theorem dJ6_bitCount_0f7a4_8 : decode cJ6_bitCount_0f7a4 8 = .ok (.isub, 1) := by decide +kernel
theorem dJ6_bitCount_0f7a4_9 : decode cJ6_bitCount_0f7a4 9 = .ok (.istore_n 0, 1) := by decide +kernel
theorem dJ6_bitCount_0f7a4_10 : decode cJ6_bitCount_0f7a4 10 = .ok (.iload_n 0, 1) := by decide +kernel
theorem dJ6_bitCount_0f7a4_11 : decode cJ6_bitCount_0f7a4 11 = .ok (.ldc_w 266, 3) := by decide +kernel
theorem dJ6_bitCount_0f7a4_14 : decode cJ6_bitCount_0f7a4 14 = .ok (.iand, 1) := by decide +kernel
theorem dJ6_bitCount_0f7a4_15 : decode cJ6_bitCount_0f7a4 15 = .ok (.iload_n 0, 1) := by decide +kernel
theorem dJ6_bitCount_0f7a4_16 : decode cJ6_bitCount_0f7a4 16 = .ok (.iconst 2, 1) := by decide +kernel
theorem dJ6_bitCount_0f7a4_17 : decode cJ6_bitCount_0f7a4 17 = .ok (.iushr, 1) := by decide +kernel
theorem dJ6_bitCount_0f7a4_18 : decode cJ6_bitCount_0f7a4 18 = .ok (.ldc_w 266, 3) := by decide +kernel
theorem dJ6_bitCount_0f7a4_21 : decode cJ6_bitCount_0f7a4 21 = .ok (.iand, 1) := by decide +kernel
theorem dJ6_bitCount_0f7a4_22 : decode cJ6_bitCount_0f7a4 22 = .ok (.iadd, 1) := by decide +kernel
theorem dJ6_bitCount_0f7a4_23 : decode cJ6_bitCount_0f7a4 23 = .ok (.istore_n 0, 1) := by decide +kernel
theorem dJ6_bitCount_0f7a4_24 : decode cJ6_bitCount_0f7a4 24 = .ok (.iload_n 0, 1) := by decide +kernel
theorem dJ6_bitCount_0f7a4_25 : decode cJ6_bitCount_0f7a4 25 = .ok (.iload_n 0, 1) := by decide +kernel
theorem dJ6_bitCount_0f7a4_26 : decode cJ6_bitCount_0f7a4 26 = .ok (.iconst 4, 1) := by decide +kernel
theorem dJ6_bitCount_0f7a4_27 : decode cJ6_bitCount_0f7a4 27 = .ok (.iushr, 1) := by decide +kernel
theorem dJ6_bitCount_0f7a4_28 : decode cJ6_bitCount_0f7a4 28 = .ok (.iadd, 1) := by decide +kernel
theorem dJ6_bitCount_0f7a4_29 : decode cJ6_bitCount_0f7a4 29 = .ok (.ldc_w 267, 3) := by decide +kernel
theorem dJ6_bitCount_0f7a4_32 : decode cJ6_bitCount_0f7a4 32 = .ok (.iand, 1) := by decide +kernel
theorem dJ6_bitCount_0f7a4_33 : decode cJ6_bitCount_0f7a4 33 = .ok (.istore_n 0, 1) := by decide +kernel
theorem dJ6_bitCount_0f7a4_34 : decode cJ6_bitCount_0f7a4 34 = .ok (.iload_n 0, 1) := by decide +kernel
theorem dJ6_bitCount_0f7a4_35 : decode cJ6_bitCount_0f7a4 35 = .ok (.iload_n 0, 1) := by decide +kernel
theorem dJ6_bitCount_0f7a4_36 : decode cJ6_bitCount_0f7a4 36 = .ok (.bipush 8, 2) := by decide +kernel
theorem dJ6_bitCount_0f7a4_38 : decode cJ6_bitCount_0f7a4 38 = .ok (.iushr, 1) := by decide +kernel
theorem dJ6_bitCount_0f7a4_39 : decode cJ6_bitCount_0f7a4 39 = .ok (.iadd, 1) := by decide +kernel
theorem dJ6_bitCount_0f7a4_40 : decode cJ6_bitCount_0f7a4 40 = .ok (.istore_n 0, 1) := by decide +kernel
theorem dJ6_bitCount_0f7a4_41 : decode cJ6_bitCount_0f7a4 41 = .ok (.iload_n 0, 1) := by decide +kernel
theorem dJ6_bitCount_0f7a4_42 : decode cJ6_bitCount_0f7a4 42 = .ok (.iload_n 0, 1) := by decide +kernel
theorem dJ6_bitCount_0f7a4_43 : decode cJ6_bitCount_0f7a4 43 = .ok (.bipush 16, 2) := by decide +kernel
theorem dJ6_bitCount_0f7a4_45 : decode cJ6_bitCount_0f7a4 45 = .ok (.iushr, 1) := by decide +kernel
theorem dJ6_bitCount_0f7a4_46 : decode cJ6_bitCount_0f7a4 46 = .ok (.iadd, 1) := by decide +kernel
theorem dJ6_bitCount_0f7a4_47 : decode cJ6_bitCount_0f7a4 47 = .ok (.istore_n 0, 1) := by decide +kernel
theorem dJ6_bitCount_0f7a4_48 : decode cJ6_bitCount_0f7a4 48 = .ok (.iload_n 0, 1) := by decide +kernel
theorem dJ6_bitCount_0f7a4_49 : decode cJ6_bitCount_0f7a4 49 = .ok (.bipush 63, 2) := by decide +kernel
theorem dJ6_bitCount_0f7a4_51 : decode cJ6_bitCount_0f7a4 51 = .ok (.iand, 1) := by decide +kernel
theorem dJ6_bitCount_0f7a4_52 : decode cJ6_bitCount_0f7a4 52 = .ok (.ireturn, 1) := by decide +kernel
theorem dJ7_fill_53178_0 : decode cJ7_fill_53178 0 = .ok (.iconst 0, 1) := by decide +kernel
theorem dJ7_fill_53178_1 : decode cJ7_fill_53178 1 = .ok (.istore_n 2, 1) := by decide +kernel
theorem dJ7_fill_53178_2 : decode cJ7_fill_53178 2 = .ok (.aload_n 0, 1) := by decide +kernel
theorem dJ7_fill_53178_3 : decode cJ7_fill_53178 3 = .ok (.arraylength, 1) := by decide +kernel
theorem dJ7_fill_53178_4 : decode cJ7_fill_53178 4 = .ok (.istore_n 3, 1) := by decide +kernel
theorem dJ7_fill_53178_5 : decode cJ7_fill_53178 5 = .ok (.iload_n 2, 1) := by decide +kernel
theorem dJ7_fill_53178_6 : decode cJ7_fill_53178 6 = .ok (.iload_n 3, 1) := by decide +kernel
theorem dJ7_fill_53178_7 : decode cJ7_fill_53178 7 = .ok (.if_icmp .ge 13, 3) := by decide +kernel
theorem dJ7_fill_53178_10 : decode cJ7_fill_53178 10 = .ok (.aload_n 0, 1) := by decide +kernel
theorem dJ7_fill_53178_11 : decode cJ7_fill_53178 11 = .ok (.iload_n 2, 1) := by decide +kernel
theorem dJ7_fill_53178_12 : decode cJ7_fill_53178 12 = .ok (.iload_n 1, 1) := by decide +kernel
theorem dJ7_fill_53178_13 : decode cJ7_fill_53178 13 = .ok (.iastore, 1) := by decide +kernel
theorem dJ7_fill_53178_14 : decode cJ7_fill_53178 14 = .ok (.iinc 2 1, 3) := by decide +kernel
theorem dJ7_fill_53178_17 : decode cJ7_fill_53178 17 = .ok (.goto (-12), 3) := by decide +kernel
theorem dJ7_fill_53178_20 : decode cJ7_fill_53178 20 = .ok (.return_, 1) := by decide +kernel
theorem dX4_start_0 : decode cX4_start 0 = .ok (.aload_n 0, 1) := by decide +kernel
theorem dX4_start_1 : decode cX4_start 1 = .ok (.iload_n 1, 1) := by decide +kernel
theorem dX4_start_2 : decode cX4_start 2 = .ok (.putfield 9, 3) := by decide +kernel
theorem dX4_start_5 : decode cX4_start 5 = .ok (.aload_n 0, 1) := by decide +kernel
theorem dX4_start_6 : decode cX4_start 6 = .ok (.iconst 0, 1) := by decide +kernel
theorem dX4_start_7 : decode cX4_start 7 = .ok (.putfield 15, 3) := by decide +kernel
theorem dX4_start_10 : decode cX4_start 10 = .ok (.return_, 1) := by decide +kernel
theorem dX4_generator_0 : decode cX4_generator 0 = .ok (.iload_n 1, 1) := by decide +kernel
theorem dX4_generator_1 : decode cX4_generator 1 = .ok (.ifCond .lt 20, 3) := by decide +kernel
theorem dX4_generator_4 : decode cX4_generator 4 = .ok (.iload_n 1, 1) := by decide +kernel
theorem dX4_generator_5 : decode cX4_generator 5 = .ok (.aload_n 0, 1) := by decide +kernel
theorem dX4_generator_6 : decode cX4_generator 6 = .ok (.getfield 15, 3) := by decide +kernel
theorem dX4_generator_9 : decode cX4_generator 9 = .ok (.if_icmp .ge 12, 3) := by decide +kernel
theorem dX4_generator_12 : decode cX4_generator 12 = .ok (.aload_n 0, 1) := by decide +kernel
theorem dX4_generator_13 : decode cX4_generator 13 = .ok (.getfield 18, 3) := by decide +kernel
theorem dX4_generator_16 : decode cX4_generator 16 = .ok (.iload_n 1, 1) := by decide +kernel
theorem dX4_generator_17 : decode cX4_generator 17 = .ok (.iaload, 1) := by decide +kernel
theorem dX4_generator_18 : decode cX4_generator 18 = .ok (.goto 5, 3) := by decide +kernel
theorem dX4_generator_21 : decode cX4_generator 21 = .ok (.ldc 24, 2) := by decide +kernel
theorem dX4_generator_23 : decode cX4_generator 23 = .ok (.ireturn, 1) := by decide +kernel
theorem dX4_adds_0 : decode cX4_adds 0 = .ok (.aload_n 0, 1) := by decide +kernel
theorem dX4_adds_1 : decode cX4_adds 1 = .ok (.getfield 15, 3) := by decide +kernel
theorem dX4_adds_4 : decode cX4_adds 4 = .ok (.iconst 3, 1) := by decide +kernel
theorem dX4_adds_5 : decode cX4_adds 5 = .ok (.if_icmp .lt 5, 3) := by decide +kernel
theorem dX4_adds_8 : decode cX4_adds 8 = .ok (.iconst 0, 1) := by decide +kernel
theorem dX4_adds_9 : decode cX4_adds 9 = .ok (.ireturn, 1) := by decide +kernel
theorem dX4_adds_10 : decode cX4_adds 10 = .ok (.aload_n 0, 1) := by decide +kernel
theorem dX4_adds_11 : decode cX4_adds 11 = .ok (.getfield 18, 3) := by decide +kernel
theorem dX4_adds_14 : decode cX4_adds 14 = .ok (.aload_n 0, 1) := by decide +kernel
theorem dX4_adds_15 : decode cX4_adds 15 = .ok (.getfield 15, 3) := by decide +kernel
theorem dX4_adds_18 : decode cX4_adds 18 = .ok (.iload_n 1, 1) := by decide +kernel
theorem dX4_adds_19 : decode cX4_adds 19 = .ok (.iastore, 1) := by decide +kernel
theorem dX4_adds_20 : decode cX4_adds 20 = .ok (.aload_n 0, 1) := by decide +kernel
theorem dX4_adds_21 : decode cX4_adds 21 = .ok (.dup, 1) := by decide +kernel
theorem dX4_adds_22 : decode cX4_adds 22 = .ok (.getfield 15, 3) := by decide +kernel
theorem dX4_adds_25 : decode cX4_adds 25 = .ok (.iconst 1, 1) := by decide +kernel
theorem dX4_adds_26 : decode cX4_adds 26 = .ok (.iadd, 1) := by decide +kernel
theorem dX4_adds_27 : decode cX4_adds 27 = .ok (.putfield 15, 3) := by decide +kernel
theorem dX4_adds_30 : decode cX4_adds 30 = .ok (.iconst 1, 1) := by decide +kernel
theorem dX4_adds_31 : decode cX4_adds 31 = .ok (.ireturn, 1) := by decide +kernel
theorem dX4_loses_0 : decode cX4_loses 0 = .ok (.iload_n 1, 1) := by decide +kernel
theorem dX4_loses_1 : decode cX4_loses 1 = .ok (.ifCond .lt 11, 3) := by decide +kernel
theorem dX4_loses_4 : decode cX4_loses 4 = .ok (.iload_n 1, 1) := by decide +kernel
theorem dX4_loses_5 : decode cX4_loses 5 = .ok (.aload_n 0, 1) := by decide +kernel
theorem dX4_loses_6 : decode cX4_loses 6 = .ok (.getfield 15, 3) := by decide +kernel
theorem dX4_loses_9 : decode cX4_loses 9 = .ok (.if_icmp .lt 5, 3) := by decide +kernel
theorem dX4_loses_12 : decode cX4_loses 12 = .ok (.iconst 0, 1) := by decide +kernel
theorem dX4_loses_13 : decode cX4_loses 13 = .ok (.ireturn, 1) := by decide +kernel
theorem dX4_loses_14 : decode cX4_loses 14 = .ok (.iload_n 1, 1) := by decide +kernel
theorem dX4_loses_15 : decode cX4_loses 15 = .ok (.iconst 1, 1) := by decide +kernel
theorem dX4_loses_16 : decode cX4_loses 16 = .ok (.iadd, 1) := by decide +kernel
theorem dX4_loses_17 : decode cX4_loses 17 = .ok (.istore_n 2, 1) := by decide +kernel
theorem dX4_loses_18 : decode cX4_loses 18 = .ok (.iload_n 2, 1) := by decide +kernel
theorem dX4_loses_19 : decode cX4_loses 19 = .ok (.aload_n 0, 1) := by decide +kernel
theorem dX4_loses_20 : decode cX4_loses 20 = .ok (.getfield 15, 3) := by decide +kernel
theorem dX4_loses_23 : decode cX4_loses 23 = .ok (.if_icmp .ge 23, 3) := by decide +kernel
theorem dX4_loses_26 : decode cX4_loses 26 = .ok (.aload_n 0, 1) := by decide +kernel
theorem dX4_loses_27 : decode cX4_loses 27 = .ok (.getfield 18, 3) := by decide +kernel
theorem dX4_loses_30 : decode cX4_loses 30 = .ok (.iload_n 2, 1) := by decide +kernel
theorem dX4_loses_31 : decode cX4_loses 31 = .ok (.iconst 1, 1) := by decide +kernel
theorem dX4_loses_32 : decode cX4_loses 32 = .ok (.isub, 1) := by decide +kernel
theorem dX4_loses_33 : decode cX4_loses 33 = .ok (.aload_n 0, 1) := by decide +kernel
theorem dX4_loses_34 : decode cX4_loses 34 = .ok (.getfield 18, 3) := by decide +kernel
theorem dX4_loses_37 : decode cX4_loses 37 = .ok (.iload_n 2, 1) := by decide +kernel
theorem dX4_loses_38 : decode cX4_loses 38 = .ok (.iaload, 1) := by decide +kernel
theorem dX4_loses_39 : decode cX4_loses 39 = .ok (.iastore, 1) := by decide +kernel
theorem dX4_loses_40 : decode cX4_loses 40 = .ok (.iinc 2 1, 3) := by decide +kernel
theorem dX4_loses_43 : decode cX4_loses 43 = .ok (.goto (-25), 3) := by decide +kernel
theorem dX4_loses_46 : decode cX4_loses 46 = .ok (.aload_n 0, 1) := by decide +kernel
theorem dX4_loses_47 : decode cX4_loses 47 = .ok (.dup, 1) := by decide +kernel
theorem dX4_loses_48 : decode cX4_loses 48 = .ok (.getfield 15, 3) := by decide +kernel
theorem dX4_loses_51 : decode cX4_loses 51 = .ok (.iconst 1, 1) := by decide +kernel
theorem dX4_loses_52 : decode cX4_loses 52 = .ok (.isub, 1) := by decide +kernel
theorem dX4_loses_53 : decode cX4_loses 53 = .ok (.putfield 15, 3) := by decide +kernel
theorem dX4_loses_56 : decode cX4_loses 56 = .ok (.iconst 1, 1) := by decide +kernel
theorem dX4_loses_57 : decode cX4_loses 57 = .ok (.ireturn, 1) := by decide +kernel
theorem dX4_copy_0 : decode cX4_copy 0 = .ok (.aload_n 0, 1) := by decide +kernel
theorem dX4_copy_1 : decode cX4_copy 1 = .ok (.aload_n 1, 1) := by decide +kernel
theorem dX4_copy_2 : decode cX4_copy 2 = .ok (.getfield 9, 3) := by decide +kernel
theorem dX4_copy_5 : decode cX4_copy 5 = .ok (.putfield 9, 3) := by decide +kernel
theorem dX4_copy_8 : decode cX4_copy 8 = .ok (.aload_n 0, 1) := by decide +kernel
theorem dX4_copy_9 : decode cX4_copy 9 = .ok (.aload_n 1, 1) := by decide +kernel
theorem dX4_copy_10 : decode cX4_copy 10 = .ok (.getfield 15, 3) := by decide +kernel
theorem dX4_copy_13 : decode cX4_copy 13 = .ok (.putfield 15, 3) := by decide +kernel
theorem dX4_copy_16 : decode cX4_copy 16 = .ok (.aload_n 1, 1) := by decide +kernel
theorem dX4_copy_17 : decode cX4_copy 17 = .ok (.getfield 18, 3) := by decide +kernel
theorem dX4_copy_20 : decode cX4_copy 20 = .ok (.iconst 0, 1) := by decide +kernel
theorem dX4_copy_21 : decode cX4_copy 21 = .ok (.aload_n 0, 1) := by decide +kernel
theorem dX4_copy_22 : decode cX4_copy 22 = .ok (.getfield 18, 3) := by decide +kernel
theorem dX4_copy_25 : decode cX4_copy 25 = .ok (.iconst 0, 1) := by decide +kernel
theorem dX4_copy_26 : decode cX4_copy 26 = .ok (.iconst 3, 1) := by decide +kernel
theorem dX4_copy_27 : decode cX4_copy 27 = .ok (.invokestatic 25, 3) := by decide +kernel
theorem dX4_copy_30 : decode cX4_copy 30 = .ok (.return_, 1) := by decide +kernel
theorem dX6_add_0 : decode cX6_add 0 = .ok (.aload_n 0, 1) := by decide +kernel
theorem dX6_add_1 : decode cX6_add 1 = .ok (.getfield 9, 3) := by decide +kernel
theorem dX6_add_4 : decode cX6_add 4 = .ok (.bipush 80, 2) := by decide +kernel
theorem dX6_add_6 : decode cX6_add 6 = .ok (.if_icmp .ge 24, 3) := by decide +kernel
theorem dX6_add_9 : decode cX6_add 9 = .ok (.aload_n 0, 1) := by decide +kernel
theorem dX6_add_10 : decode cX6_add 10 = .ok (.getfield 15, 3) := by decide +kernel
theorem dX6_add_13 : decode cX6_add 13 = .ok (.aload_n 0, 1) := by decide +kernel
theorem dX6_add_14 : decode cX6_add 14 = .ok (.getfield 9, 3) := by decide +kernel
theorem dX6_add_17 : decode cX6_add 17 = .ok (.iload_n 1, 1) := by decide +kernel
theorem dX6_add_18 : decode cX6_add 18 = .ok (.i2b, 1) := by decide +kernel
theorem dX6_add_19 : decode cX6_add 19 = .ok (.bastore, 1) := by decide +kernel
theorem dX6_add_20 : decode cX6_add 20 = .ok (.aload_n 0, 1) := by decide +kernel
theorem dX6_add_21 : decode cX6_add 21 = .ok (.dup, 1) := by decide +kernel
theorem dX6_add_22 : decode cX6_add 22 = .ok (.getfield 9, 3) := by decide +kernel
theorem dX6_add_25 : decode cX6_add 25 = .ok (.iconst 1, 1) := by decide +kernel
theorem dX6_add_26 : decode cX6_add 26 = .ok (.iadd, 1) := by decide +kernel
theorem dX6_add_27 : decode cX6_add 27 = .ok (.putfield 9, 3) := by decide +kernel
theorem dX6_add_30 : decode cX6_add 30 = .ok (.return_, 1) := by decide +kernel
theorem dX6_at_0 : decode cX6_at 0 = .ok (.iload_n 1, 1) := by decide +kernel
theorem dX6_at_1 : decode cX6_at 1 = .ok (.ifCond .lt 20, 3) := by decide +kernel
theorem dX6_at_4 : decode cX6_at 4 = .ok (.iload_n 1, 1) := by decide +kernel
theorem dX6_at_5 : decode cX6_at 5 = .ok (.aload_n 0, 1) := by decide +kernel
theorem dX6_at_6 : decode cX6_at 6 = .ok (.getfield 9, 3) := by decide +kernel
theorem dX6_at_9 : decode cX6_at 9 = .ok (.if_icmp .ge 12, 3) := by decide +kernel
theorem dX6_at_12 : decode cX6_at 12 = .ok (.aload_n 0, 1) := by decide +kernel
theorem dX6_at_13 : decode cX6_at 13 = .ok (.getfield 15, 3) := by decide +kernel
theorem dX6_at_16 : decode cX6_at 16 = .ok (.iload_n 1, 1) := by decide +kernel
theorem dX6_at_17 : decode cX6_at 17 = .ok (.baload, 1) := by decide +kernel
theorem dX6_at_18 : decode cX6_at 18 = .ok (.goto 4, 3) := by decide +kernel
theorem dX6_at_21 : decode cX6_at 21 = .ok (.iconst (-1), 1) := by decide +kernel
theorem dX6_at_22 : decode cX6_at 22 = .ok (.ireturn, 1) := by decide +kernel
theorem gc_X2_12 : GoodIn xtb (va_wsS RX2 12 yX2_at (xW yX2_at cX2_at 2 (some .int))) := x_goodS lkM_X2_12 wT_X2_at wN_X2 wC_X2_at
theorem ds_X2_at : xDs yX2_at 2 := by decide +kernel
theorem ds_X2_then : xDs yX2_then 2 := by decide +kernel
theorem ds_X2_inverse : xDs yX2_inverse 1 := by decide +kernel
theorem ds_X2_carry : xDs yX2_carry 2 := by decide +kernel
theorem ds_X2_read : xDs yX2_read 2 := by decide +kernel
theorem ds_X2_write : xDs yX2_write 2 := by decide +kernel
theorem ds_J6_bitCount_0f7a4 : xDs yJ6_bitCount_0f7a4 1 := by decide +kernel
theorem ds_J7_fill_53178 : xDs yJ7_fill_53178 2 := by decide +kernel
theorem ds_X4_start : xDs yX4_start 1 := by decide +kernel
theorem ds_X4_generator : xDs yX4_generator 1 := by decide +kernel
theorem ds_X4_adds : xDs yX4_adds 1 := by decide +kernel
theorem ds_X4_loses : xDs yX4_loses 1 := by decide +kernel
theorem ds_X4_copy : xDs yX4_copy 1 := by decide +kernel
theorem ds_X6_add : xDs yX6_add 1 := by decide +kernel
theorem ds_X6_at : xDs yX6_at 1 := by decide +kernel
noncomputable def f_X2_at (v0 : Int32) (v1 : Int32) : Option (Int32) := some ((xus v0 ((3 : Int32) * v1)) &&& (7 : Int32))
set_option maxHeartbeats 4000000 in
set_option maxRecDepth 100000 in
theorem c_X2_at (l : Launch) (dC : Nat → ClassId) (dI : Nat → Nat → Nat) (cI cZ cB cO : ClassId) (v0 : Int32) (v1 : Int32) (o : Int32) (h : f_X2_at v0 v1 = some o) (sz : Nat) : Met l yX2_at (xW yX2_at cX2_at 2 (some .int)) { frames := 0, cells := 0, slots := 0, locals := 0 } (xPre dC dI (xT cI cZ cB cO) [.int v0, .int v1] [] sz) (xQi dC dI (xT cI cZ cB cO) o [] [] sz) 0 0 (va_A [] sz) := by
  refine x_met (by decide) (Nat.le_of_ble_eq_true rfl) ?_
  intro p e s m args below meth c R Q A hR hsz hA hQ hin C hw ls hl
  have hx := C.1
  have hb := C.2.1
  have hown := C.2.2.2.1
  have htb := C.2.2.2.2.1
  have hl : lv_has ls 2 [(0, .int v0), (1, .int v1)] := hl
  refine lv_iload_n hx hb dX2_at_0 rfl (lv_at hl 0 rfl) ?_
  refine lv_iconst (v := (3 : Int32)) hx hb dX2_at_1 (by decide) ?_
  refine lv_iload_n hx hb dX2_at_2 rfl (lv_at hl 1 rfl) ?_
  refine lv_imul hx hb dX2_at_3 ?_
  refine lv_iushr (v := (xus v0 ((3 : Int32) * v1))) hx hb dX2_at_4 rfl ?_
  refine lv_bipush (v := (7 : Int32)) hx hb dX2_at_5 (by decide) ?_
  refine lv_iand hx hb dX2_at_7 ?_
  obtain rfl := Option.some.inj h
  exact x_reti C hQ hA hw dX2_at_8
noncomputable def f_X2_then_L1 (v1 : Int32) (v0 : Int32) (z : Int32 × Int32) : Option ((Int32 × Int32) ⊕ (Int32)) := match z with
  | (v2_1, v3_2) => xb ((24 : Int32) ≤ v3_2) (some (.inr v2_1)) (some (.inl ((v2_1 ||| (((xus v1 ((3 : Int32) * ((xus v0 v3_2) &&& (7 : Int32)))) &&& (7 : Int32)) <<< (v3_2 &&& 31))), (v3_2 + (3 : Int32)))))
noncomputable def f_X2_then (v0 : Int32) (v1 : Int32) : Option (Int32) := xn (xL (f_X2_then_L1 v1 v0) ((0 : Int32), (0 : Int32))) (fun (v2_3 : Int32) => some v2_3)
set_option maxHeartbeats 4000000 in
set_option maxRecDepth 100000 in
theorem c_X2_then (l : Launch) (dC : Nat → ClassId) (dI : Nat → Nat → Nat) (cI cZ cB cO : ClassId) (v0 : Int32) (v1 : Int32) (o : Int32) (h : f_X2_then v0 v1 = some o) (sz : Nat) : Met l yX2_then (xW yX2_then cX2_then 4 (some .int)) { frames := 0, cells := 0, slots := 0, locals := 0 } (xPre dC dI (xT cI cZ cB cO) [.int v0, .int v1] [] sz) (xQi dC dI (xT cI cZ cB cO) o [] [] sz) 0 0 (va_A [] sz) := by
  refine x_met (by decide) (Nat.le_of_ble_eq_true rfl) ?_
  intro p e s m args below meth c R Q A hR hsz hA hQ hin C hw ls hl
  have hx := C.1
  have hb := C.2.1
  have hown := C.2.2.2.1
  have htb := C.2.2.2.2.1
  have hl : lv_has ls 4 [(0, .int v0), (1, .int v1)] := hl
  refine lv_iconst (v := (0 : Int32)) hx hb dX2_then_0 (by decide) ?_
  refine lv_istore_n (lv' := [(2, .int (0 : Int32)), (0, .int v0), (1, .int v1)]) hx hb dX2_then_1 rfl hl (by decide) rfl (fun ls hl => ?_)
  refine lv_iconst (v := (0 : Int32)) hx hb dX2_then_2 (by decide) ?_
  refine lv_istore_n (lv' := [(3, .int (0 : Int32)), (2, .int (0 : Int32)), (0, .int v0), (1, .int v1)]) hx hb dX2_then_3 rfl hl (by decide) rfl (fun ls hl => ?_)
  obtain ⟨z, hr, h⟩ := xn_i h
  refine xL_w (fun (z : Int32 × Int32) => ∀ (H : Heap) (locs : List Loc) (ls : Array Slot), xWd (dC, dI) A s.heap H locs [] → lv_has ls 4 [(0, .int v0), (1, .int v1), (2, .int z.1), (3, .int z.2)] → W p l e R s m args below meth c H locs 0 0 Q (F0 m 4 ls [])) (fun (z : Int32) => ∀ (H : Heap) (locs : List Loc) (ls : Array Slot), xWd (dC, dI) A s.heap H locs [] → lv_has ls 4 [(2, .int z)] → W p l e R s m args below meth c H locs 0 0 Q (F0 m 34 ls [])) ?_ hr ?_ _ _ _ hw (lv_sub hl [2, 3, 1, 0] rfl)
  · rintro ⟨v2_1, v3_2⟩ o h k H locs ls hw hl
    have hw : xWd (dC, dI) A s.heap H locs [] := hw
    have hl : lv_has ls 4 [(0, .int v0), (1, .int v1), (2, .int v2_1), (3, .int v3_2)] := hl
    refine lv_iload_n hx hb dX2_then_4 rfl (lv_at hl 3 rfl) ?_
    refine lv_bipush (v := (24 : Int32)) hx hb dX2_then_5 (by decide) ?_
    refine lv_icmp_ge (tgt := 34) hx hb dX2_then_7 (by decide) (fun b1 => ?_) (fun b1 => ?_)
    · replace h := xb_tt b1 h
      obtain rfl := Option.some.inj h
      exact k _ _ _ hw (lv_sub hl [2] rfl)
    · replace h := xb_ff b1 h
      refine lv_iload_n hx hb dX2_then_10 rfl (lv_at hl 2 rfl) ?_
      refine lv_iload_n hx hb dX2_then_11 rfl (lv_at hl 1 rfl) ?_
      refine lv_iconst (v := (3 : Int32)) hx hb dX2_then_12 (by decide) ?_
      refine lv_iload_n hx hb dX2_then_13 rfl (lv_at hl 0 rfl) ?_
      refine lv_iload_n hx hb dX2_then_14 rfl (lv_at hl 3 rfl) ?_
      refine lv_iushr (v := (xus v0 v3_2)) hx hb dX2_then_15 rfl ?_
      refine lv_bipush (v := (7 : Int32)) hx hb dX2_then_16 (by decide) ?_
      refine lv_iand hx hb dX2_then_18 ?_
      refine lv_imul hx hb dX2_then_19 ?_
      refine lv_iushr (v := (xus v1 ((3 : Int32) * ((xus v0 v3_2) &&& (7 : Int32))))) hx hb dX2_then_20 rfl ?_
      refine lv_bipush (v := (7 : Int32)) hx hb dX2_then_21 (by decide) ?_
      refine lv_iand hx hb dX2_then_23 ?_
      refine lv_iload_n hx hb dX2_then_24 rfl (lv_at hl 3 rfl) ?_
      refine lv_ishl hx hb dX2_then_25 ?_
      refine lv_ior hx hb dX2_then_26 ?_
      refine lv_istore_n (lv' := [(2, .int (v2_1 ||| (((xus v1 ((3 : Int32) * ((xus v0 v3_2) &&& (7 : Int32)))) &&& (7 : Int32)) <<< (v3_2 &&& 31)))), (0, .int v0), (1, .int v1), (3, .int v3_2)]) hx hb dX2_then_27 rfl hl (by decide) rfl (fun ls hl => ?_)
      refine lv_iinc (v := (v3_2 + (3 : Int32))) (lv' := [(3, .int (v3_2 + (3 : Int32))), (2, .int (v2_1 ||| (((xus v1 ((3 : Int32) * ((xus v0 v3_2) &&& (7 : Int32)))) &&& (7 : Int32)) <<< (v3_2 &&& 31)))), (0, .int v0), (1, .int v1)]) hx hb dX2_then_28 hl (k := 3) rfl (congrArg (fun q => v3_2 + q) (by decide)) (by decide) rfl (fun ls hl => ?_)
      refine lv_goto (tgt := 4) hx hb dX2_then_31 (by decide) ?_
      obtain rfl := Option.some.inj h
      exact k _ _ _ hw (lv_sub hl [2, 3, 1, 0] rfl)
  · obtain ⟨v2_3, hz⟩ : ∃ q, q = z := ⟨z, rfl⟩
    subst hz
    intro H locs ls hw hl
    have hw : xWd (dC, dI) A s.heap H locs [] := hw
    have hl : lv_has ls 4 [(2, .int v2_3)] := hl
    refine lv_iload_n hx hb dX2_then_34 rfl (lv_at hl 0 rfl) ?_
    obtain rfl := Option.some.inj h
    exact x_reti C hQ hA hw dX2_then_35
noncomputable def f_X2_inverse_L1 (v0 : Int32) (z : Int32 × Int32) : Option ((Int32 × Int32) ⊕ (Int32)) := match z with
  | (v1_1, v2_2) => xb ((8 : Int32) ≤ v2_2) (some (.inr v1_1)) (some (.inl ((v1_1 ||| (v2_2 <<< (((3 : Int32) * ((xus v0 ((3 : Int32) * v2_2)) &&& (7 : Int32))) &&& 31))), (v2_2 + (1 : Int32)))))
noncomputable def f_X2_inverse (v0 : Int32) : Option (Int32) := xn (xL (f_X2_inverse_L1 v0) ((0 : Int32), (0 : Int32))) (fun (v1_3 : Int32) => some v1_3)
set_option maxHeartbeats 4000000 in
set_option maxRecDepth 100000 in
theorem c_X2_inverse (l : Launch) (dC : Nat → ClassId) (dI : Nat → Nat → Nat) (cI cZ cB cO : ClassId) (v0 : Int32) (o : Int32) (h : f_X2_inverse v0 = some o) (sz : Nat) : Met l yX2_inverse (xW yX2_inverse cX2_inverse 3 (some .int)) { frames := 0, cells := 0, slots := 0, locals := 0 } (xPre dC dI (xT cI cZ cB cO) [.int v0] [] sz) (xQi dC dI (xT cI cZ cB cO) o [] [] sz) 0 0 (va_A [] sz) := by
  refine x_met (by decide) (Nat.le_of_ble_eq_true rfl) ?_
  intro p e s m args below meth c R Q A hR hsz hA hQ hin C hw ls hl
  have hx := C.1
  have hb := C.2.1
  have hown := C.2.2.2.1
  have htb := C.2.2.2.2.1
  have hl : lv_has ls 3 [(0, .int v0)] := hl
  refine lv_iconst (v := (0 : Int32)) hx hb dX2_inverse_0 (by decide) ?_
  refine lv_istore_n (lv' := [(1, .int (0 : Int32)), (0, .int v0)]) hx hb dX2_inverse_1 rfl hl (by decide) rfl (fun ls hl => ?_)
  refine lv_iconst (v := (0 : Int32)) hx hb dX2_inverse_2 (by decide) ?_
  refine lv_istore_n (lv' := [(2, .int (0 : Int32)), (1, .int (0 : Int32)), (0, .int v0)]) hx hb dX2_inverse_3 rfl hl (by decide) rfl (fun ls hl => ?_)
  obtain ⟨z, hr, h⟩ := xn_i h
  refine xL_w (fun (z : Int32 × Int32) => ∀ (H : Heap) (locs : List Loc) (ls : Array Slot), xWd (dC, dI) A s.heap H locs [] → lv_has ls 3 [(0, .int v0), (1, .int z.1), (2, .int z.2)] → W p l e R s m args below meth c H locs 0 0 Q (F0 m 4 ls [])) (fun (z : Int32) => ∀ (H : Heap) (locs : List Loc) (ls : Array Slot), xWd (dC, dI) A s.heap H locs [] → lv_has ls 3 [(1, .int z)] → W p l e R s m args below meth c H locs 0 0 Q (F0 m 31 ls [])) ?_ hr ?_ _ _ _ hw (lv_sub hl [2, 1, 0] rfl)
  · rintro ⟨v1_1, v2_2⟩ o h k H locs ls hw hl
    have hw : xWd (dC, dI) A s.heap H locs [] := hw
    have hl : lv_has ls 3 [(0, .int v0), (1, .int v1_1), (2, .int v2_2)] := hl
    refine lv_iload_n hx hb dX2_inverse_4 rfl (lv_at hl 2 rfl) ?_
    refine lv_bipush (v := (8 : Int32)) hx hb dX2_inverse_5 (by decide) ?_
    refine lv_icmp_ge (tgt := 31) hx hb dX2_inverse_7 (by decide) (fun b1 => ?_) (fun b1 => ?_)
    · replace h := xb_tt b1 h
      obtain rfl := Option.some.inj h
      exact k _ _ _ hw (lv_sub hl [1] rfl)
    · replace h := xb_ff b1 h
      refine lv_iload_n hx hb dX2_inverse_10 rfl (lv_at hl 1 rfl) ?_
      refine lv_iload_n hx hb dX2_inverse_11 rfl (lv_at hl 2 rfl) ?_
      refine lv_iconst (v := (3 : Int32)) hx hb dX2_inverse_12 (by decide) ?_
      refine lv_iload_n hx hb dX2_inverse_13 rfl (lv_at hl 0 rfl) ?_
      refine lv_iconst (v := (3 : Int32)) hx hb dX2_inverse_14 (by decide) ?_
      refine lv_iload_n hx hb dX2_inverse_15 rfl (lv_at hl 2 rfl) ?_
      refine lv_imul hx hb dX2_inverse_16 ?_
      refine lv_iushr (v := (xus v0 ((3 : Int32) * v2_2))) hx hb dX2_inverse_17 rfl ?_
      refine lv_bipush (v := (7 : Int32)) hx hb dX2_inverse_18 (by decide) ?_
      refine lv_iand hx hb dX2_inverse_20 ?_
      refine lv_imul hx hb dX2_inverse_21 ?_
      refine lv_ishl hx hb dX2_inverse_22 ?_
      refine lv_ior hx hb dX2_inverse_23 ?_
      refine lv_istore_n (lv' := [(1, .int (v1_1 ||| (v2_2 <<< (((3 : Int32) * ((xus v0 ((3 : Int32) * v2_2)) &&& (7 : Int32))) &&& 31)))), (0, .int v0), (2, .int v2_2)]) hx hb dX2_inverse_24 rfl hl (by decide) rfl (fun ls hl => ?_)
      refine lv_iinc (v := (v2_2 + (1 : Int32))) (lv' := [(2, .int (v2_2 + (1 : Int32))), (1, .int (v1_1 ||| (v2_2 <<< (((3 : Int32) * ((xus v0 ((3 : Int32) * v2_2)) &&& (7 : Int32))) &&& 31)))), (0, .int v0)]) hx hb dX2_inverse_25 hl (k := 2) rfl (congrArg (fun q => v2_2 + q) (by decide)) (by decide) rfl (fun ls hl => ?_)
      refine lv_goto (tgt := 4) hx hb dX2_inverse_28 (by decide) ?_
      obtain rfl := Option.some.inj h
      exact k _ _ _ hw (lv_sub hl [2, 1, 0] rfl)
  · obtain ⟨v1_3, hz⟩ : ∃ q, q = z := ⟨z, rfl⟩
    subst hz
    intro H locs ls hw hl
    have hw : xWd (dC, dI) A s.heap H locs [] := hw
    have hl : lv_has ls 3 [(1, .int v1_3)] := hl
    refine lv_iload_n hx hb dX2_inverse_31 rfl (lv_at hl 0 rfl) ?_
    obtain rfl := Option.some.inj h
    exact x_reti C hQ hA hw dX2_inverse_32
noncomputable def f_X2_carry_L1 (v1 : Int32) (z : Int32 × Int32 × Int32) : Option ((Int32 × Int32 × Int32) ⊕ (Int32)) := match z with
  | (v2_1, v3_2, v4_3) => xb ((24 : Int32) ≤ v4_3) (some (.inr v2_1)) (xb (v3_2 = 0) (some (.inr v2_1)) (some (.inl ((v2_1 ||| ((v3_2 &&& (1 : Int32)) <<< (((xus v1 v4_3) &&& (7 : Int32)) &&& 31))), (xus v3_2 (1 : Int32)), (v4_3 + (3 : Int32))))))
noncomputable def f_X2_carry (v0 : Int32) (v1 : Int32) : Option (Int32) := xn (xL (f_X2_carry_L1 v1) ((0 : Int32), v0, (0 : Int32))) (fun (v2_4 : Int32) => some v2_4)
set_option maxHeartbeats 4000000 in
set_option maxRecDepth 100000 in
theorem c_X2_carry (l : Launch) (dC : Nat → ClassId) (dI : Nat → Nat → Nat) (cI cZ cB cO : ClassId) (v0 : Int32) (v1 : Int32) (o : Int32) (h : f_X2_carry v0 v1 = some o) (sz : Nat) : Met l yX2_carry (xW yX2_carry cX2_carry 5 (some .int)) { frames := 0, cells := 0, slots := 0, locals := 0 } (xPre dC dI (xT cI cZ cB cO) [.int v0, .int v1] [] sz) (xQi dC dI (xT cI cZ cB cO) o [] [] sz) 0 0 (va_A [] sz) := by
  refine x_met (by decide) (Nat.le_of_ble_eq_true rfl) ?_
  intro p e s m args below meth c R Q A hR hsz hA hQ hin C hw ls hl
  have hx := C.1
  have hb := C.2.1
  have hown := C.2.2.2.1
  have htb := C.2.2.2.2.1
  have hl : lv_has ls 5 [(0, .int v0), (1, .int v1)] := hl
  refine lv_iconst (v := (0 : Int32)) hx hb dX2_carry_0 (by decide) ?_
  refine lv_istore_n (lv' := [(2, .int (0 : Int32)), (0, .int v0), (1, .int v1)]) hx hb dX2_carry_1 rfl hl (by decide) rfl (fun ls hl => ?_)
  refine lv_iload_n hx hb dX2_carry_2 rfl (lv_at hl 1 rfl) ?_
  refine lv_istore_n (lv' := [(3, .int v0), (2, .int (0 : Int32)), (0, .int v0), (1, .int v1)]) hx hb dX2_carry_3 rfl hl (by decide) rfl (fun ls hl => ?_)
  refine lv_iconst (v := (0 : Int32)) hx hb dX2_carry_4 (by decide) ?_
  refine lv_istore (lv' := [(4, .int (0 : Int32)), (3, .int v0), (2, .int (0 : Int32)), (0, .int v0), (1, .int v1)]) hx hb dX2_carry_5 hl (by decide) rfl (fun ls hl => ?_)
  obtain ⟨z, hr, h⟩ := xn_i h
  refine xL_w (fun (z : Int32 × Int32 × Int32) => ∀ (H : Heap) (locs : List Loc) (ls : Array Slot), xWd (dC, dI) A s.heap H locs [] → lv_has ls 5 [(1, .int v1), (2, .int z.1), (3, .int z.2.1), (4, .int z.2.2)] → W p l e R s m args below meth c H locs 0 0 Q (F0 m 7 ls [])) (fun (z : Int32) => ∀ (H : Heap) (locs : List Loc) (ls : Array Slot), xWd (dC, dI) A s.heap H locs [] → lv_has ls 5 [(2, .int z)] → W p l e R s m args below meth c H locs 0 0 Q (F0 m 42 ls [])) ?_ hr ?_ _ _ _ hw (lv_sub hl [4, 2, 1, 0] rfl)
  · rintro ⟨v2_1, v3_2, v4_3⟩ o h k H locs ls hw hl
    have hw : xWd (dC, dI) A s.heap H locs [] := hw
    have hl : lv_has ls 5 [(1, .int v1), (2, .int v2_1), (3, .int v3_2), (4, .int v4_3)] := hl
    refine lv_iload hx hb dX2_carry_7 (lv_at hl 3 rfl) ?_
    refine lv_bipush (v := (24 : Int32)) hx hb dX2_carry_9 (by decide) ?_
    refine lv_icmp_ge (tgt := 42) hx hb dX2_carry_11 (by decide) (fun b1 => ?_) (fun b1 => ?_)
    · replace h := xb_tt b1 h
      obtain rfl := Option.some.inj h
      exact k _ _ _ hw (lv_sub hl [1] rfl)
    · replace h := xb_ff b1 h
      refine lv_iload_n hx hb dX2_carry_14 rfl (lv_at hl 2 rfl) ?_
      refine lv_if_eq (tgt := 42) hx hb dX2_carry_15 (by decide) (fun b2 => ?_) (fun b2 => ?_)
      · replace h := xb_tt b2 h
        obtain rfl := Option.some.inj h
        exact k _ _ _ hw (lv_sub hl [1] rfl)
      · replace h := xb_ff b2 h
        refine lv_iload_n hx hb dX2_carry_18 rfl (lv_at hl 1 rfl) ?_
        refine lv_iload_n hx hb dX2_carry_19 rfl (lv_at hl 2 rfl) ?_
        refine lv_iconst (v := (1 : Int32)) hx hb dX2_carry_20 (by decide) ?_
        refine lv_iand hx hb dX2_carry_21 ?_
        refine lv_iload_n hx hb dX2_carry_22 rfl (lv_at hl 0 rfl) ?_
        refine lv_iload hx hb dX2_carry_23 (lv_at hl 3 rfl) ?_
        refine lv_iushr (v := (xus v1 v4_3)) hx hb dX2_carry_25 rfl ?_
        refine lv_bipush (v := (7 : Int32)) hx hb dX2_carry_26 (by decide) ?_
        refine lv_iand hx hb dX2_carry_28 ?_
        refine lv_ishl hx hb dX2_carry_29 ?_
        refine lv_ior hx hb dX2_carry_30 ?_
        refine lv_istore_n (lv' := [(2, .int (v2_1 ||| ((v3_2 &&& (1 : Int32)) <<< (((xus v1 v4_3) &&& (7 : Int32)) &&& 31)))), (1, .int v1), (3, .int v3_2), (4, .int v4_3)]) hx hb dX2_carry_31 rfl hl (by decide) rfl (fun ls hl => ?_)
        refine lv_iload_n hx hb dX2_carry_32 rfl (lv_at hl 2 rfl) ?_
        refine lv_iconst (v := (1 : Int32)) hx hb dX2_carry_33 (by decide) ?_
        refine lv_iushr (v := (xus v3_2 (1 : Int32))) hx hb dX2_carry_34 rfl ?_
        refine lv_istore_n (lv' := [(3, .int (xus v3_2 (1 : Int32))), (2, .int (v2_1 ||| ((v3_2 &&& (1 : Int32)) <<< (((xus v1 v4_3) &&& (7 : Int32)) &&& 31)))), (1, .int v1), (4, .int v4_3)]) hx hb dX2_carry_35 rfl hl (by decide) rfl (fun ls hl => ?_)
        refine lv_iinc (v := (v4_3 + (3 : Int32))) (lv' := [(4, .int (v4_3 + (3 : Int32))), (3, .int (xus v3_2 (1 : Int32))), (2, .int (v2_1 ||| ((v3_2 &&& (1 : Int32)) <<< (((xus v1 v4_3) &&& (7 : Int32)) &&& 31)))), (1, .int v1)]) hx hb dX2_carry_36 hl (k := 3) rfl (congrArg (fun q => v4_3 + q) (by decide)) (by decide) rfl (fun ls hl => ?_)
        refine lv_goto (tgt := 7) hx hb dX2_carry_39 (by decide) ?_
        obtain rfl := Option.some.inj h
        exact k _ _ _ hw (lv_sub hl [3, 2, 1, 0] rfl)
  · obtain ⟨v2_4, hz⟩ : ∃ q, q = z := ⟨z, rfl⟩
    subst hz
    intro H locs ls hw hl
    have hw : xWd (dC, dI) A s.heap H locs [] := hw
    have hl : lv_has ls 5 [(2, .int v2_4)] := hl
    refine lv_iload_n hx hb dX2_carry_42 rfl (lv_at hl 0 rfl) ?_
    obtain rfl := Option.some.inj h
    exact x_reti C hQ hA hw dX2_carry_43
noncomputable def f_X2_read_L1 (v1 : Int32) (z : Int32 × Int32 × Int32 × Int32) : Option ((Int32 × Int32 × Int32 × Int32) ⊕ ((Int32 × Int32) ⊕ (Int32))) := match z with
  | (v2_1, v3_2, v4_3, v5_4) => xb (v5_4 < 0) (some (.inr (.inl (v2_1, v4_3)))) (xb ((v2_1 - v2_1 / (10 : Int32) * (10 : Int32)) < 0) (some (.inr (.inr (-1 : Int32)))) (xb (v1 ≤ (v2_1 - v2_1 / (10 : Int32) * (10 : Int32))) (some (.inr (.inr (-1 : Int32)))) (xb (((v3_2 >>> ((v2_1 - v2_1 / (10 : Int32) * (10 : Int32)) &&& 31)) &&& (1 : Int32)) = 0) (some (.inl ((v2_1 / (10 : Int32)), (v3_2 ||| ((1 : Int32) <<< ((v2_1 - v2_1 / (10 : Int32) * (10 : Int32)) &&& 31))), ((v4_3 &&& (((7 : Int32) <<< (((3 : Int32) * v5_4) &&& 31)) ^^^ (-1 : Int32))) ||| ((v2_1 - v2_1 / (10 : Int32) * (10 : Int32)) <<< (((3 : Int32) * v5_4) &&& 31))), (v5_4 + (-1 : Int32))))) (some (.inr (.inr (-1 : Int32)))))))
noncomputable def f_X2_read (v0 : Int32) (v1 : Int32) : Option (Int32) := xn (xL (f_X2_read_L1 v1) (v0, (0 : Int32), (16434824 : Int32), (v1 - (1 : Int32)))) (fun (x : (Int32 × Int32) ⊕ (Int32)) => match x with | .inl z => (fun (z : Int32 × Int32) => match z with | (v2_5, v4_6) => xb (v2_5 = 0) (some v4_6) (some (-1 : Int32))) z | .inr z => some z)
set_option maxHeartbeats 4000000 in
set_option maxRecDepth 100000 in
theorem c_X2_read (l : Launch) (dC : Nat → ClassId) (dI : Nat → Nat → Nat) (cI cZ cB cO : ClassId) (v0 : Int32) (v1 : Int32) (o : Int32) (h : f_X2_read v0 v1 = some o) (sz : Nat) : Met l yX2_read (xW yX2_read cX2_read 7 (some .int)) { frames := 0, cells := 0, slots := 0, locals := 0 } (xPre dC dI (xT cI cZ cB cO) [.int v0, .int v1] [] sz) (xQi dC dI (xT cI cZ cB cO) o [] [] sz) 0 0 (va_A [] sz) := by
  refine x_met (by decide) (Nat.le_of_ble_eq_true rfl) ?_
  intro p e s m args below meth c R Q A hR hsz hA hQ hin C hw ls hl
  have hx := C.1
  have hb := C.2.1
  have hown := C.2.2.2.1
  have htb := C.2.2.2.2.1
  have hl : lv_has ls 7 [(0, .int v0), (1, .int v1)] := hl
  refine lv_iload_n hx hb dX2_read_0 rfl (lv_at hl 0 rfl) ?_
  refine lv_istore_n (lv' := [(2, .int v0), (0, .int v0), (1, .int v1)]) hx hb dX2_read_1 rfl hl (by decide) rfl (fun ls hl => ?_)
  refine lv_iconst (v := (0 : Int32)) hx hb dX2_read_2 (by decide) ?_
  refine lv_istore_n (lv' := [(3, .int (0 : Int32)), (2, .int v0), (0, .int v0), (1, .int v1)]) hx hb dX2_read_3 rfl hl (by decide) rfl (fun ls hl => ?_)
  refine lv_ldc hx hb hown (htb _ kI_X2_11) dX2_read_4 ?_
  refine lv_istore (lv' := [(4, .int (16434824 : Int32)), (3, .int (0 : Int32)), (2, .int v0), (0, .int v0), (1, .int v1)]) hx hb dX2_read_6 hl (by decide) rfl (fun ls hl => ?_)
  refine lv_iload_n hx hb dX2_read_8 rfl (lv_at hl 4 rfl) ?_
  refine lv_iconst (v := (1 : Int32)) hx hb dX2_read_9 (by decide) ?_
  refine lv_isub hx hb dX2_read_10 ?_
  refine lv_istore (lv' := [(5, .int (v1 - (1 : Int32))), (4, .int (16434824 : Int32)), (3, .int (0 : Int32)), (2, .int v0), (0, .int v0), (1, .int v1)]) hx hb dX2_read_11 hl (by decide) rfl (fun ls hl => ?_)
  obtain ⟨z, hr, h⟩ := xn_i h
  refine xL_w (fun (z : Int32 × Int32 × Int32 × Int32) => ∀ (H : Heap) (locs : List Loc) (ls : Array Slot), xWd (dC, dI) A s.heap H locs [] → lv_has ls 7 [(1, .int v1), (2, .int z.1), (3, .int z.2.1), (4, .int z.2.2.1), (5, .int z.2.2.2)] → W p l e R s m args below meth c H locs 0 0 Q (F0 m 13 ls [])) (Sum.elim (fun (z : Int32 × Int32) => ∀ (H : Heap) (locs : List Loc) (ls : Array Slot), xWd (dC, dI) A s.heap H locs [] → lv_has ls 7 [(2, .int z.1), (4, .int z.2)] → W p l e R s m args below meth c H locs 0 0 Q (F0 m 86 ls [])) (fun (z : Int32) => ∀ (H : Heap) (locs : List Loc), xWd (dC, dI) A s.heap H locs [] → ∀ (pc : Nat) (ls : Array Slot), decode cX2_read pc = .ok (.ireturn, 1) → W p l e R s m args below meth c H locs 0 0 Q (F0 m pc ls [.int z]))) ?_ hr ?_ _ _ _ hw (lv_sub hl [5, 3, 2, 1, 0] rfl)
  · rintro ⟨v2_1, v3_2, v4_3, v5_4⟩ o h k H locs ls hw hl
    have hw : xWd (dC, dI) A s.heap H locs [] := hw
    have hl : lv_has ls 7 [(1, .int v1), (2, .int v2_1), (3, .int v3_2), (4, .int v4_3), (5, .int v5_4)] := hl
    refine lv_iload hx hb dX2_read_13 (lv_at hl 4 rfl) ?_
    refine lv_if_lt (tgt := 86) hx hb dX2_read_15 (by decide) (fun b1 => ?_) (fun b1 => ?_)
    · replace h := xb_tt b1 h
      obtain rfl := Option.some.inj h
      exact k _ _ _ hw (lv_sub hl [1, 3] rfl)
    · replace h := xb_ff b1 h
      refine lv_iload_n hx hb dX2_read_18 rfl (lv_at hl 1 rfl) ?_
      refine lv_bipush (v := (10 : Int32)) hx hb dX2_read_19 (by decide) ?_
      refine lv_irem hx hb dX2_read_21 (by decide) ?_
      refine lv_istore (lv' := [(6, .int (v2_1 - v2_1 / (10 : Int32) * (10 : Int32))), (1, .int v1), (2, .int v2_1), (3, .int v3_2), (4, .int v4_3), (5, .int v5_4)]) hx hb dX2_read_22 hl (by decide) rfl (fun ls hl => ?_)
      refine lv_iload_n hx hb dX2_read_24 rfl (lv_at hl 2 rfl) ?_
      refine lv_bipush (v := (10 : Int32)) hx hb dX2_read_25 (by decide) ?_
      refine lv_idiv hx hb dX2_read_27 (by decide) ?_
      refine lv_istore_n (lv' := [(2, .int (v2_1 / (10 : Int32))), (6, .int (v2_1 - v2_1 / (10 : Int32) * (10 : Int32))), (1, .int v1), (3, .int v3_2), (4, .int v4_3), (5, .int v5_4)]) hx hb dX2_read_28 rfl hl (by decide) rfl (fun ls hl => ?_)
      refine lv_iload hx hb dX2_read_29 (lv_at hl 1 rfl) ?_
      refine lv_if_lt (tgt := 49) hx hb dX2_read_31 (by decide) (fun b2 => ?_) (fun b2 => ?_)
      · replace h := xb_tt b2 h
        refine lv_iconst (v := (-1 : Int32)) hx hb dX2_read_49 (by decide) ?_
        obtain rfl := Option.some.inj h
        exact k _ _ hw _ _ dX2_read_50
      · replace h := xb_ff b2 h
        refine lv_iload hx hb dX2_read_34 (lv_at hl 1 rfl) ?_
        refine lv_iload_n hx hb dX2_read_36 rfl (lv_at hl 2 rfl) ?_
        refine lv_icmp_ge (tgt := 49) hx hb dX2_read_37 (by decide) (fun b3 => ?_) (fun b3 => ?_)
        · replace h := xb_tt b3 h
          refine lv_iconst (v := (-1 : Int32)) hx hb dX2_read_49 (by decide) ?_
          obtain rfl := Option.some.inj h
          exact k _ _ hw _ _ dX2_read_50
        · replace h := xb_ff b3 h
          refine lv_iload_n hx hb dX2_read_40 rfl (lv_at hl 3 rfl) ?_
          refine lv_iload hx hb dX2_read_41 (lv_at hl 1 rfl) ?_
          refine lv_ishr hx hb dX2_read_43 ?_
          refine lv_iconst (v := (1 : Int32)) hx hb dX2_read_44 (by decide) ?_
          refine lv_iand hx hb dX2_read_45 ?_
          refine lv_if_eq (tgt := 51) hx hb dX2_read_46 (by decide) (fun b4 => ?_) (fun b4 => ?_)
          · replace h := xb_tt b4 h
            refine lv_iload_n hx hb dX2_read_51 rfl (lv_at hl 3 rfl) ?_
            refine lv_iconst (v := (1 : Int32)) hx hb dX2_read_52 (by decide) ?_
            refine lv_iload hx hb dX2_read_53 (lv_at hl 1 rfl) ?_
            refine lv_ishl hx hb dX2_read_55 ?_
            refine lv_ior hx hb dX2_read_56 ?_
            refine lv_istore_n (lv' := [(3, .int (v3_2 ||| ((1 : Int32) <<< ((v2_1 - v2_1 / (10 : Int32) * (10 : Int32)) &&& 31)))), (2, .int (v2_1 / (10 : Int32))), (6, .int (v2_1 - v2_1 / (10 : Int32) * (10 : Int32))), (1, .int v1), (4, .int v4_3), (5, .int v5_4)]) hx hb dX2_read_57 rfl hl (by decide) rfl (fun ls hl => ?_)
            refine lv_iload hx hb dX2_read_58 (lv_at hl 4 rfl) ?_
            refine lv_bipush (v := (7 : Int32)) hx hb dX2_read_60 (by decide) ?_
            refine lv_iconst (v := (3 : Int32)) hx hb dX2_read_62 (by decide) ?_
            refine lv_iload hx hb dX2_read_63 (lv_at hl 5 rfl) ?_
            refine lv_imul hx hb dX2_read_65 ?_
            refine lv_ishl hx hb dX2_read_66 ?_
            refine lv_iconst (v := (-1 : Int32)) hx hb dX2_read_67 (by decide) ?_
            refine lv_ixor hx hb dX2_read_68 ?_
            refine lv_iand hx hb dX2_read_69 ?_
            refine lv_iload hx hb dX2_read_70 (lv_at hl 2 rfl) ?_
            refine lv_iconst (v := (3 : Int32)) hx hb dX2_read_72 (by decide) ?_
            refine lv_iload hx hb dX2_read_73 (lv_at hl 5 rfl) ?_
            refine lv_imul hx hb dX2_read_75 ?_
            refine lv_ishl hx hb dX2_read_76 ?_
            refine lv_ior hx hb dX2_read_77 ?_
            refine lv_istore (lv' := [(4, .int ((v4_3 &&& (((7 : Int32) <<< (((3 : Int32) * v5_4) &&& 31)) ^^^ (-1 : Int32))) ||| ((v2_1 - v2_1 / (10 : Int32) * (10 : Int32)) <<< (((3 : Int32) * v5_4) &&& 31)))), (3, .int (v3_2 ||| ((1 : Int32) <<< ((v2_1 - v2_1 / (10 : Int32) * (10 : Int32)) &&& 31)))), (2, .int (v2_1 / (10 : Int32))), (6, .int (v2_1 - v2_1 / (10 : Int32) * (10 : Int32))), (1, .int v1), (5, .int v5_4)]) hx hb dX2_read_78 hl (by decide) rfl (fun ls hl => ?_)
            refine lv_iinc (v := (v5_4 + (-1 : Int32))) (lv' := [(5, .int (v5_4 + (-1 : Int32))), (4, .int ((v4_3 &&& (((7 : Int32) <<< (((3 : Int32) * v5_4) &&& 31)) ^^^ (-1 : Int32))) ||| ((v2_1 - v2_1 / (10 : Int32) * (10 : Int32)) <<< (((3 : Int32) * v5_4) &&& 31)))), (3, .int (v3_2 ||| ((1 : Int32) <<< ((v2_1 - v2_1 / (10 : Int32) * (10 : Int32)) &&& 31)))), (2, .int (v2_1 / (10 : Int32))), (6, .int (v2_1 - v2_1 / (10 : Int32) * (10 : Int32))), (1, .int v1)]) hx hb dX2_read_80 hl (k := 5) rfl (congrArg (fun q => v5_4 + q) (by decide)) (by decide) rfl (fun ls hl => ?_)
            refine lv_goto (tgt := 13) hx hb dX2_read_83 (by decide) ?_
            obtain rfl := Option.some.inj h
            exact k _ _ _ hw (lv_sub hl [5, 3, 2, 1, 0] rfl)
          · replace h := xb_ff b4 h
            refine lv_iconst (v := (-1 : Int32)) hx hb dX2_read_49 (by decide) ?_
            obtain rfl := Option.some.inj h
            exact k _ _ hw _ _ dX2_read_50
  · rcases z with z | z
    · obtain ⟨v2_5, v4_6⟩ := z
      intro H locs ls hw hl
      have hw : xWd (dC, dI) A s.heap H locs [] := hw
      have hl : lv_has ls 7 [(2, .int v2_5), (4, .int v4_6)] := hl
      refine lv_iload_n hx hb dX2_read_86 rfl (lv_at hl 0 rfl) ?_
      refine lv_if_ne (tgt := 95) hx hb dX2_read_87 (by decide) (fun b5 => ?_) (fun b5 => ?_)
      · replace h := xb_ff b5 h
        refine lv_iconst (v := (-1 : Int32)) hx hb dX2_read_95 (by decide) ?_
        obtain rfl := Option.some.inj h
        exact x_reti C hQ hA hw dX2_read_96
      · replace h := xb_tt b5 h
        refine lv_iload hx hb dX2_read_90 (lv_at hl 1 rfl) ?_
        refine lv_goto (tgt := 96) hx hb dX2_read_92 (by decide) ?_
        obtain rfl := Option.some.inj h
        exact x_reti C hQ hA hw dX2_read_96
    · obtain rfl := Option.some.inj h
      intro H locs hw pc ls hd
      exact x_reti C hQ hA hw hd
noncomputable def f_X2_write_L1 (v1 : Int32) (v0 : Int32) (z : Int32 × Int32) : Option ((Int32 × Int32) ⊕ (Int32)) := match z with
  | (v2_1, v3_2) => xb (v1 ≤ v3_2) (some (.inr v2_1)) (xn (f_X2_at v0 v3_2) (fun (r_4 : Int32) => some (.inl ((((10 : Int32) * v2_1) + r_4), (v3_2 + (1 : Int32))))))
noncomputable def f_X2_write (v0 : Int32) (v1 : Int32) : Option (Int32) := xn (xL (f_X2_write_L1 v1 v0) ((0 : Int32), (0 : Int32))) (fun (v2_3 : Int32) => some v2_3)
set_option maxHeartbeats 4000000 in
set_option maxRecDepth 100000 in
theorem c_X2_write (l : Launch) (dC : Nat → ClassId) (dI : Nat → Nat → Nat) (cI cZ cB cO : ClassId) (v0 : Int32) (v1 : Int32) (o : Int32) (h : f_X2_write v0 v1 = some o) (sz : Nat) : Met l yX2_write (xW yX2_write cX2_write 4 (some .int)) { frames := 1, cells := 0, slots := 0, locals := 21 } (xPre dC dI (xT cI cZ cB cO) [.int v0, .int v1] [] sz) (xQi dC dI (xT cI cZ cB cO) o [] [] sz) 0 0 (va_A [] sz) := by
  refine x_met (by decide) (Nat.le_of_ble_eq_true rfl) ?_
  intro p e s m args below meth c R Q A hR hsz hA hQ hin C hw ls hl
  have hx := C.1
  have hb := C.2.1
  have hown := C.2.2.2.1
  have htb := C.2.2.2.2.1
  have hl : lv_has ls 4 [(0, .int v0), (1, .int v1)] := hl
  refine lv_iconst (v := (0 : Int32)) hx hb dX2_write_0 (by decide) ?_
  refine lv_istore_n (lv' := [(2, .int (0 : Int32)), (0, .int v0), (1, .int v1)]) hx hb dX2_write_1 rfl hl (by decide) rfl (fun ls hl => ?_)
  refine lv_iconst (v := (0 : Int32)) hx hb dX2_write_2 (by decide) ?_
  refine lv_istore_n (lv' := [(3, .int (0 : Int32)), (2, .int (0 : Int32)), (0, .int v0), (1, .int v1)]) hx hb dX2_write_3 rfl hl (by decide) rfl (fun ls hl => ?_)
  obtain ⟨z, hr, h⟩ := xn_i h
  refine xL_w (fun (z : Int32 × Int32) => ∀ (H : Heap) (locs : List Loc) (ls : Array Slot), xWd (dC, dI) A s.heap H locs [] → lv_has ls 4 [(0, .int v0), (1, .int v1), (2, .int z.1), (3, .int z.2)] → W p l e R s m args below meth c H locs 0 0 Q (F0 m 4 ls [])) (fun (z : Int32) => ∀ (H : Heap) (locs : List Loc) (ls : Array Slot), xWd (dC, dI) A s.heap H locs [] → lv_has ls 4 [(2, .int z)] → W p l e R s m args below meth c H locs 0 0 Q (F0 m 26 ls [])) ?_ hr ?_ _ _ _ hw (lv_sub hl [2, 3, 1, 0] rfl)
  · rintro ⟨v2_1, v3_2⟩ o h k H locs ls hw hl
    have hw : xWd (dC, dI) A s.heap H locs [] := hw
    have hl : lv_has ls 4 [(0, .int v0), (1, .int v1), (2, .int v2_1), (3, .int v3_2)] := hl
    refine lv_iload_n hx hb dX2_write_4 rfl (lv_at hl 3 rfl) ?_
    refine lv_iload_n hx hb dX2_write_5 rfl (lv_at hl 1 rfl) ?_
    refine lv_icmp_ge (tgt := 26) hx hb dX2_write_6 (by decide) (fun b1 => ?_) (fun b1 => ?_)
    · replace h := xb_tt b1 h
      obtain rfl := Option.some.inj h
      exact k _ _ _ hw (lv_sub hl [2] rfl)
    · replace h := xb_ff b1 h
      refine lv_bipush (v := (10 : Int32)) hx hb dX2_write_9 (by decide) ?_
      refine lv_iload_n hx hb dX2_write_11 rfl (lv_at hl 2 rfl) ?_
      refine lv_imul hx hb dX2_write_12 ?_
      refine lv_iload_n hx hb dX2_write_13 rfl (lv_at hl 0 rfl) ?_
      refine lv_iload_n hx hb dX2_write_14 rfl (lv_at hl 3 rfl) ?_
      obtain ⟨r_4, q2, h⟩ := xn_i h
      refine x_callSi (As := [.int v0, .int v3_2]) (rest := [.int ((10 : Int32) * v2_1)]) C hw gc_X2_12 ds_X2_at (by rw [hR]; exact Nat.le_of_ble_eq_true rfl) (by rw [hR]; exact Nat.le_of_ble_eq_true rfl) rfl rfl (Nat.zero_le _) (Nat.zero_le _) (c_X2_at l dC dI cI cZ cB cO v0 v3_2 _ q2 _) [] [] (by decide) rfl rfl (by decide) (by decide) rfl hl.1 rfl (Nat.le_of_ble_eq_true rfl) dX2_write_15 (fun H locs hw => ?_)
      have hw : xWd (dC, dI) A s.heap H locs [] := hw.sub [] (by decide) rfl
      refine lv_iadd hx hb dX2_write_18 ?_
      refine lv_istore_n (lv' := [(2, .int (((10 : Int32) * v2_1) + r_4)), (0, .int v0), (1, .int v1), (3, .int v3_2)]) hx hb dX2_write_19 rfl hl (by decide) rfl (fun ls hl => ?_)
      refine lv_iinc (v := (v3_2 + (1 : Int32))) (lv' := [(3, .int (v3_2 + (1 : Int32))), (2, .int (((10 : Int32) * v2_1) + r_4)), (0, .int v0), (1, .int v1)]) hx hb dX2_write_20 hl (k := 3) rfl (congrArg (fun q => v3_2 + q) (by decide)) (by decide) rfl (fun ls hl => ?_)
      refine lv_goto (tgt := 4) hx hb dX2_write_23 (by decide) ?_
      obtain rfl := Option.some.inj h
      exact k _ _ _ hw (lv_sub hl [2, 3, 1, 0] rfl)
  · obtain ⟨v2_3, hz⟩ : ∃ q, q = z := ⟨z, rfl⟩
    subst hz
    intro H locs ls hw hl
    have hw : xWd (dC, dI) A s.heap H locs [] := hw
    have hl : lv_has ls 4 [(2, .int v2_3)] := hl
    refine lv_iload_n hx hb dX2_write_26 rfl (lv_at hl 0 rfl) ?_
    obtain rfl := Option.some.inj h
    exact x_reti C hQ hA hw dX2_write_27
noncomputable def f_J6_bitCount_0f7a4 (v0 : Int32) : Option (Int32) := some ((((((((v0 - ((xus v0 (1 : Int32)) &&& (1431655765 : Int32))) &&& (858993459 : Int32)) + ((xus (v0 - ((xus v0 (1 : Int32)) &&& (1431655765 : Int32))) (2 : Int32)) &&& (858993459 : Int32))) + (xus (((v0 - ((xus v0 (1 : Int32)) &&& (1431655765 : Int32))) &&& (858993459 : Int32)) + ((xus (v0 - ((xus v0 (1 : Int32)) &&& (1431655765 : Int32))) (2 : Int32)) &&& (858993459 : Int32))) (4 : Int32))) &&& (252645135 : Int32)) + (xus (((((v0 - ((xus v0 (1 : Int32)) &&& (1431655765 : Int32))) &&& (858993459 : Int32)) + ((xus (v0 - ((xus v0 (1 : Int32)) &&& (1431655765 : Int32))) (2 : Int32)) &&& (858993459 : Int32))) + (xus (((v0 - ((xus v0 (1 : Int32)) &&& (1431655765 : Int32))) &&& (858993459 : Int32)) + ((xus (v0 - ((xus v0 (1 : Int32)) &&& (1431655765 : Int32))) (2 : Int32)) &&& (858993459 : Int32))) (4 : Int32))) &&& (252645135 : Int32)) (8 : Int32))) + (xus ((((((v0 - ((xus v0 (1 : Int32)) &&& (1431655765 : Int32))) &&& (858993459 : Int32)) + ((xus (v0 - ((xus v0 (1 : Int32)) &&& (1431655765 : Int32))) (2 : Int32)) &&& (858993459 : Int32))) + (xus (((v0 - ((xus v0 (1 : Int32)) &&& (1431655765 : Int32))) &&& (858993459 : Int32)) + ((xus (v0 - ((xus v0 (1 : Int32)) &&& (1431655765 : Int32))) (2 : Int32)) &&& (858993459 : Int32))) (4 : Int32))) &&& (252645135 : Int32)) + (xus (((((v0 - ((xus v0 (1 : Int32)) &&& (1431655765 : Int32))) &&& (858993459 : Int32)) + ((xus (v0 - ((xus v0 (1 : Int32)) &&& (1431655765 : Int32))) (2 : Int32)) &&& (858993459 : Int32))) + (xus (((v0 - ((xus v0 (1 : Int32)) &&& (1431655765 : Int32))) &&& (858993459 : Int32)) + ((xus (v0 - ((xus v0 (1 : Int32)) &&& (1431655765 : Int32))) (2 : Int32)) &&& (858993459 : Int32))) (4 : Int32))) &&& (252645135 : Int32)) (8 : Int32))) (16 : Int32))) &&& (63 : Int32))
set_option maxHeartbeats 4000000 in
set_option maxRecDepth 100000 in
theorem c_J6_bitCount_0f7a4 (l : Launch) (dC : Nat → ClassId) (dI : Nat → Nat → Nat) (cI cZ cB cO : ClassId) (v0 : Int32) (o : Int32) (h : f_J6_bitCount_0f7a4 v0 = some o) (sz : Nat) : Met l yJ6_bitCount_0f7a4 (xW yJ6_bitCount_0f7a4 cJ6_bitCount_0f7a4 1 (some .int)) { frames := 0, cells := 0, slots := 0, locals := 0 } (xPre dC dI (xT cI cZ cB cO) [.int v0] [] sz) (xQi dC dI (xT cI cZ cB cO) o [] [] sz) 0 0 (va_A [] sz) := by
  refine x_met (by decide) (Nat.le_of_ble_eq_true rfl) ?_
  intro p e s m args below meth c R Q A hR hsz hA hQ hin C hw ls hl
  have hx := C.1
  have hb := C.2.1
  have hown := C.2.2.2.1
  have htb := C.2.2.2.2.1
  have hl : lv_has ls 1 [(0, .int v0)] := hl
  refine lv_iload_n hx hb dJ6_bitCount_0f7a4_0 rfl (lv_at hl 0 rfl) ?_
  refine lv_iload_n hx hb dJ6_bitCount_0f7a4_1 rfl (lv_at hl 0 rfl) ?_
  refine lv_iconst (v := (1 : Int32)) hx hb dJ6_bitCount_0f7a4_2 (by decide) ?_
  refine lv_iushr (v := (xus v0 (1 : Int32))) hx hb dJ6_bitCount_0f7a4_3 rfl ?_
  refine lv_ldcw hx hb hown (htb _ kI_J6_265) dJ6_bitCount_0f7a4_4 ?_
  refine lv_iand hx hb dJ6_bitCount_0f7a4_7 ?_
  refine lv_isub hx hb dJ6_bitCount_0f7a4_8 ?_
  refine lv_istore_n (lv' := [(0, .int (v0 - ((xus v0 (1 : Int32)) &&& (1431655765 : Int32))))]) hx hb dJ6_bitCount_0f7a4_9 rfl hl (by decide) rfl (fun ls hl => ?_)
  refine lv_iload_n hx hb dJ6_bitCount_0f7a4_10 rfl (lv_at hl 0 rfl) ?_
  refine lv_ldcw hx hb hown (htb _ kI_J6_266) dJ6_bitCount_0f7a4_11 ?_
  refine lv_iand hx hb dJ6_bitCount_0f7a4_14 ?_
  refine lv_iload_n hx hb dJ6_bitCount_0f7a4_15 rfl (lv_at hl 0 rfl) ?_
  refine lv_iconst (v := (2 : Int32)) hx hb dJ6_bitCount_0f7a4_16 (by decide) ?_
  refine lv_iushr (v := (xus (v0 - ((xus v0 (1 : Int32)) &&& (1431655765 : Int32))) (2 : Int32))) hx hb dJ6_bitCount_0f7a4_17 rfl ?_
  refine lv_ldcw hx hb hown (htb _ kI_J6_266) dJ6_bitCount_0f7a4_18 ?_
  refine lv_iand hx hb dJ6_bitCount_0f7a4_21 ?_
  refine lv_iadd hx hb dJ6_bitCount_0f7a4_22 ?_
  refine lv_istore_n (lv' := [(0, .int (((v0 - ((xus v0 (1 : Int32)) &&& (1431655765 : Int32))) &&& (858993459 : Int32)) + ((xus (v0 - ((xus v0 (1 : Int32)) &&& (1431655765 : Int32))) (2 : Int32)) &&& (858993459 : Int32))))]) hx hb dJ6_bitCount_0f7a4_23 rfl hl (by decide) rfl (fun ls hl => ?_)
  refine lv_iload_n hx hb dJ6_bitCount_0f7a4_24 rfl (lv_at hl 0 rfl) ?_
  refine lv_iload_n hx hb dJ6_bitCount_0f7a4_25 rfl (lv_at hl 0 rfl) ?_
  refine lv_iconst (v := (4 : Int32)) hx hb dJ6_bitCount_0f7a4_26 (by decide) ?_
  refine lv_iushr (v := (xus (((v0 - ((xus v0 (1 : Int32)) &&& (1431655765 : Int32))) &&& (858993459 : Int32)) + ((xus (v0 - ((xus v0 (1 : Int32)) &&& (1431655765 : Int32))) (2 : Int32)) &&& (858993459 : Int32))) (4 : Int32))) hx hb dJ6_bitCount_0f7a4_27 rfl ?_
  refine lv_iadd hx hb dJ6_bitCount_0f7a4_28 ?_
  refine lv_ldcw hx hb hown (htb _ kI_J6_267) dJ6_bitCount_0f7a4_29 ?_
  refine lv_iand hx hb dJ6_bitCount_0f7a4_32 ?_
  refine lv_istore_n (lv' := [(0, .int (((((v0 - ((xus v0 (1 : Int32)) &&& (1431655765 : Int32))) &&& (858993459 : Int32)) + ((xus (v0 - ((xus v0 (1 : Int32)) &&& (1431655765 : Int32))) (2 : Int32)) &&& (858993459 : Int32))) + (xus (((v0 - ((xus v0 (1 : Int32)) &&& (1431655765 : Int32))) &&& (858993459 : Int32)) + ((xus (v0 - ((xus v0 (1 : Int32)) &&& (1431655765 : Int32))) (2 : Int32)) &&& (858993459 : Int32))) (4 : Int32))) &&& (252645135 : Int32)))]) hx hb dJ6_bitCount_0f7a4_33 rfl hl (by decide) rfl (fun ls hl => ?_)
  refine lv_iload_n hx hb dJ6_bitCount_0f7a4_34 rfl (lv_at hl 0 rfl) ?_
  refine lv_iload_n hx hb dJ6_bitCount_0f7a4_35 rfl (lv_at hl 0 rfl) ?_
  refine lv_bipush (v := (8 : Int32)) hx hb dJ6_bitCount_0f7a4_36 (by decide) ?_
  refine lv_iushr (v := (xus (((((v0 - ((xus v0 (1 : Int32)) &&& (1431655765 : Int32))) &&& (858993459 : Int32)) + ((xus (v0 - ((xus v0 (1 : Int32)) &&& (1431655765 : Int32))) (2 : Int32)) &&& (858993459 : Int32))) + (xus (((v0 - ((xus v0 (1 : Int32)) &&& (1431655765 : Int32))) &&& (858993459 : Int32)) + ((xus (v0 - ((xus v0 (1 : Int32)) &&& (1431655765 : Int32))) (2 : Int32)) &&& (858993459 : Int32))) (4 : Int32))) &&& (252645135 : Int32)) (8 : Int32))) hx hb dJ6_bitCount_0f7a4_38 rfl ?_
  refine lv_iadd hx hb dJ6_bitCount_0f7a4_39 ?_
  refine lv_istore_n (lv' := [(0, .int ((((((v0 - ((xus v0 (1 : Int32)) &&& (1431655765 : Int32))) &&& (858993459 : Int32)) + ((xus (v0 - ((xus v0 (1 : Int32)) &&& (1431655765 : Int32))) (2 : Int32)) &&& (858993459 : Int32))) + (xus (((v0 - ((xus v0 (1 : Int32)) &&& (1431655765 : Int32))) &&& (858993459 : Int32)) + ((xus (v0 - ((xus v0 (1 : Int32)) &&& (1431655765 : Int32))) (2 : Int32)) &&& (858993459 : Int32))) (4 : Int32))) &&& (252645135 : Int32)) + (xus (((((v0 - ((xus v0 (1 : Int32)) &&& (1431655765 : Int32))) &&& (858993459 : Int32)) + ((xus (v0 - ((xus v0 (1 : Int32)) &&& (1431655765 : Int32))) (2 : Int32)) &&& (858993459 : Int32))) + (xus (((v0 - ((xus v0 (1 : Int32)) &&& (1431655765 : Int32))) &&& (858993459 : Int32)) + ((xus (v0 - ((xus v0 (1 : Int32)) &&& (1431655765 : Int32))) (2 : Int32)) &&& (858993459 : Int32))) (4 : Int32))) &&& (252645135 : Int32)) (8 : Int32))))]) hx hb dJ6_bitCount_0f7a4_40 rfl hl (by decide) rfl (fun ls hl => ?_)
  refine lv_iload_n hx hb dJ6_bitCount_0f7a4_41 rfl (lv_at hl 0 rfl) ?_
  refine lv_iload_n hx hb dJ6_bitCount_0f7a4_42 rfl (lv_at hl 0 rfl) ?_
  refine lv_bipush (v := (16 : Int32)) hx hb dJ6_bitCount_0f7a4_43 (by decide) ?_
  refine lv_iushr (v := (xus ((((((v0 - ((xus v0 (1 : Int32)) &&& (1431655765 : Int32))) &&& (858993459 : Int32)) + ((xus (v0 - ((xus v0 (1 : Int32)) &&& (1431655765 : Int32))) (2 : Int32)) &&& (858993459 : Int32))) + (xus (((v0 - ((xus v0 (1 : Int32)) &&& (1431655765 : Int32))) &&& (858993459 : Int32)) + ((xus (v0 - ((xus v0 (1 : Int32)) &&& (1431655765 : Int32))) (2 : Int32)) &&& (858993459 : Int32))) (4 : Int32))) &&& (252645135 : Int32)) + (xus (((((v0 - ((xus v0 (1 : Int32)) &&& (1431655765 : Int32))) &&& (858993459 : Int32)) + ((xus (v0 - ((xus v0 (1 : Int32)) &&& (1431655765 : Int32))) (2 : Int32)) &&& (858993459 : Int32))) + (xus (((v0 - ((xus v0 (1 : Int32)) &&& (1431655765 : Int32))) &&& (858993459 : Int32)) + ((xus (v0 - ((xus v0 (1 : Int32)) &&& (1431655765 : Int32))) (2 : Int32)) &&& (858993459 : Int32))) (4 : Int32))) &&& (252645135 : Int32)) (8 : Int32))) (16 : Int32))) hx hb dJ6_bitCount_0f7a4_45 rfl ?_
  refine lv_iadd hx hb dJ6_bitCount_0f7a4_46 ?_
  refine lv_istore_n (lv' := [(0, .int (((((((v0 - ((xus v0 (1 : Int32)) &&& (1431655765 : Int32))) &&& (858993459 : Int32)) + ((xus (v0 - ((xus v0 (1 : Int32)) &&& (1431655765 : Int32))) (2 : Int32)) &&& (858993459 : Int32))) + (xus (((v0 - ((xus v0 (1 : Int32)) &&& (1431655765 : Int32))) &&& (858993459 : Int32)) + ((xus (v0 - ((xus v0 (1 : Int32)) &&& (1431655765 : Int32))) (2 : Int32)) &&& (858993459 : Int32))) (4 : Int32))) &&& (252645135 : Int32)) + (xus (((((v0 - ((xus v0 (1 : Int32)) &&& (1431655765 : Int32))) &&& (858993459 : Int32)) + ((xus (v0 - ((xus v0 (1 : Int32)) &&& (1431655765 : Int32))) (2 : Int32)) &&& (858993459 : Int32))) + (xus (((v0 - ((xus v0 (1 : Int32)) &&& (1431655765 : Int32))) &&& (858993459 : Int32)) + ((xus (v0 - ((xus v0 (1 : Int32)) &&& (1431655765 : Int32))) (2 : Int32)) &&& (858993459 : Int32))) (4 : Int32))) &&& (252645135 : Int32)) (8 : Int32))) + (xus ((((((v0 - ((xus v0 (1 : Int32)) &&& (1431655765 : Int32))) &&& (858993459 : Int32)) + ((xus (v0 - ((xus v0 (1 : Int32)) &&& (1431655765 : Int32))) (2 : Int32)) &&& (858993459 : Int32))) + (xus (((v0 - ((xus v0 (1 : Int32)) &&& (1431655765 : Int32))) &&& (858993459 : Int32)) + ((xus (v0 - ((xus v0 (1 : Int32)) &&& (1431655765 : Int32))) (2 : Int32)) &&& (858993459 : Int32))) (4 : Int32))) &&& (252645135 : Int32)) + (xus (((((v0 - ((xus v0 (1 : Int32)) &&& (1431655765 : Int32))) &&& (858993459 : Int32)) + ((xus (v0 - ((xus v0 (1 : Int32)) &&& (1431655765 : Int32))) (2 : Int32)) &&& (858993459 : Int32))) + (xus (((v0 - ((xus v0 (1 : Int32)) &&& (1431655765 : Int32))) &&& (858993459 : Int32)) + ((xus (v0 - ((xus v0 (1 : Int32)) &&& (1431655765 : Int32))) (2 : Int32)) &&& (858993459 : Int32))) (4 : Int32))) &&& (252645135 : Int32)) (8 : Int32))) (16 : Int32))))]) hx hb dJ6_bitCount_0f7a4_47 rfl hl (by decide) rfl (fun ls hl => ?_)
  refine lv_iload_n hx hb dJ6_bitCount_0f7a4_48 rfl (lv_at hl 0 rfl) ?_
  refine lv_bipush (v := (63 : Int32)) hx hb dJ6_bitCount_0f7a4_49 (by decide) ?_
  refine lv_iand hx hb dJ6_bitCount_0f7a4_51 ?_
  obtain rfl := Option.some.inj h
  exact x_reti C hQ hA hw dJ6_bitCount_0f7a4_52
noncomputable def f_J7_fill_53178_L1 (a_n : Nat) (v1 : Int32) (z : (Nat → Int32) × Int32) : Option (((Nat → Int32) × Int32) ⊕ ((Nat → Int32))) := match z with
  | (a_row_1, v2_2) => xb ((nI a_n) ≤ v2_2) (some (.inr a_row_1)) (xk (vp_in v2_2 a_n) (some (.inl ((upd a_row_1 v2_2.toNatClampNeg v1), (v2_2 + (1 : Int32))))))
noncomputable def f_J7_fill_53178 (a_n : Nat) (a_row : (Nat → Int32)) (v1 : Int32) : Option ((Nat → Int32)) := xn (xL (f_J7_fill_53178_L1 a_n v1) (a_row, (0 : Int32))) (fun (a_row_3 : (Nat → Int32)) => some a_row_3)
set_option maxHeartbeats 4000000 in
set_option maxRecDepth 100000 in
theorem c_J7_fill_53178 (l : Launch) (dC : Nat → ClassId) (dI : Nat → Nat → Nat) (cI cZ cB cO : ClassId) (a_h : Nat) (a_n : Nat) (a_row : (Nat → Int32)) (v1 : Int32) (o : (Nat → Int32)) (h : f_J7_fill_53178 a_n a_row v1 = some o) (sz : Nat) : Met l yJ7_fill_53178 (xW yJ7_fill_53178 cJ7_fill_53178 4 none) { frames := 0, cells := 0, slots := 0, locals := 0 } (xPre dC dI (xT cI cZ cB cO) [.ref a_h, .int v1] (wA cI cZ cB cO a_h a_n a_row) sz) (xQv dC dI (xT cI cZ cB cO) (wA cI cZ cB cO a_h a_n a_row) (wA cI cZ cB cO a_h a_n o) sz) 0 0 (va_A (wA cI cZ cB cO a_h a_n a_row) sz) := by
  refine x_met (by decide) (Nat.le_of_ble_eq_true rfl) ?_
  intro p e s m args below meth c R Q A hR hsz hA hQ hin C hw ls hl
  have hx := C.1
  have hb := C.2.1
  have hown := C.2.2.2.1
  have htb := C.2.2.2.2.1
  have hl : lv_has ls 4 [(0, .ref a_h), (1, .int v1)] := hl
  refine lv_iconst (v := (0 : Int32)) hx hb dJ7_fill_53178_0 (by decide) ?_
  refine lv_istore_n (lv' := [(2, .int (0 : Int32)), (0, .ref a_h), (1, .int v1)]) hx hb dJ7_fill_53178_1 rfl hl (by decide) rfl (fun ls hl => ?_)
  refine lv_aload_n hx hb dJ7_fill_53178_2 rfl (lv_at hl 1 rfl) ?_
  refine va_alen (v := nI a_n) hx hb C.2.2.2.2.2.2.2 hw.1 0 0 rfl rfl rfl dJ7_fill_53178_3 ?_
  refine lv_istore_n (lv' := [(3, .int (nI a_n)), (2, .int (0 : Int32)), (0, .ref a_h), (1, .int v1)]) hx hb dJ7_fill_53178_4 rfl hl (by decide) rfl (fun ls hl => ?_)
  obtain ⟨z, hr, h⟩ := xn_i h
  refine xL_w (fun (z : (Nat → Int32) × Int32) => ∀ (H : Heap) (locs : List Loc) (ls : Array Slot), xWd (dC, dI) A s.heap H locs (wA cI cZ cB cO a_h a_n z.1) → lv_has ls 4 [(0, .ref a_h), (1, .int v1), (2, .int z.2), (3, .int (nI a_n))] → W p l e R s m args below meth c H locs 0 0 Q (F0 m 5 ls [])) (fun (z : (Nat → Int32)) => ∀ (H : Heap) (locs : List Loc) (ls : Array Slot), xWd (dC, dI) A s.heap H locs (wA cI cZ cB cO a_h a_n z) → lv_has ls 4 [] → W p l e R s m args below meth c H locs 0 0 Q (F0 m 20 ls [])) ?_ hr ?_ _ _ _ hw (lv_sub hl [2, 3, 1, 0] rfl)
  · rintro ⟨a_row_1, v2_2⟩ o h k H locs ls hw hl
    have hw : xWd (dC, dI) A s.heap H locs (wA cI cZ cB cO a_h a_n a_row_1) := hw
    have hl : lv_has ls 4 [(0, .ref a_h), (1, .int v1), (2, .int v2_2), (3, .int (nI a_n))] := hl
    refine lv_iload_n hx hb dJ7_fill_53178_5 rfl (lv_at hl 2 rfl) ?_
    refine lv_iload_n hx hb dJ7_fill_53178_6 rfl (lv_at hl 3 rfl) ?_
    refine lv_icmp_ge (tgt := 20) hx hb dJ7_fill_53178_7 (by decide) (fun b1 => ?_) (fun b1 => ?_)
    · replace h := xb_tt b1 h
      obtain rfl := Option.some.inj h
      exact k _ _ _ hw (lv_sub hl [] rfl)
    · replace h := xb_ff b1 h
      refine lv_aload_n hx hb dJ7_fill_53178_10 rfl (lv_at hl 0 rfl) ?_
      refine lv_iload_n hx hb dJ7_fill_53178_11 rfl (lv_at hl 2 rfl) ?_
      refine lv_iload_n hx hb dJ7_fill_53178_12 rfl (lv_at hl 1 rfl) ?_
      obtain ⟨b2, h⟩ := xk_i h
      refine x_iast C hw 0 0 rfl rfl b2 dJ7_fill_53178_13 (fun H locs hw => ?_)
      have hw : xWd (dC, dI) A s.heap H locs (wA cI cZ cB cO a_h a_n (upd a_row_1 v2_2.toNatClampNeg v1)) := hw
      refine lv_iinc (v := (v2_2 + (1 : Int32))) (lv' := [(2, .int (v2_2 + (1 : Int32))), (0, .ref a_h), (1, .int v1), (3, .int (nI a_n))]) hx hb dJ7_fill_53178_14 hl (k := 2) rfl (congrArg (fun q => v2_2 + q) (by decide)) (by decide) rfl (fun ls hl => ?_)
      refine lv_goto (tgt := 5) hx hb dJ7_fill_53178_17 (by decide) ?_
      obtain rfl := Option.some.inj h
      exact k _ _ _ hw (lv_sub hl [1, 2, 0, 3] rfl)
  · obtain ⟨a_row_3, hz⟩ : ∃ q, q = z := ⟨z, rfl⟩
    subst hz
    intro H locs ls hw hl
    have hw : xWd (dC, dI) A s.heap H locs (wA cI cZ cB cO a_h a_n a_row_3) := hw
    have hl : lv_has ls 4 [] := hl
    obtain rfl := Option.some.inj h
    exact x_retv C hQ hA hw dJ7_fill_53178_20
noncomputable def f_X4_start (s_n : Int32) (s_count : Int32) (v1 : Int32) : Option (Int32 × Int32) := some (v1, (0 : Int32))
set_option maxHeartbeats 4000000 in
set_option maxRecDepth 100000 in
theorem c_X4_start (l : Launch) (dC : Nat → ClassId) (dI : Nat → Nat → Nat) (cI cZ cB cO : ClassId) (s_h : Nat) (s_p : Nat → Nat) (s_n : Int32) (s_count : Int32) (s_generators : (Nat → Int32)) (v1 : Int32) (o : Int32 × Int32) (h : f_X4_start s_n s_count v1 = some o) (sz : Nat) : Met l yX4_start (xW yX4_start cX4_start 2 none) { frames := 0, cells := 0, slots := 0, locals := 0 } (xPre dC dI (xT cI cZ cB cO) [.ref s_h, .int v1] (wS cI cZ cB cO s_h s_p s_n s_count s_generators) sz) (xQv dC dI (xT cI cZ cB cO) (wS cI cZ cB cO s_h s_p s_n s_count s_generators) (wS cI cZ cB cO s_h s_p o.1 o.2 s_generators) sz) 0 0 (va_A (wS cI cZ cB cO s_h s_p s_n s_count s_generators) sz) := by
  refine x_met (by decide) (Nat.le_of_ble_eq_true rfl) ?_
  intro p e s m args below meth c R Q A hR hsz hA hQ hin C hw ls hl
  have hx := C.1
  have hb := C.2.1
  have hown := C.2.2.2.1
  have htb := C.2.2.2.2.1
  have hl : lv_has ls 2 [(0, .ref s_h), (1, .int v1)] := hl
  refine lv_aload_n hx hb dX4_start_0 rfl (lv_at hl 0 rfl) ?_
  refine lv_iload_n hx hb dX4_start_1 rfl (lv_at hl 1 rfl) ?_
  refine x_put (ci := 3) C hw inX4 tyX4 tyX4_ok nmX4 rfl 0 (by decide) lkF_X4_9 rfl rfl 0 rfl rfl rfl (Nat.le_of_ble_eq_true rfl) dX4_start_2 (fun H locs hw => ?_)
  have hw : xWd (dC, dI) A s.heap H locs (wS cI cZ cB cO s_h s_p v1 s_count s_generators) := hw
  refine lv_aload_n hx hb dX4_start_5 rfl (lv_at hl 0 rfl) ?_
  refine lv_iconst (v := (0 : Int32)) hx hb dX4_start_6 (by decide) ?_
  refine x_put (ci := 3) C hw inX4 tyX4 tyX4_ok nmX4 rfl 1 (by decide) lkF_X4_15 rfl rfl 0 rfl rfl rfl (Nat.le_of_ble_eq_true rfl) dX4_start_7 (fun H locs hw => ?_)
  have hw : xWd (dC, dI) A s.heap H locs (wS cI cZ cB cO s_h s_p v1 (0 : Int32) s_generators) := hw
  obtain rfl := Option.some.inj h
  exact x_retv C hQ hA hw dX4_start_10
noncomputable def f_X4_generator (s_count : Int32) (s_generators : (Nat → Int32)) (v1 : Int32) : Option (Int32) := xb (v1 < 0) (some (16434824 : Int32)) (xb (s_count ≤ v1) (some (16434824 : Int32)) (xk (vp_in v1 3) (some (s_generators v1.toNatClampNeg))))
set_option maxHeartbeats 4000000 in
set_option maxRecDepth 100000 in
theorem c_X4_generator (l : Launch) (dC : Nat → ClassId) (dI : Nat → Nat → Nat) (cI cZ cB cO : ClassId) (s_h : Nat) (s_p : Nat → Nat) (s_n : Int32) (s_count : Int32) (s_generators : (Nat → Int32)) (v1 : Int32) (o : Int32) (h : f_X4_generator s_count s_generators v1 = some o) (sz : Nat) : Met l yX4_generator (xW yX4_generator cX4_generator 2 (some .int)) { frames := 0, cells := 0, slots := 0, locals := 0 } (xPre dC dI (xT cI cZ cB cO) [.ref s_h, .int v1] (wS cI cZ cB cO s_h s_p s_n s_count s_generators) sz) (xQi dC dI (xT cI cZ cB cO) o (wS cI cZ cB cO s_h s_p s_n s_count s_generators) (wS cI cZ cB cO s_h s_p s_n s_count s_generators) sz) 0 0 (va_A (wS cI cZ cB cO s_h s_p s_n s_count s_generators) sz) := by
  refine x_met (by decide) (Nat.le_of_ble_eq_true rfl) ?_
  intro p e s m args below meth c R Q A hR hsz hA hQ hin C hw ls hl
  have hx := C.1
  have hb := C.2.1
  have hown := C.2.2.2.1
  have htb := C.2.2.2.2.1
  have hl : lv_has ls 2 [(0, .ref s_h), (1, .int v1)] := hl
  refine lv_iload_n hx hb dX4_generator_0 rfl (lv_at hl 1 rfl) ?_
  refine lv_if_lt (tgt := 21) hx hb dX4_generator_1 (by decide) (fun b1 => ?_) (fun b1 => ?_)
  · replace h := xb_tt b1 h
    refine lv_ldc hx hb hown (htb _ kI_X4_24) dX4_generator_21 ?_
    obtain rfl := Option.some.inj h
    exact x_reti C hQ hA hw dX4_generator_23
  · replace h := xb_ff b1 h
    refine lv_iload_n hx hb dX4_generator_4 rfl (lv_at hl 1 rfl) ?_
    refine lv_aload_n hx hb dX4_generator_5 rfl (lv_at hl 0 rfl) ?_
    refine x_get (ci := 3) C hw inX4 rfl 1 (by decide) lkF_X4_15 rfl 0 rfl rfl dX4_generator_6 ?_
    refine lv_icmp_ge (tgt := 21) hx hb dX4_generator_9 (by decide) (fun b2 => ?_) (fun b2 => ?_)
    · replace h := xb_tt b2 h
      refine lv_ldc hx hb hown (htb _ kI_X4_24) dX4_generator_21 ?_
      obtain rfl := Option.some.inj h
      exact x_reti C hQ hA hw dX4_generator_23
    · replace h := xb_ff b2 h
      refine lv_aload_n hx hb dX4_generator_12 rfl (lv_at hl 0 rfl) ?_
      refine x_get (ci := 3) C hw inX4 rfl 2 (by decide) lkF_X4_18 rfl 0 rfl rfl dX4_generator_13 ?_
      refine lv_iload_n hx hb dX4_generator_16 rfl (lv_at hl 1 rfl) ?_
      obtain ⟨b3, h⟩ := xk_i h
      refine x_iald C hw 1 0 rfl rfl b3 dX4_generator_17 ?_
      refine lv_goto (tgt := 23) hx hb dX4_generator_18 (by decide) ?_
      obtain rfl := Option.some.inj h
      exact x_reti C hQ hA hw dX4_generator_23
noncomputable def f_X4_adds (s_count : Int32) (s_generators : (Nat → Int32)) (v1 : Int32) : Option (Int32 × (Nat → Int32) × Int32) := xb (s_count < (3 : Int32)) (xk (vp_in s_count 3) (some ((s_count + (1 : Int32)), (upd s_generators s_count.toNatClampNeg v1), (1 : Int32)))) (some (s_count, s_generators, (0 : Int32)))
set_option maxHeartbeats 4000000 in
set_option maxRecDepth 100000 in
theorem c_X4_adds (l : Launch) (dC : Nat → ClassId) (dI : Nat → Nat → Nat) (cI cZ cB cO : ClassId) (s_h : Nat) (s_p : Nat → Nat) (s_n : Int32) (s_count : Int32) (s_generators : (Nat → Int32)) (v1 : Int32) (o : Int32 × (Nat → Int32) × Int32) (h : f_X4_adds s_count s_generators v1 = some o) (sz : Nat) : Met l yX4_adds (xW yX4_adds cX4_adds 2 (some .boolean)) { frames := 0, cells := 0, slots := 0, locals := 0 } (xPre dC dI (xT cI cZ cB cO) [.ref s_h, .int v1] (wS cI cZ cB cO s_h s_p s_n s_count s_generators) sz) (xQi dC dI (xT cI cZ cB cO) o.2.2 (wS cI cZ cB cO s_h s_p s_n s_count s_generators) (wS cI cZ cB cO s_h s_p s_n o.1 o.2.1) sz) 0 0 (va_A (wS cI cZ cB cO s_h s_p s_n s_count s_generators) sz) := by
  refine x_met (by decide) (Nat.le_of_ble_eq_true rfl) ?_
  intro p e s m args below meth c R Q A hR hsz hA hQ hin C hw ls hl
  have hx := C.1
  have hb := C.2.1
  have hown := C.2.2.2.1
  have htb := C.2.2.2.2.1
  have hl : lv_has ls 2 [(0, .ref s_h), (1, .int v1)] := hl
  refine lv_aload_n hx hb dX4_adds_0 rfl (lv_at hl 0 rfl) ?_
  refine x_get (ci := 3) C hw inX4 rfl 1 (by decide) lkF_X4_15 rfl 0 rfl rfl dX4_adds_1 ?_
  refine lv_iconst (v := (3 : Int32)) hx hb dX4_adds_4 (by decide) ?_
  refine lv_icmp_lt (tgt := 10) hx hb dX4_adds_5 (by decide) (fun b1 => ?_) (fun b1 => ?_)
  · replace h := xb_tt b1 h
    refine lv_aload_n hx hb dX4_adds_10 rfl (lv_at hl 0 rfl) ?_
    refine x_get (ci := 3) C hw inX4 rfl 2 (by decide) lkF_X4_18 rfl 0 rfl rfl dX4_adds_11 ?_
    refine lv_aload_n hx hb dX4_adds_14 rfl (lv_at hl 0 rfl) ?_
    refine x_get (ci := 3) C hw inX4 rfl 1 (by decide) lkF_X4_15 rfl 0 rfl rfl dX4_adds_15 ?_
    refine lv_iload_n hx hb dX4_adds_18 rfl (lv_at hl 1 rfl) ?_
    obtain ⟨b2, h⟩ := xk_i h
    refine x_iast C hw 1 0 rfl rfl b2 dX4_adds_19 (fun H locs hw => ?_)
    have hw : xWd (dC, dI) A s.heap H locs (wS cI cZ cB cO s_h s_p s_n s_count (upd s_generators s_count.toNatClampNeg v1)) := hw
    refine lv_aload_n hx hb dX4_adds_20 rfl (lv_at hl 0 rfl) ?_
    refine lv_dup hx hb dX4_adds_21 rfl ?_
    refine x_get (ci := 3) C hw inX4 rfl 1 (by decide) lkF_X4_15 rfl 0 rfl rfl dX4_adds_22 ?_
    refine lv_iconst (v := (1 : Int32)) hx hb dX4_adds_25 (by decide) ?_
    refine lv_iadd hx hb dX4_adds_26 ?_
    refine x_put (ci := 3) C hw inX4 tyX4 tyX4_ok nmX4 rfl 1 (by decide) lkF_X4_15 rfl rfl 0 rfl rfl rfl (Nat.le_of_ble_eq_true rfl) dX4_adds_27 (fun H locs hw => ?_)
    have hw : xWd (dC, dI) A s.heap H locs (wS cI cZ cB cO s_h s_p s_n (s_count + (1 : Int32)) (upd s_generators s_count.toNatClampNeg v1)) := hw
    refine lv_iconst (v := (1 : Int32)) hx hb dX4_adds_30 (by decide) ?_
    obtain rfl := Option.some.inj h
    exact x_retz C hQ hA hw (by decide) dX4_adds_31
  · replace h := xb_ff b1 h
    refine lv_iconst (v := (0 : Int32)) hx hb dX4_adds_8 (by decide) ?_
    obtain rfl := Option.some.inj h
    exact x_retz C hQ hA hw (by decide) dX4_adds_9
noncomputable def f_X4_loses_L1 (s_count : Int32) (z : (Nat → Int32) × Int32) : Option (((Nat → Int32) × Int32) ⊕ ((Nat → Int32))) := match z with
  | (s_generators_1, v2_2) => xb (s_count ≤ v2_2) (some (.inr s_generators_1)) (xk (vp_in v2_2 3) (xk (vp_in (v2_2 - (1 : Int32)) 3) (some (.inl ((upd s_generators_1 (v2_2 - (1 : Int32)).toNatClampNeg (s_generators_1 v2_2.toNatClampNeg)), (v2_2 + (1 : Int32)))))))
noncomputable def f_X4_loses (s_count : Int32) (s_generators : (Nat → Int32)) (v1 : Int32) : Option (Int32 × (Nat → Int32) × Int32) := xb (v1 < 0) (some (s_count, s_generators, (0 : Int32))) (xb (v1 < s_count) (xn (xL (f_X4_loses_L1 s_count) (s_generators, (v1 + (1 : Int32)))) (fun (s_generators_3 : (Nat → Int32)) => some ((s_count - (1 : Int32)), s_generators_3, (1 : Int32)))) (some (s_count, s_generators, (0 : Int32))))
set_option maxHeartbeats 4000000 in
set_option maxRecDepth 100000 in
theorem c_X4_loses (l : Launch) (dC : Nat → ClassId) (dI : Nat → Nat → Nat) (cI cZ cB cO : ClassId) (s_h : Nat) (s_p : Nat → Nat) (s_n : Int32) (s_count : Int32) (s_generators : (Nat → Int32)) (v1 : Int32) (o : Int32 × (Nat → Int32) × Int32) (h : f_X4_loses s_count s_generators v1 = some o) (sz : Nat) : Met l yX4_loses (xW yX4_loses cX4_loses 3 (some .boolean)) { frames := 0, cells := 0, slots := 0, locals := 0 } (xPre dC dI (xT cI cZ cB cO) [.ref s_h, .int v1] (wS cI cZ cB cO s_h s_p s_n s_count s_generators) sz) (xQi dC dI (xT cI cZ cB cO) o.2.2 (wS cI cZ cB cO s_h s_p s_n s_count s_generators) (wS cI cZ cB cO s_h s_p s_n o.1 o.2.1) sz) 0 0 (va_A (wS cI cZ cB cO s_h s_p s_n s_count s_generators) sz) := by
  refine x_met (by decide) (Nat.le_of_ble_eq_true rfl) ?_
  intro p e s m args below meth c R Q A hR hsz hA hQ hin C hw ls hl
  have hx := C.1
  have hb := C.2.1
  have hown := C.2.2.2.1
  have htb := C.2.2.2.2.1
  have hl : lv_has ls 3 [(0, .ref s_h), (1, .int v1)] := hl
  refine lv_iload_n hx hb dX4_loses_0 rfl (lv_at hl 1 rfl) ?_
  refine lv_if_lt (tgt := 12) hx hb dX4_loses_1 (by decide) (fun b1 => ?_) (fun b1 => ?_)
  · replace h := xb_tt b1 h
    refine lv_iconst (v := (0 : Int32)) hx hb dX4_loses_12 (by decide) ?_
    obtain rfl := Option.some.inj h
    exact x_retz C hQ hA hw (by decide) dX4_loses_13
  · replace h := xb_ff b1 h
    refine lv_iload_n hx hb dX4_loses_4 rfl (lv_at hl 1 rfl) ?_
    refine lv_aload_n hx hb dX4_loses_5 rfl (lv_at hl 0 rfl) ?_
    refine x_get (ci := 3) C hw inX4 rfl 1 (by decide) lkF_X4_15 rfl 0 rfl rfl dX4_loses_6 ?_
    refine lv_icmp_lt (tgt := 14) hx hb dX4_loses_9 (by decide) (fun b2 => ?_) (fun b2 => ?_)
    · replace h := xb_tt b2 h
      refine lv_iload_n hx hb dX4_loses_14 rfl (lv_at hl 1 rfl) ?_
      refine lv_iconst (v := (1 : Int32)) hx hb dX4_loses_15 (by decide) ?_
      refine lv_iadd hx hb dX4_loses_16 ?_
      refine lv_istore_n (lv' := [(2, .int (v1 + (1 : Int32))), (0, .ref s_h), (1, .int v1)]) hx hb dX4_loses_17 rfl hl (by decide) rfl (fun ls hl => ?_)
      obtain ⟨z, hr, h⟩ := xn_i h
      refine xL_w (fun (z : (Nat → Int32) × Int32) => ∀ (H : Heap) (locs : List Loc) (ls : Array Slot), xWd (dC, dI) A s.heap H locs (wS cI cZ cB cO s_h s_p s_n s_count z.1) → lv_has ls 3 [(0, .ref s_h), (2, .int z.2)] → W p l e R s m args below meth c H locs 0 0 Q (F0 m 18 ls [])) (fun (z : (Nat → Int32)) => ∀ (H : Heap) (locs : List Loc) (ls : Array Slot), xWd (dC, dI) A s.heap H locs (wS cI cZ cB cO s_h s_p s_n s_count z) → lv_has ls 3 [(0, .ref s_h)] → W p l e R s m args below meth c H locs 0 0 Q (F0 m 46 ls [])) ?_ hr ?_ _ _ _ hw (lv_sub hl [1, 0] rfl)
      · rintro ⟨s_generators_1, v2_2⟩ o h k H locs ls hw hl
        have hw : xWd (dC, dI) A s.heap H locs (wS cI cZ cB cO s_h s_p s_n s_count s_generators_1) := hw
        have hl : lv_has ls 3 [(0, .ref s_h), (2, .int v2_2)] := hl
        refine lv_iload_n hx hb dX4_loses_18 rfl (lv_at hl 1 rfl) ?_
        refine lv_aload_n hx hb dX4_loses_19 rfl (lv_at hl 0 rfl) ?_
        refine x_get (ci := 3) C hw inX4 rfl 1 (by decide) lkF_X4_15 rfl 0 rfl rfl dX4_loses_20 ?_
        refine lv_icmp_ge (tgt := 46) hx hb dX4_loses_23 (by decide) (fun b3 => ?_) (fun b3 => ?_)
        · replace h := xb_tt b3 h
          obtain rfl := Option.some.inj h
          exact k _ _ _ hw (lv_sub hl [0] rfl)
        · replace h := xb_ff b3 h
          refine lv_aload_n hx hb dX4_loses_26 rfl (lv_at hl 0 rfl) ?_
          refine x_get (ci := 3) C hw inX4 rfl 2 (by decide) lkF_X4_18 rfl 0 rfl rfl dX4_loses_27 ?_
          refine lv_iload_n hx hb dX4_loses_30 rfl (lv_at hl 1 rfl) ?_
          refine lv_iconst (v := (1 : Int32)) hx hb dX4_loses_31 (by decide) ?_
          refine lv_isub hx hb dX4_loses_32 ?_
          refine lv_aload_n hx hb dX4_loses_33 rfl (lv_at hl 0 rfl) ?_
          refine x_get (ci := 3) C hw inX4 rfl 2 (by decide) lkF_X4_18 rfl 0 rfl rfl dX4_loses_34 ?_
          refine lv_iload_n hx hb dX4_loses_37 rfl (lv_at hl 1 rfl) ?_
          obtain ⟨b4, h⟩ := xk_i h
          refine x_iald C hw 1 0 rfl rfl b4 dX4_loses_38 ?_
          obtain ⟨b5, h⟩ := xk_i h
          refine x_iast C hw 1 0 rfl rfl b5 dX4_loses_39 (fun H locs hw => ?_)
          have hw : xWd (dC, dI) A s.heap H locs (wS cI cZ cB cO s_h s_p s_n s_count (upd s_generators_1 (v2_2 - (1 : Int32)).toNatClampNeg (s_generators_1 v2_2.toNatClampNeg))) := hw
          refine lv_iinc (v := (v2_2 + (1 : Int32))) (lv' := [(2, .int (v2_2 + (1 : Int32))), (0, .ref s_h)]) hx hb dX4_loses_40 hl (k := 1) rfl (congrArg (fun q => v2_2 + q) (by decide)) (by decide) rfl (fun ls hl => ?_)
          refine lv_goto (tgt := 18) hx hb dX4_loses_43 (by decide) ?_
          obtain rfl := Option.some.inj h
          exact k _ _ _ hw (lv_sub hl [1, 0] rfl)
      · obtain ⟨s_generators_3, hz⟩ : ∃ q, q = z := ⟨z, rfl⟩
        subst hz
        intro H locs ls hw hl
        have hw : xWd (dC, dI) A s.heap H locs (wS cI cZ cB cO s_h s_p s_n s_count s_generators_3) := hw
        have hl : lv_has ls 3 [(0, .ref s_h)] := hl
        refine lv_aload_n hx hb dX4_loses_46 rfl (lv_at hl 0 rfl) ?_
        refine lv_dup hx hb dX4_loses_47 rfl ?_
        refine x_get (ci := 3) C hw inX4 rfl 1 (by decide) lkF_X4_15 rfl 0 rfl rfl dX4_loses_48 ?_
        refine lv_iconst (v := (1 : Int32)) hx hb dX4_loses_51 (by decide) ?_
        refine lv_isub hx hb dX4_loses_52 ?_
        refine x_put (ci := 3) C hw inX4 tyX4 tyX4_ok nmX4 rfl 1 (by decide) lkF_X4_15 rfl rfl 0 rfl rfl rfl (Nat.le_of_ble_eq_true rfl) dX4_loses_53 (fun H locs hw => ?_)
        have hw : xWd (dC, dI) A s.heap H locs (wS cI cZ cB cO s_h s_p s_n (s_count - (1 : Int32)) s_generators_3) := hw
        refine lv_iconst (v := (1 : Int32)) hx hb dX4_loses_56 (by decide) ?_
        obtain rfl := Option.some.inj h
        exact x_retz C hQ hA hw (by decide) dX4_loses_57
    · replace h := xb_ff b2 h
      refine lv_iconst (v := (0 : Int32)) hx hb dX4_loses_12 (by decide) ?_
      obtain rfl := Option.some.inj h
      exact x_retz C hQ hA hw (by decide) dX4_loses_13
noncomputable def f_X4_copy (s_n : Int32) (s_count : Int32) (s_generators : (Nat → Int32)) (f_n : Int32) (f_count : Int32) (f_generators : (Nat → Int32)) : Option (Int32 × Int32 × (Nat → Int32)) := some (f_n, f_count, (va_cpy f_generators s_generators 0 0 3))
set_option maxHeartbeats 4000000 in
set_option maxRecDepth 100000 in
theorem c_X4_copy (l : Launch) (dC : Nat → ClassId) (dI : Nat → Nat → Nat) (cI cZ cB cO : ClassId) (s_h : Nat) (s_p : Nat → Nat) (f_h : Nat) (f_p : Nat → Nat) (s_n : Int32) (s_count : Int32) (s_generators : (Nat → Int32)) (f_n : Int32) (f_count : Int32) (f_generators : (Nat → Int32)) (o : Int32 × Int32 × (Nat → Int32)) (h : f_X4_copy s_n s_count s_generators f_n f_count f_generators = some o) (sz : Nat) : Met l yX4_copy (xW yX4_copy cX4_copy 2 none) { frames := 1, cells := 0, slots := 0, locals := 40 } (xPre dC dI (xT cI cZ cB cO) [.ref s_h, .ref f_h] ((wS cI cZ cB cO s_h s_p s_n s_count s_generators) ++ (wS cI cZ cB cO f_h f_p f_n f_count f_generators)) sz) (xQv dC dI (xT cI cZ cB cO) ((wS cI cZ cB cO s_h s_p s_n s_count s_generators) ++ (wS cI cZ cB cO f_h f_p f_n f_count f_generators)) ((wS cI cZ cB cO s_h s_p o.1 o.2.1 o.2.2) ++ (wS cI cZ cB cO f_h f_p f_n f_count f_generators)) sz) 0 0 (va_A ((wS cI cZ cB cO s_h s_p s_n s_count s_generators) ++ (wS cI cZ cB cO f_h f_p f_n f_count f_generators)) sz) := by
  refine x_met (by decide) (Nat.le_of_ble_eq_true rfl) ?_
  intro p e s m args below meth c R Q A hR hsz hA hQ hin C hw ls hl
  have hx := C.1
  have hb := C.2.1
  have hown := C.2.2.2.1
  have htb := C.2.2.2.2.1
  have hl : lv_has ls 2 [(0, .ref s_h), (1, .ref f_h)] := hl
  refine lv_aload_n hx hb dX4_copy_0 rfl (lv_at hl 0 rfl) ?_
  refine lv_aload_n hx hb dX4_copy_1 rfl (lv_at hl 1 rfl) ?_
  refine x_get (ci := 3) C hw inX4 rfl 0 (by decide) lkF_X4_9 rfl 2 rfl rfl dX4_copy_2 ?_
  refine x_put (ci := 3) C hw inX4 tyX4 tyX4_ok nmX4 rfl 0 (by decide) lkF_X4_9 rfl rfl 0 rfl rfl rfl (Nat.le_of_ble_eq_true rfl) dX4_copy_5 (fun H locs hw => ?_)
  have hw : xWd (dC, dI) A s.heap H locs ((wS cI cZ cB cO s_h s_p f_n s_count s_generators) ++ (wS cI cZ cB cO f_h f_p f_n f_count f_generators)) := hw
  refine lv_aload_n hx hb dX4_copy_8 rfl (lv_at hl 0 rfl) ?_
  refine lv_aload_n hx hb dX4_copy_9 rfl (lv_at hl 1 rfl) ?_
  refine x_get (ci := 3) C hw inX4 rfl 1 (by decide) lkF_X4_15 rfl 2 rfl rfl dX4_copy_10 ?_
  refine x_put (ci := 3) C hw inX4 tyX4 tyX4_ok nmX4 rfl 1 (by decide) lkF_X4_15 rfl rfl 0 rfl rfl rfl (Nat.le_of_ble_eq_true rfl) dX4_copy_13 (fun H locs hw => ?_)
  have hw : xWd (dC, dI) A s.heap H locs ((wS cI cZ cB cO s_h s_p f_n f_count s_generators) ++ (wS cI cZ cB cO f_h f_p f_n f_count f_generators)) := hw
  refine lv_aload_n hx hb dX4_copy_16 rfl (lv_at hl 1 rfl) ?_
  refine x_get (ci := 3) C hw inX4 rfl 2 (by decide) lkF_X4_18 rfl 2 rfl rfl dX4_copy_17 ?_
  refine lv_iconst (v := (0 : Int32)) hx hb dX4_copy_20 (by decide) ?_
  refine lv_aload_n hx hb dX4_copy_21 rfl (lv_at hl 0 rfl) ?_
  refine x_get (ci := 3) C hw inX4 rfl 2 (by decide) lkF_X4_18 rfl 0 rfl rfl dX4_copy_22 ?_
  refine lv_iconst (v := (0 : Int32)) hx hb dX4_copy_25 (by decide) ?_
  refine lv_iconst (v := (3 : Int32)) hx hb dX4_copy_26 (by decide) ?_
  refine x_copy (k := 3) C hw 3 1 rfl rfl rfl (by decide) (by decide) (by decide) (by decide) (by decide) (by decide) (Nat.le_of_ble_eq_true rfl) (Nat.le_of_ble_eq_true rfl) lkM_X4_25 (by rw [hR]; exact Nat.le_of_ble_eq_true rfl) (by rw [hR]; exact Nat.le_of_ble_eq_true rfl) hl.1 dX4_copy_27 (fun H locs hw => ?_)
  have hw : xWd (dC, dI) A s.heap H locs ((wS cI cZ cB cO s_h s_p f_n f_count (va_cpy f_generators s_generators 0 0 3)) ++ (wS cI cZ cB cO f_h f_p f_n f_count f_generators)) := hw
  obtain rfl := Option.some.inj h
  exact x_retv C hQ hA hw dX4_copy_30
noncomputable def f_X6_add (t_length : Int32) (t_bytes : (Nat → Int32)) (v1 : Int32) : Option (Int32 × (Nat → Int32)) := xb ((80 : Int32) ≤ t_length) (some (t_length, t_bytes)) (xk (vp_in t_length 80) (some ((t_length + (1 : Int32)), (upd t_bytes t_length.toNatClampNeg ((v1).toInt8.toInt32)))))
set_option maxHeartbeats 4000000 in
set_option maxRecDepth 100000 in
theorem c_X6_add (l : Launch) (dC : Nat → ClassId) (dI : Nat → Nat → Nat) (cI cZ cB cO : ClassId) (t_h : Nat) (t_p : Nat → Nat) (t_length : Int32) (t_bytes : (Nat → Int32)) (v1 : Int32) (o : Int32 × (Nat → Int32)) (h : f_X6_add t_length t_bytes v1 = some o) (sz : Nat) : Met l yX6_add (xW yX6_add cX6_add 2 none) { frames := 0, cells := 0, slots := 0, locals := 0 } (xPre dC dI (xT cI cZ cB cO) [.ref t_h, .int v1] (wT cI cZ cB cO t_h t_p t_length t_bytes) sz) (xQv dC dI (xT cI cZ cB cO) (wT cI cZ cB cO t_h t_p t_length t_bytes) (wT cI cZ cB cO t_h t_p o.1 o.2) sz) 0 0 (va_A (wT cI cZ cB cO t_h t_p t_length t_bytes) sz) := by
  refine x_met (by decide) (Nat.le_of_ble_eq_true rfl) ?_
  intro p e s m args below meth c R Q A hR hsz hA hQ hin C hw ls hl
  have hx := C.1
  have hb := C.2.1
  have hown := C.2.2.2.1
  have htb := C.2.2.2.2.1
  have hl : lv_has ls 2 [(0, .ref t_h), (1, .int v1)] := hl
  refine lv_aload_n hx hb dX6_add_0 rfl (lv_at hl 0 rfl) ?_
  refine x_get (ci := 5) C hw inX6 rfl 0 (by decide) lkF_X6_9 rfl 0 rfl rfl dX6_add_1 ?_
  refine lv_bipush (v := (80 : Int32)) hx hb dX6_add_4 (by decide) ?_
  refine lv_icmp_ge (tgt := 30) hx hb dX6_add_6 (by decide) (fun b1 => ?_) (fun b1 => ?_)
  · replace h := xb_tt b1 h
    obtain rfl := Option.some.inj h
    exact x_retv C hQ hA hw dX6_add_30
  · replace h := xb_ff b1 h
    refine lv_aload_n hx hb dX6_add_9 rfl (lv_at hl 0 rfl) ?_
    refine x_get (ci := 5) C hw inX6 rfl 1 (by decide) lkF_X6_15 rfl 0 rfl rfl dX6_add_10 ?_
    refine lv_aload_n hx hb dX6_add_13 rfl (lv_at hl 0 rfl) ?_
    refine x_get (ci := 5) C hw inX6 rfl 0 (by decide) lkF_X6_9 rfl 0 rfl rfl dX6_add_14 ?_
    refine lv_iload_n hx hb dX6_add_17 rfl (lv_at hl 1 rfl) ?_
    refine lv_i2b hx hb dX6_add_18 rfl ?_
    obtain ⟨b2, h⟩ := xk_i h
    refine x_bast C hw 1 2 rfl rfl (pk_vb _) b2 dX6_add_19 (fun H locs hw => ?_)
    have hw : xWd (dC, dI) A s.heap H locs (wT cI cZ cB cO t_h t_p t_length (upd t_bytes t_length.toNatClampNeg ((v1).toInt8.toInt32))) := hw
    refine lv_aload_n hx hb dX6_add_20 rfl (lv_at hl 0 rfl) ?_
    refine lv_dup hx hb dX6_add_21 rfl ?_
    refine x_get (ci := 5) C hw inX6 rfl 0 (by decide) lkF_X6_9 rfl 0 rfl rfl dX6_add_22 ?_
    refine lv_iconst (v := (1 : Int32)) hx hb dX6_add_25 (by decide) ?_
    refine lv_iadd hx hb dX6_add_26 ?_
    refine x_put (ci := 5) C hw inX6 tyX6 tyX6_ok nmX6 rfl 0 (by decide) lkF_X6_9 rfl rfl 0 rfl rfl rfl (Nat.le_of_ble_eq_true rfl) dX6_add_27 (fun H locs hw => ?_)
    have hw : xWd (dC, dI) A s.heap H locs (wT cI cZ cB cO t_h t_p (t_length + (1 : Int32)) (upd t_bytes t_length.toNatClampNeg ((v1).toInt8.toInt32))) := hw
    obtain rfl := Option.some.inj h
    exact x_retv C hQ hA hw dX6_add_30
noncomputable def f_X6_at (t_length : Int32) (t_bytes : (Nat → Int32)) (v1 : Int32) : Option (Int32) := xb (v1 < 0) (some (-1 : Int32)) (xb (t_length ≤ v1) (some (-1 : Int32)) (xk (vp_in v1 80) (some (t_bytes v1.toNatClampNeg))))
set_option maxHeartbeats 4000000 in
set_option maxRecDepth 100000 in
theorem c_X6_at (l : Launch) (dC : Nat → ClassId) (dI : Nat → Nat → Nat) (cI cZ cB cO : ClassId) (t_h : Nat) (t_p : Nat → Nat) (t_length : Int32) (t_bytes : (Nat → Int32)) (v1 : Int32) (o : Int32) (h : f_X6_at t_length t_bytes v1 = some o) (sz : Nat) : Met l yX6_at (xW yX6_at cX6_at 2 (some .int)) { frames := 0, cells := 0, slots := 0, locals := 0 } (xPre dC dI (xT cI cZ cB cO) [.ref t_h, .int v1] (wT cI cZ cB cO t_h t_p t_length t_bytes) sz) (xQi dC dI (xT cI cZ cB cO) o (wT cI cZ cB cO t_h t_p t_length t_bytes) (wT cI cZ cB cO t_h t_p t_length t_bytes) sz) 0 0 (va_A (wT cI cZ cB cO t_h t_p t_length t_bytes) sz) := by
  refine x_met (by decide) (Nat.le_of_ble_eq_true rfl) ?_
  intro p e s m args below meth c R Q A hR hsz hA hQ hin C hw ls hl
  have hx := C.1
  have hb := C.2.1
  have hown := C.2.2.2.1
  have htb := C.2.2.2.2.1
  have hl : lv_has ls 2 [(0, .ref t_h), (1, .int v1)] := hl
  refine lv_iload_n hx hb dX6_at_0 rfl (lv_at hl 1 rfl) ?_
  refine lv_if_lt (tgt := 21) hx hb dX6_at_1 (by decide) (fun b1 => ?_) (fun b1 => ?_)
  · replace h := xb_tt b1 h
    refine lv_iconst (v := (-1 : Int32)) hx hb dX6_at_21 (by decide) ?_
    obtain rfl := Option.some.inj h
    exact x_reti C hQ hA hw dX6_at_22
  · replace h := xb_ff b1 h
    refine lv_iload_n hx hb dX6_at_4 rfl (lv_at hl 1 rfl) ?_
    refine lv_aload_n hx hb dX6_at_5 rfl (lv_at hl 0 rfl) ?_
    refine x_get (ci := 5) C hw inX6 rfl 0 (by decide) lkF_X6_9 rfl 0 rfl rfl dX6_at_6 ?_
    refine lv_icmp_ge (tgt := 21) hx hb dX6_at_9 (by decide) (fun b2 => ?_) (fun b2 => ?_)
    · replace h := xb_tt b2 h
      refine lv_iconst (v := (-1 : Int32)) hx hb dX6_at_21 (by decide) ?_
      obtain rfl := Option.some.inj h
      exact x_reti C hQ hA hw dX6_at_22
    · replace h := xb_ff b2 h
      refine lv_aload_n hx hb dX6_at_12 rfl (lv_at hl 0 rfl) ?_
      refine x_get (ci := 5) C hw inX6 rfl 1 (by decide) lkF_X6_15 rfl 0 rfl rfl dX6_at_13 ?_
      refine lv_iload_n hx hb dX6_at_16 rfl (lv_at hl 1 rfl) ?_
      obtain ⟨b3, h⟩ := xk_i h
      refine x_bald C hw 1 2 rfl rfl b3 dX6_at_17 ?_
      refine lv_goto (tgt := 22) hx hb dX6_at_18 (by decide) ?_
      obtain rfl := Option.some.inj h
      exact x_reti C hQ hA hw dX6_at_22
end
