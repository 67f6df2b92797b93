section
-- ===== PART A: goes FIRST, ahead of the names: the tables' words, and 'selects' of the private methods out of them =====
/-- a private method of a class that the tables say can be made, by its rows of tables_1 -/
def lw_okq (q : MethodName × Nat) : Prop := (q.1.cls ≠ "java/lang/invoke/MethodHandle" ∧ q.1.cls ≠ "java/lang/invoke/VarHandle") ∧ Cond.instantiable q.1.cls q.2 ∈ tables_1 ∧ Cond.privateMethod q.1 ∈ tables_1 ∧ Cond.instanceMethod q.1 ∈ tables_1
theorem lw_p0 : lw_okq (⟨"WhereTheSpoonWent", "isAnyThingIn", "(I)Z"⟩, 14) := ⟨⟨by decide +kernel, by decide +kernel⟩, List.mem_of_getElem? (i := 21) (by decide +kernel), List.mem_of_getElem? (i := 298) (by decide +kernel), List.mem_of_getElem? (i := 299) (by decide +kernel)⟩
theorem lw_p1 : lw_okq (⟨"WhereTheSpoonWent$Reader", "goOn", "()V"⟩, 7) := ⟨⟨by decide +kernel, by decide +kernel⟩, List.mem_of_getElem? (i := 82) (by decide +kernel), List.mem_of_getElem? (i := 344) (by decide +kernel), List.mem_of_getElem? (i := 345) (by decide +kernel)⟩
theorem lw_p2 : lw_okq (⟨"WhereTheSpoonWent$Reader", "goOnNumber", "()V"⟩, 7) := ⟨⟨by decide +kernel, by decide +kernel⟩, List.mem_of_getElem? (i := 82) (by decide +kernel), List.mem_of_getElem? (i := 351) (by decide +kernel), List.mem_of_getElem? (i := 352) (by decide +kernel)⟩
theorem lw_p3 : lw_okq (⟨"WhereTheSpoonWent$Reader", "goOnWord", "()V"⟩, 7) := ⟨⟨by decide +kernel, by decide +kernel⟩, List.mem_of_getElem? (i := 82) (by decide +kernel), List.mem_of_getElem? (i := 358) (by decide +kernel), List.mem_of_getElem? (i := 359) (by decide +kernel)⟩
theorem lw_p4 : lw_okq (⟨"WhereTheSpoonWent$Reader", "isWord", "(Ljava/lang/String;)Z"⟩, 7) := ⟨⟨by decide +kernel, by decide +kernel⟩, List.mem_of_getElem? (i := 82) (by decide +kernel), List.mem_of_getElem? (i := 363) (by decide +kernel), List.mem_of_getElem? (i := 364) (by decide +kernel)⟩
theorem lw_p5 : lw_okq (⟨"WhereTheSpoonWent$Reader", "readPart", "(I)V"⟩, 7) := ⟨⟨by decide +kernel, by decide +kernel⟩, List.mem_of_getElem? (i := 82) (by decide +kernel), List.mem_of_getElem? (i := 429) (by decide +kernel), List.mem_of_getElem? (i := 430) (by decide +kernel)⟩
theorem lw_p6 : lw_okq (⟨"WhereTheSpoonWent$Reader", "take", "(I)V"⟩, 7) := ⟨⟨by decide +kernel, by decide +kernel⟩, List.mem_of_getElem? (i := 82) (by decide +kernel), List.mem_of_getElem? (i := 433) (by decide +kernel), List.mem_of_getElem? (i := 434) (by decide +kernel)⟩
theorem lw_p7 : lw_okq (⟨"WhereTheSpoonWent$Reader", "fail", "()V"⟩, 7) := ⟨⟨by decide +kernel, by decide +kernel⟩, List.mem_of_getElem? (i := 82) (by decide +kernel), List.mem_of_getElem? (i := 437) (by decide +kernel), List.mem_of_getElem? (i := 438) (by decide +kernel)⟩
theorem lw_p8 : lw_okq (⟨"WhereTheSpoonWent$Reader", "readOr", "(I)V"⟩, 7) := ⟨⟨by decide +kernel, by decide +kernel⟩, List.mem_of_getElem? (i := 82) (by decide +kernel), List.mem_of_getElem? (i := 441) (by decide +kernel), List.mem_of_getElem? (i := 442) (by decide +kernel)⟩
theorem lw_p9 : lw_okq (⟨"WhereTheSpoonWent$Reader", "readAnd", "(I)V"⟩, 7) := ⟨⟨by decide +kernel, by decide +kernel⟩, List.mem_of_getElem? (i := 82) (by decide +kernel), List.mem_of_getElem? (i := 445) (by decide +kernel), List.mem_of_getElem? (i := 446) (by decide +kernel)⟩
theorem lw_p10 : lw_okq (⟨"WhereTheSpoonWent$Reader", "readNot", "(I)V"⟩, 7) := ⟨⟨by decide +kernel, by decide +kernel⟩, List.mem_of_getElem? (i := 82) (by decide +kernel), List.mem_of_getElem? (i := 449) (by decide +kernel), List.mem_of_getElem? (i := 450) (by decide +kernel)⟩
theorem lw_p11 : lw_okq (⟨"WhereTheSpoonWent$Reader", "readSum", "(I)V"⟩, 7) := ⟨⟨by decide +kernel, by decide +kernel⟩, List.mem_of_getElem? (i := 82) (by decide +kernel), List.mem_of_getElem? (i := 454) (by decide +kernel), List.mem_of_getElem? (i := 455) (by decide +kernel)⟩
theorem lw_p12 : lw_okq (⟨"WhereTheSpoonWent$Reader", "readTerm", "(I)V"⟩, 7) := ⟨⟨by decide +kernel, by decide +kernel⟩, List.mem_of_getElem? (i := 82) (by decide +kernel), List.mem_of_getElem? (i := 458) (by decide +kernel), List.mem_of_getElem? (i := 459) (by decide +kernel)⟩
theorem lw_p13 : lw_okq (⟨"WhereTheSpoonWent$Reader", "readOne", "(I)V"⟩, 7) := ⟨⟨by decide +kernel, by decide +kernel⟩, List.mem_of_getElem? (i := 82) (by decide +kernel), List.mem_of_getElem? (i := 462) (by decide +kernel), List.mem_of_getElem? (i := 463) (by decide +kernel)⟩
theorem lw_p14 : lw_okq (⟨"WhereTheSpoonWent", "law", "()LWhereTheSpoonWent$Text;"⟩, 14) := ⟨⟨by decide +kernel, by decide +kernel⟩, List.mem_of_getElem? (i := 21) (by decide +kernel), List.mem_of_getElem? (i := 475) (by decide +kernel), List.mem_of_getElem? (i := 476) (by decide +kernel)⟩
theorem lw_p15 : lw_okq (⟨"WhereTheSpoonWent", "isOpen", "(I)Z"⟩, 14) := ⟨⟨by decide +kernel, by decide +kernel⟩, List.mem_of_getElem? (i := 21) (by decide +kernel), List.mem_of_getElem? (i := 499) (by decide +kernel), List.mem_of_getElem? (i := 500) (by decide +kernel)⟩
def lw_privs_1 : List (MethodName × Nat) := [(⟨"WhereTheSpoonWent", "isAnyThingIn", "(I)Z"⟩, 14), (⟨"WhereTheSpoonWent$Reader", "goOn", "()V"⟩, 7), (⟨"WhereTheSpoonWent$Reader", "goOnNumber", "()V"⟩, 7), (⟨"WhereTheSpoonWent$Reader", "goOnWord", "()V"⟩, 7), (⟨"WhereTheSpoonWent$Reader", "isWord", "(Ljava/lang/String;)Z"⟩, 7), (⟨"WhereTheSpoonWent$Reader", "readPart", "(I)V"⟩, 7), (⟨"WhereTheSpoonWent$Reader", "take", "(I)V"⟩, 7), (⟨"WhereTheSpoonWent$Reader", "fail", "()V"⟩, 7), (⟨"WhereTheSpoonWent$Reader", "readOr", "(I)V"⟩, 7), (⟨"WhereTheSpoonWent$Reader", "readAnd", "(I)V"⟩, 7), (⟨"WhereTheSpoonWent$Reader", "readNot", "(I)V"⟩, 7), (⟨"WhereTheSpoonWent$Reader", "readSum", "(I)V"⟩, 7), (⟨"WhereTheSpoonWent$Reader", "readTerm", "(I)V"⟩, 7), (⟨"WhereTheSpoonWent$Reader", "readOne", "(I)V"⟩, 7), (⟨"WhereTheSpoonWent", "law", "()LWhereTheSpoonWent$Text;"⟩, 14), (⟨"WhereTheSpoonWent", "isOpen", "(I)Z"⟩, 14)]
theorem lw_r1 : ∀ q ∈ lw_privs_1, lw_okq q := List.forall_mem_cons.mpr ⟨lw_p0, List.forall_mem_cons.mpr ⟨lw_p1, List.forall_mem_cons.mpr ⟨lw_p2, List.forall_mem_cons.mpr ⟨lw_p3, List.forall_mem_cons.mpr ⟨lw_p4, List.forall_mem_cons.mpr ⟨lw_p5, List.forall_mem_cons.mpr ⟨lw_p6, List.forall_mem_cons.mpr ⟨lw_p7, List.forall_mem_cons.mpr ⟨lw_p8, List.forall_mem_cons.mpr ⟨lw_p9, List.forall_mem_cons.mpr ⟨lw_p10, List.forall_mem_cons.mpr ⟨lw_p11, List.forall_mem_cons.mpr ⟨lw_p12, List.forall_mem_cons.mpr ⟨lw_p13, List.forall_mem_cons.mpr ⟨lw_p14, List.forall_mem_cons.mpr ⟨lw_p15, fun _ h => absurd h List.not_mem_nil⟩⟩⟩⟩⟩⟩⟩⟩⟩⟩⟩⟩⟩⟩⟩⟩
theorem lw_p16 : lw_okq (⟨"WhereTheSpoonWent", "isThing", "(I)Z"⟩, 14) := ⟨⟨by decide +kernel, by decide +kernel⟩, List.mem_of_getElem? (i := 21) (by decide +kernel), List.mem_of_getElem? (i := 510) (by decide +kernel), List.mem_of_getElem? (i := 511) (by decide +kernel)⟩
theorem lw_p17 : lw_okq (⟨"WhereTheSpoonWent", "behind", "(II)LWhereTheSpoonWent$Flight;"⟩, 14) := ⟨⟨by decide +kernel, by decide +kernel⟩, List.mem_of_getElem? (i := 21) (by decide +kernel), List.mem_of_getElem? (i := 528) (by decide +kernel), List.mem_of_getElem? (i := 529) (by decide +kernel)⟩
theorem lw_p18 : lw_okq (⟨"WhereTheSpoonWent", "lift", "(I)LWhereTheSpoonWent$Flight;"⟩, 14) := ⟨⟨by decide +kernel, by decide +kernel⟩, List.mem_of_getElem? (i := 21) (by decide +kernel), List.mem_of_getElem? (i := 532) (by decide +kernel), List.mem_of_getElem? (i := 533) (by decide +kernel)⟩
theorem lw_p19 : lw_okq (⟨"WhereTheSpoonWent", "follow", "(LWhereTheSpoonWent$Flight;)V"⟩, 14) := ⟨⟨by decide +kernel, by decide +kernel⟩, List.mem_of_getElem? (i := 21) (by decide +kernel), List.mem_of_getElem? (i := 607) (by decide +kernel), List.mem_of_getElem? (i := 608) (by decide +kernel)⟩
theorem lw_p20 : lw_okq (⟨"WhereTheSpoonWent", "followTurned", "(LWhereTheSpoonWent$Flight;I)V"⟩, 14) := ⟨⟨by decide +kernel, by decide +kernel⟩, List.mem_of_getElem? (i := 21) (by decide +kernel), List.mem_of_getElem? (i := 611) (by decide +kernel), List.mem_of_getElem? (i := 612) (by decide +kernel)⟩
theorem lw_p21 : lw_okq (⟨"WhereTheSpoonWent", "firstIn", "(I)I"⟩, 14) := ⟨⟨by decide +kernel, by decide +kernel⟩, List.mem_of_getElem? (i := 21) (by decide +kernel), List.mem_of_getElem? (i := 619) (by decide +kernel), List.mem_of_getElem? (i := 620) (by decide +kernel)⟩
theorem lw_p22 : lw_okq (⟨"WhereTheSpoonWent", "measure", "(I)V"⟩, 14) := ⟨⟨by decide +kernel, by decide +kernel⟩, List.mem_of_getElem? (i := 21) (by decide +kernel), List.mem_of_getElem? (i := 635) (by decide +kernel), List.mem_of_getElem? (i := 636) (by decide +kernel)⟩
theorem lw_p23 : lw_okq (⟨"WhereTheSpoonWent", "soonest", "(II)I"⟩, 14) := ⟨⟨by decide +kernel, by decide +kernel⟩, List.mem_of_getElem? (i := 21) (by decide +kernel), List.mem_of_getElem? (i := 640) (by decide +kernel), List.mem_of_getElem? (i := 641) (by decide +kernel)⟩
theorem lw_p24 : lw_okq (⟨"WhereTheSpoonWent", "says", "(III)I"⟩, 14) := ⟨⟨by decide +kernel, by decide +kernel⟩, List.mem_of_getElem? (i := 21) (by decide +kernel), List.mem_of_getElem? (i := 644) (by decide +kernel), List.mem_of_getElem? (i := 645) (by decide +kernel)⟩
theorem lw_p25 : lw_okq (⟨"WhereTheSpoonWent", "letGo", "(II)LWhereTheSpoonWent$Flight;"⟩, 14) := ⟨⟨by decide +kernel, by decide +kernel⟩, List.mem_of_getElem? (i := 21) (by decide +kernel), List.mem_of_getElem? (i := 660) (by decide +kernel), List.mem_of_getElem? (i := 661) (by decide +kernel)⟩
theorem lw_p26 : lw_okq (⟨"WhereTheSpoonWent", "caught", "(II)I"⟩, 14) := ⟨⟨by decide +kernel, by decide +kernel⟩, List.mem_of_getElem? (i := 21) (by decide +kernel), List.mem_of_getElem? (i := 676) (by decide +kernel), List.mem_of_getElem? (i := 677) (by decide +kernel)⟩
theorem lw_p27 : lw_okq (⟨"WhereTheSpoonWent", "endOf", "(III)I"⟩, 14) := ⟨⟨by decide +kernel, by decide +kernel⟩, List.mem_of_getElem? (i := 21) (by decide +kernel), List.mem_of_getElem? (i := 684) (by decide +kernel), List.mem_of_getElem? (i := 685) (by decide +kernel)⟩
theorem lw_p28 : lw_okq (⟨"WhereTheSpoonWent", "tallyEnds", "(II)V"⟩, 14) := ⟨⟨by decide +kernel, by decide +kernel⟩, List.mem_of_getElem? (i := 21) (by decide +kernel), List.mem_of_getElem? (i := 692) (by decide +kernel), List.mem_of_getElem? (i := 693) (by decide +kernel)⟩
theorem lw_p29 : lw_okq (⟨"WhereTheSpoonWent", "countAhead", "(I)I"⟩, 14) := ⟨⟨by decide +kernel, by decide +kernel⟩, List.mem_of_getElem? (i := 21) (by decide +kernel), List.mem_of_getElem? (i := 705) (by decide +kernel), List.mem_of_getElem? (i := 706) (by decide +kernel)⟩
theorem lw_p30 : lw_okq (⟨"WhereTheSpoonWent", "refusalOfPlaces", "(I)I"⟩, 14) := ⟨⟨by decide +kernel, by decide +kernel⟩, List.mem_of_getElem? (i := 21) (by decide +kernel), List.mem_of_getElem? (i := 716) (by decide +kernel), List.mem_of_getElem? (i := 717) (by decide +kernel)⟩
theorem lw_p31 : lw_okq (⟨"WhereTheSpoonWent", "firstElsewhere", "(IILWhereTheSpoonWent$Text;)I"⟩, 14) := ⟨⟨by decide +kernel, by decide +kernel⟩, List.mem_of_getElem? (i := 21) (by decide +kernel), List.mem_of_getElem? (i := 723) (by decide +kernel), List.mem_of_getElem? (i := 724) (by decide +kernel)⟩
def lw_privs_2 : List (MethodName × Nat) := [(⟨"WhereTheSpoonWent", "isThing", "(I)Z"⟩, 14), (⟨"WhereTheSpoonWent", "behind", "(II)LWhereTheSpoonWent$Flight;"⟩, 14), (⟨"WhereTheSpoonWent", "lift", "(I)LWhereTheSpoonWent$Flight;"⟩, 14), (⟨"WhereTheSpoonWent", "follow", "(LWhereTheSpoonWent$Flight;)V"⟩, 14), (⟨"WhereTheSpoonWent", "followTurned", "(LWhereTheSpoonWent$Flight;I)V"⟩, 14), (⟨"WhereTheSpoonWent", "firstIn", "(I)I"⟩, 14), (⟨"WhereTheSpoonWent", "measure", "(I)V"⟩, 14), (⟨"WhereTheSpoonWent", "soonest", "(II)I"⟩, 14), (⟨"WhereTheSpoonWent", "says", "(III)I"⟩, 14), (⟨"WhereTheSpoonWent", "letGo", "(II)LWhereTheSpoonWent$Flight;"⟩, 14), (⟨"WhereTheSpoonWent", "caught", "(II)I"⟩, 14), (⟨"WhereTheSpoonWent", "endOf", "(III)I"⟩, 14), (⟨"WhereTheSpoonWent", "tallyEnds", "(II)V"⟩, 14), (⟨"WhereTheSpoonWent", "countAhead", "(I)I"⟩, 14), (⟨"WhereTheSpoonWent", "refusalOfPlaces", "(I)I"⟩, 14), (⟨"WhereTheSpoonWent", "firstElsewhere", "(IILWhereTheSpoonWent$Text;)I"⟩, 14)]
theorem lw_r2 : ∀ q ∈ lw_privs_2, lw_okq q := List.forall_mem_cons.mpr ⟨lw_p16, List.forall_mem_cons.mpr ⟨lw_p17, List.forall_mem_cons.mpr ⟨lw_p18, List.forall_mem_cons.mpr ⟨lw_p19, List.forall_mem_cons.mpr ⟨lw_p20, List.forall_mem_cons.mpr ⟨lw_p21, List.forall_mem_cons.mpr ⟨lw_p22, List.forall_mem_cons.mpr ⟨lw_p23, List.forall_mem_cons.mpr ⟨lw_p24, List.forall_mem_cons.mpr ⟨lw_p25, List.forall_mem_cons.mpr ⟨lw_p26, List.forall_mem_cons.mpr ⟨lw_p27, List.forall_mem_cons.mpr ⟨lw_p28, List.forall_mem_cons.mpr ⟨lw_p29, List.forall_mem_cons.mpr ⟨lw_p30, List.forall_mem_cons.mpr ⟨lw_p31, fun _ h => absurd h List.not_mem_nil⟩⟩⟩⟩⟩⟩⟩⟩⟩⟩⟩⟩⟩⟩⟩⟩
theorem lw_p32 : lw_okq (⟨"WhereTheSpoonWent", "listEnds", "(I)V"⟩, 14) := ⟨⟨by decide +kernel, by decide +kernel⟩, List.mem_of_getElem? (i := 21) (by decide +kernel), List.mem_of_getElem? (i := 753) (by decide +kernel), List.mem_of_getElem? (i := 754) (by decide +kernel)⟩
theorem lw_p33 : lw_okq (⟨"WhereTheSpoonWent", "countDrawn", "(II)I"⟩, 14) := ⟨⟨by decide +kernel, by decide +kernel⟩, List.mem_of_getElem? (i := 21) (by decide +kernel), List.mem_of_getElem? (i := 757) (by decide +kernel), List.mem_of_getElem? (i := 758) (by decide +kernel)⟩
theorem lw_p34 : lw_okq (⟨"WhereTheSpoonWent", "takenCell", "(II)I"⟩, 14) := ⟨⟨by decide +kernel, by decide +kernel⟩, List.mem_of_getElem? (i := 21) (by decide +kernel), List.mem_of_getElem? (i := 813) (by decide +kernel), List.mem_of_getElem? (i := 814) (by decide +kernel)⟩
theorem lw_p35 : lw_okq (⟨"WhereTheSpoonWent", "takenThing", "(II)I"⟩, 14) := ⟨⟨by decide +kernel, by decide +kernel⟩, List.mem_of_getElem? (i := 21) (by decide +kernel), List.mem_of_getElem? (i := 817) (by decide +kernel), List.mem_of_getElem? (i := 818) (by decide +kernel)⟩
theorem lw_p36 : lw_okq (⟨"WhereTheSpoonWentModel", "next", "()V"⟩, 36) := ⟨⟨by decide +kernel, by decide +kernel⟩, List.mem_of_getElem? (i := 846) (by decide +kernel), List.mem_of_getElem? (i := 856) (by decide +kernel), List.mem_of_getElem? (i := 857) (by decide +kernel)⟩
theorem lw_p37 : lw_okq (⟨"WhereTheSpoonWentModel", "wordFrom", "(II)I"⟩, 36) := ⟨⟨by decide +kernel, by decide +kernel⟩, List.mem_of_getElem? (i := 846) (by decide +kernel), List.mem_of_getElem? (i := 863) (by decide +kernel), List.mem_of_getElem? (i := 864) (by decide +kernel)⟩
theorem lw_p38 : lw_okq (⟨"WhereTheSpoonWentModel", "eRead", "()Z"⟩, 36) := ⟨⟨by decide +kernel, by decide +kernel⟩, List.mem_of_getElem? (i := 846) (by decide +kernel), List.mem_of_getElem? (i := 867) (by decide +kernel), List.mem_of_getElem? (i := 868) (by decide +kernel)⟩
theorem lw_p39 : lw_okq (⟨"WhereTheSpoonWentModel", "puts", "(I)V"⟩, 36) := ⟨⟨by decide +kernel, by decide +kernel⟩, List.mem_of_getElem? (i := 846) (by decide +kernel), List.mem_of_getElem? (i := 872) (by decide +kernel), List.mem_of_getElem? (i := 873) (by decide +kernel)⟩
theorem lw_p40 : lw_okq (⟨"WhereTheSpoonWentModel", "unwinds", "(I)V"⟩, 36) := ⟨⟨by decide +kernel, by decide +kernel⟩, List.mem_of_getElem? (i := 846) (by decide +kernel), List.mem_of_getElem? (i := 876) (by decide +kernel), List.mem_of_getElem? (i := 877) (by decide +kernel)⟩
theorem lw_p41 : lw_okq (⟨"WhereTheSpoonWentModel", "opensOne", "(I)Z"⟩, 36) := ⟨⟨by decide +kernel, by decide +kernel⟩, List.mem_of_getElem? (i := 846) (by decide +kernel), List.mem_of_getElem? (i := 883) (by decide +kernel), List.mem_of_getElem? (i := 884) (by decide +kernel)⟩
theorem lw_p42 : lw_okq (⟨"WhereTheSpoonWentModel", "holds", "(I)V"⟩, 36) := ⟨⟨by decide +kernel, by decide +kernel⟩, List.mem_of_getElem? (i := 846) (by decide +kernel), List.mem_of_getElem? (i := 887) (by decide +kernel), List.mem_of_getElem? (i := 888) (by decide +kernel)⟩
theorem lw_p43 : lw_okq (⟨"WhereTheSpoonWentModel", "signOf", "()I"⟩, 36) := ⟨⟨by decide +kernel, by decide +kernel⟩, List.mem_of_getElem? (i := 846) (by decide +kernel), List.mem_of_getElem? (i := 891) (by decide +kernel), List.mem_of_getElem? (i := 892) (by decide +kernel)⟩
theorem lw_p44 : lw_okq (⟨"WhereTheSpoonWentModel", "between", "(I)Z"⟩, 36) := ⟨⟨by decide +kernel, by decide +kernel⟩, List.mem_of_getElem? (i := 846) (by decide +kernel), List.mem_of_getElem? (i := 895) (by decide +kernel), List.mem_of_getElem? (i := 896) (by decide +kernel)⟩
theorem lw_p45 : lw_okq (⟨"WhereTheSpoonWentModel", "isThere", "(I)Z"⟩, 36) := ⟨⟨by decide +kernel, by decide +kernel⟩, List.mem_of_getElem? (i := 846) (by decide +kernel), List.mem_of_getElem? (i := 1015) (by decide +kernel), List.mem_of_getElem? (i := 1016) (by decide +kernel)⟩
theorem lw_p46 : lw_okq (⟨"WhereTheSpoonWentModel", "has", "(II)Z"⟩, 36) := ⟨⟨by decide +kernel, by decide +kernel⟩, List.mem_of_getElem? (i := 846) (by decide +kernel), List.mem_of_getElem? (i := 1019) (by decide +kernel), List.mem_of_getElem? (i := 1020) (by decide +kernel)⟩
theorem lw_p47 : lw_okq (⟨"WhereTheSpoonWentModel", "asksOf", "(IIIII)I"⟩, 36) := ⟨⟨by decide +kernel, by decide +kernel⟩, List.mem_of_getElem? (i := 846) (by decide +kernel), List.mem_of_getElem? (i := 1047) (by decide +kernel), List.mem_of_getElem? (i := 1048) (by decide +kernel)⟩
def lw_privs_3 : List (MethodName × Nat) := [(⟨"WhereTheSpoonWent", "listEnds", "(I)V"⟩, 14), (⟨"WhereTheSpoonWent", "countDrawn", "(II)I"⟩, 14), (⟨"WhereTheSpoonWent", "takenCell", "(II)I"⟩, 14), (⟨"WhereTheSpoonWent", "takenThing", "(II)I"⟩, 14), (⟨"WhereTheSpoonWentModel", "next", "()V"⟩, 36), (⟨"WhereTheSpoonWentModel", "wordFrom", "(II)I"⟩, 36), (⟨"WhereTheSpoonWentModel", "eRead", "()Z"⟩, 36), (⟨"WhereTheSpoonWentModel", "puts", "(I)V"⟩, 36), (⟨"WhereTheSpoonWentModel", "unwinds", "(I)V"⟩, 36), (⟨"WhereTheSpoonWentModel", "opensOne", "(I)Z"⟩, 36), (⟨"WhereTheSpoonWentModel", "holds", "(I)V"⟩, 36), (⟨"WhereTheSpoonWentModel", "signOf", "()I"⟩, 36), (⟨"WhereTheSpoonWentModel", "between", "(I)Z"⟩, 36), (⟨"WhereTheSpoonWentModel", "isThere", "(I)Z"⟩, 36), (⟨"WhereTheSpoonWentModel", "has", "(II)Z"⟩, 36), (⟨"WhereTheSpoonWentModel", "asksOf", "(IIIII)I"⟩, 36)]
theorem lw_r3 : ∀ q ∈ lw_privs_3, lw_okq q := List.forall_mem_cons.mpr ⟨lw_p32, List.forall_mem_cons.mpr ⟨lw_p33, List.forall_mem_cons.mpr ⟨lw_p34, List.forall_mem_cons.mpr ⟨lw_p35, List.forall_mem_cons.mpr ⟨lw_p36, List.forall_mem_cons.mpr ⟨lw_p37, List.forall_mem_cons.mpr ⟨lw_p38, List.forall_mem_cons.mpr ⟨lw_p39, List.forall_mem_cons.mpr ⟨lw_p40, List.forall_mem_cons.mpr ⟨lw_p41, List.forall_mem_cons.mpr ⟨lw_p42, List.forall_mem_cons.mpr ⟨lw_p43, List.forall_mem_cons.mpr ⟨lw_p44, List.forall_mem_cons.mpr ⟨lw_p45, List.forall_mem_cons.mpr ⟨lw_p46, List.forall_mem_cons.mpr ⟨lw_p47, fun _ h => absurd h List.not_mem_nil⟩⟩⟩⟩⟩⟩⟩⟩⟩⟩⟩⟩⟩⟩⟩⟩
theorem lw_p48 : lw_okq (⟨"WhereTheSpoonWentModel", "says", "(I)I"⟩, 36) := ⟨⟨by decide +kernel, by decide +kernel⟩, List.mem_of_getElem? (i := 846) (by decide +kernel), List.mem_of_getElem? (i := 1051) (by decide +kernel), List.mem_of_getElem? (i := 1052) (by decide +kernel)⟩
theorem lw_p49 : lw_okq (⟨"WhereTheSpoonWentModel", "isFree", "(I)Z"⟩, 36) := ⟨⟨by decide +kernel, by decide +kernel⟩, List.mem_of_getElem? (i := 846) (by decide +kernel), List.mem_of_getElem? (i := 1065) (by decide +kernel), List.mem_of_getElem? (i := 1066) (by decide +kernel)⟩
theorem lw_p50 : lw_okq (⟨"WhereTheSpoonWentModel", "isThing", "(I)Z"⟩, 36) := ⟨⟨by decide +kernel, by decide +kernel⟩, List.mem_of_getElem? (i := 846) (by decide +kernel), List.mem_of_getElem? (i := 1073) (by decide +kernel), List.mem_of_getElem? (i := 1074) (by decide +kernel)⟩
theorem lw_p51 : lw_okq (⟨"WhereTheSpoonWentModel", "cellBehind", "(II)I"⟩, 36) := ⟨⟨by decide +kernel, by decide +kernel⟩, List.mem_of_getElem? (i := 846) (by decide +kernel), List.mem_of_getElem? (i := 1088) (by decide +kernel), List.mem_of_getElem? (i := 1089) (by decide +kernel)⟩
theorem lw_p52 : lw_okq (⟨"WhereTheSpoonWentModel", "begins", "(I)V"⟩, 36) := ⟨⟨by decide +kernel, by decide +kernel⟩, List.mem_of_getElem? (i := 846) (by decide +kernel), List.mem_of_getElem? (i := 1092) (by decide +kernel), List.mem_of_getElem? (i := 1093) (by decide +kernel)⟩
theorem lw_p53 : lw_okq (⟨"WhereTheSpoonWentModel", "goesBehind", "(II)V"⟩, 36) := ⟨⟨by decide +kernel, by decide +kernel⟩, List.mem_of_getElem? (i := 846) (by decide +kernel), List.mem_of_getElem? (i := 1096) (by decide +kernel), List.mem_of_getElem? (i := 1097) (by decide +kernel)⟩
theorem lw_p54 : lw_okq (⟨"WhereTheSpoonWentModel", "steps", "(II)V"⟩, 36) := ⟨⟨by decide +kernel, by decide +kernel⟩, List.mem_of_getElem? (i := 846) (by decide +kernel), List.mem_of_getElem? (i := 1100) (by decide +kernel), List.mem_of_getElem? (i := 1101) (by decide +kernel)⟩
theorem lw_p55 : lw_okq (⟨"WhereTheSpoonWentModel", "blown", "(III)I"⟩, 36) := ⟨⟨by decide +kernel, by decide +kernel⟩, List.mem_of_getElem? (i := 846) (by decide +kernel), List.mem_of_getElem? (i := 1104) (by decide +kernel), List.mem_of_getElem? (i := 1105) (by decide +kernel)⟩
theorem lw_p56 : lw_okq (⟨"WhereTheSpoonWentModel", "touching", "(II)I"⟩, 36) := ⟨⟨by decide +kernel, by decide +kernel⟩, List.mem_of_getElem? (i := 846) (by decide +kernel), List.mem_of_getElem? (i := 1111) (by decide +kernel), List.mem_of_getElem? (i := 1112) (by decide +kernel)⟩
theorem lw_p57 : lw_okq (⟨"WhereTheSpoonWentModel", "first0", "(II)I"⟩, 36) := ⟨⟨by decide +kernel, by decide +kernel⟩, List.mem_of_getElem? (i := 846) (by decide +kernel), List.mem_of_getElem? (i := 1123) (by decide +kernel), List.mem_of_getElem? (i := 1124) (by decide +kernel)⟩
theorem lw_p58 : lw_okq (⟨"WhereTheSpoonWentModel", "spreads", "(I)V"⟩, 36) := ⟨⟨by decide +kernel, by decide +kernel⟩, List.mem_of_getElem? (i := 846) (by decide +kernel), List.mem_of_getElem? (i := 1139) (by decide +kernel), List.mem_of_getElem? (i := 1140) (by decide +kernel)⟩
theorem lw_p59 : lw_okq (⟨"WhereTheSpoonWentModel", "soonest", "(II)I"⟩, 36) := ⟨⟨by decide +kernel, by decide +kernel⟩, List.mem_of_getElem? (i := 846) (by decide +kernel), List.mem_of_getElem? (i := 1143) (by decide +kernel), List.mem_of_getElem? (i := 1144) (by decide +kernel)⟩
theorem lw_p60 : lw_okq (⟨"WhereTheSpoonWentModel", "turnedFirst", "(III)I"⟩, 36) := ⟨⟨by decide +kernel, by decide +kernel⟩, List.mem_of_getElem? (i := 846) (by decide +kernel), List.mem_of_getElem? (i := 1167) (by decide +kernel), List.mem_of_getElem? (i := 1168) (by decide +kernel)⟩
theorem lw_p61 : lw_okq (⟨"WhereTheSpoonWentModel", "netted", "(I)I"⟩, 36) := ⟨⟨by decide +kernel, by decide +kernel⟩, List.mem_of_getElem? (i := 846) (by decide +kernel), List.mem_of_getElem? (i := 1175) (by decide +kernel), List.mem_of_getElem? (i := 1176) (by decide +kernel)⟩
theorem lw_p62 : lw_okq (⟨"WhereTheSpoonWentModel", "letsGo", "(II)V"⟩, 36) := ⟨⟨by decide +kernel, by decide +kernel⟩, List.mem_of_getElem? (i := 846) (by decide +kernel), List.mem_of_getElem? (i := 1183) (by decide +kernel), List.mem_of_getElem? (i := 1184) (by decide +kernel)⟩
theorem lw_p63 : lw_okq (⟨"WhereTheSpoonWentModel", "byHowMany", "(I)I"⟩, 36) := ⟨⟨by decide +kernel, by decide +kernel⟩, List.mem_of_getElem? (i := 846) (by decide +kernel), List.mem_of_getElem? (i := 1191) (by decide +kernel), List.mem_of_getElem? (i := 1192) (by decide +kernel)⟩
def lw_privs_4 : List (MethodName × Nat) := [(⟨"WhereTheSpoonWentModel", "says", "(I)I"⟩, 36), (⟨"WhereTheSpoonWentModel", "isFree", "(I)Z"⟩, 36), (⟨"WhereTheSpoonWentModel", "isThing", "(I)Z"⟩, 36), (⟨"WhereTheSpoonWentModel", "cellBehind", "(II)I"⟩, 36), (⟨"WhereTheSpoonWentModel", "begins", "(I)V"⟩, 36), (⟨"WhereTheSpoonWentModel", "goesBehind", "(II)V"⟩, 36), (⟨"WhereTheSpoonWentModel", "steps", "(II)V"⟩, 36), (⟨"WhereTheSpoonWentModel", "blown", "(III)I"⟩, 36), (⟨"WhereTheSpoonWentModel", "touching", "(II)I"⟩, 36), (⟨"WhereTheSpoonWentModel", "first0", "(II)I"⟩, 36), (⟨"WhereTheSpoonWentModel", "spreads", "(I)V"⟩, 36), (⟨"WhereTheSpoonWentModel", "soonest", "(II)I"⟩, 36), (⟨"WhereTheSpoonWentModel", "turnedFirst", "(III)I"⟩, 36), (⟨"WhereTheSpoonWentModel", "netted", "(I)I"⟩, 36), (⟨"WhereTheSpoonWentModel", "letsGo", "(II)V"⟩, 36), (⟨"WhereTheSpoonWentModel", "byHowMany", "(I)I"⟩, 36)]
theorem lw_r4 : ∀ q ∈ lw_privs_4, lw_okq q := List.forall_mem_cons.mpr ⟨lw_p48, List.forall_mem_cons.mpr ⟨lw_p49, List.forall_mem_cons.mpr ⟨lw_p50, List.forall_mem_cons.mpr ⟨lw_p51, List.forall_mem_cons.mpr ⟨lw_p52, List.forall_mem_cons.mpr ⟨lw_p53, List.forall_mem_cons.mpr ⟨lw_p54, List.forall_mem_cons.mpr ⟨lw_p55, List.forall_mem_cons.mpr ⟨lw_p56, List.forall_mem_cons.mpr ⟨lw_p57, List.forall_mem_cons.mpr ⟨lw_p58, List.forall_mem_cons.mpr ⟨lw_p59, List.forall_mem_cons.mpr ⟨lw_p60, List.forall_mem_cons.mpr ⟨lw_p61, List.forall_mem_cons.mpr ⟨lw_p62, List.forall_mem_cons.mpr ⟨lw_p63, fun _ h => absurd h List.not_mem_nil⟩⟩⟩⟩⟩⟩⟩⟩⟩⟩⟩⟩⟩⟩⟩⟩
theorem lw_p64 : lw_okq (⟨"WhereTheSpoonWentModel", "lookFor", "(I)I"⟩, 36) := ⟨⟨by decide +kernel, by decide +kernel⟩, List.mem_of_getElem? (i := 846) (by decide +kernel), List.mem_of_getElem? (i := 1204) (by decide +kernel), List.mem_of_getElem? (i := 1205) (by decide +kernel)⟩
theorem lw_p65 : lw_okq (⟨"WhereTheSpoonWentModel", "toldWrong", "(II)I"⟩, 36) := ⟨⟨by decide +kernel, by decide +kernel⟩, List.mem_of_getElem? (i := 846) (by decide +kernel), List.mem_of_getElem? (i := 1216) (by decide +kernel), List.mem_of_getElem? (i := 1217) (by decide +kernel)⟩
theorem lw_p66 : lw_okq (⟨"WhereTheSpoonWentModel", "sheetWrong", "(I)I"⟩, 36) := ⟨⟨by decide +kernel, by decide +kernel⟩, List.mem_of_getElem? (i := 846) (by decide +kernel), List.mem_of_getElem? (i := 1220) (by decide +kernel), List.mem_of_getElem? (i := 1221) (by decide +kernel)⟩
theorem lw_p67 : lw_okq (⟨"WhereTheSpoonWentModel", "unlike", "(II)I"⟩, 36) := ⟨⟨by decide +kernel, by decide +kernel⟩, List.mem_of_getElem? (i := 846) (by decide +kernel), List.mem_of_getElem? (i := 1224) (by decide +kernel), List.mem_of_getElem? (i := 1225) (by decide +kernel)⟩
theorem lw_p68 : lw_okq (⟨"WhereTheSpoonWentModel", "insideBy", "(III)I"⟩, 36) := ⟨⟨by decide +kernel, by decide +kernel⟩, List.mem_of_getElem? (i := 846) (by decide +kernel), List.mem_of_getElem? (i := 1248) (by decide +kernel), List.mem_of_getElem? (i := 1249) (by decide +kernel)⟩
def lw_privs_5 : List (MethodName × Nat) := [(⟨"WhereTheSpoonWentModel", "lookFor", "(I)I"⟩, 36), (⟨"WhereTheSpoonWentModel", "toldWrong", "(II)I"⟩, 36), (⟨"WhereTheSpoonWentModel", "sheetWrong", "(I)I"⟩, 36), (⟨"WhereTheSpoonWentModel", "unlike", "(II)I"⟩, 36), (⟨"WhereTheSpoonWentModel", "insideBy", "(III)I"⟩, 36)]
theorem lw_r5 : ∀ q ∈ lw_privs_5, lw_okq q := List.forall_mem_cons.mpr ⟨lw_p64, List.forall_mem_cons.mpr ⟨lw_p65, List.forall_mem_cons.mpr ⟨lw_p66, List.forall_mem_cons.mpr ⟨lw_p67, List.forall_mem_cons.mpr ⟨lw_p68, fun _ h => absurd h List.not_mem_nil⟩⟩⟩⟩⟩
def lw_privs : List (MethodName × Nat) := lw_privs_1 ++ (lw_privs_2 ++ (lw_privs_3 ++ (lw_privs_4 ++ (lw_privs_5))))
def lw_tbl : List Cond := k2_sels lw_privs ++ tables_1
theorem lw_privs_ok : ∀ q ∈ lw_privs, lw_okq q := by
  show ∀ q ∈ lw_privs_1 ++ (lw_privs_2 ++ (lw_privs_3 ++ (lw_privs_4 ++ (lw_privs_5)))), lw_okq q
  exact List.forall_mem_append.mpr ⟨lw_r1, List.forall_mem_append.mpr ⟨lw_r2, List.forall_mem_append.mpr ⟨lw_r3, List.forall_mem_append.mpr ⟨lw_r4, lw_r5⟩⟩⟩⟩
-- ===== end of PART A; then your names; then what follows =====
end
section
def RX0 : String := "WhereTheSpoonWent$Cat"
def TX0 : u_T := fun k => match k with
  | _ => ("", "", "", false)
def tyX0 : Nat → FieldType := fun k => match k with
  | _ => .int
abbrev wsX00 : List Cond := u_ws RX0 TX0 0
theorem nmX0 : ∀ a, a < 0 → ∀ b, b < 0 → a ≠ b → (TX0 a).2.1 ≠ (TX0 b).2.1 := by decide +kernel
theorem tyX0_ok : ∀ k, k < 0 → parseFieldDescriptor (TX0 k).2.2.1 = some (tyX0 k) := by decide +kernel
abbrev cX0_init : ByteArray := prog_2_method_1_code
def yX0_init : MethodName := ⟨RX0, "<init>", "()V"⟩
abbrev cX0_isOne : ByteArray := prog_2_method_2_code
def yX0_isOne : MethodName := ⟨RX0, "isOne", "(I)Z"⟩
abbrev cX0_blown : ByteArray := prog_2_method_3_code
def yX0_blown : MethodName := ⟨RX0, "blown", "(II)I"⟩
def RX1 : String := "WhereTheSpoonWent$Flight"
def TX1 : u_T := fun k => match k with
  | 0 => ("WhereTheSpoonWent$Flight", "house", "LWhereTheSpoonWent$House;", true)
  | 1 => ("WhereTheSpoonWent$Flight", "law", "LWhereTheSpoonWent$Text;", false)
  | 2 => ("WhereTheSpoonWent$Flight", "kind", "LWhereTheSpoonWent$Thing;", false)
  | 3 => ("WhereTheSpoonWent$Flight", "nets", "I", false)
  | 4 => ("WhereTheSpoonWent$Flight", "number", "I", false)
  | 5 => ("WhereTheSpoonWent$Flight", "more", "I", false)
  | 6 => ("WhereTheSpoonWent$Flight", "cell", "I", false)
  | _ => ("WhereTheSpoonWent$Flight", "way", "I", false)
def tyX1 : Nat → FieldType := fun k => match k with
  | 0 => .object "WhereTheSpoonWent$House"
  | 1 => .object "WhereTheSpoonWent$Text"
  | 2 => .object "WhereTheSpoonWent$Thing"
  | 3 => .int
  | 4 => .int
  | 5 => .int
  | 6 => .int
  | _ => .int
abbrev wsX10 : List Cond := u_ws RX1 TX1 8
theorem nmX1 : ∀ a, a < 8 → ∀ b, b < 8 → a ≠ b → (TX1 a).2.1 ≠ (TX1 b).2.1 := by decide +kernel
theorem tyX1_ok : ∀ k, k < 8 → parseFieldDescriptor (TX1 k).2.2.1 = some (tyX1 k) := by decide +kernel
abbrev cX1_init : ByteArray := prog_3_method_1_code
def yX1_init : MethodName := ⟨RX1, "<init>", "(LWhereTheSpoonWent$House;)V"⟩
abbrev cX1_passAll : ByteArray := prog_3_method_2_code
def yX1_passAll : MethodName := ⟨RX1, "passAll", "(II)V"⟩
abbrev cX1_pass : ByteArray := prog_3_method_3_code
def yX1_pass : MethodName := ⟨RX1, "pass", "(I)V"⟩
def RX2 : String := "WhereTheSpoonWent$Heavy"
def TX2 : u_T := fun k => match k with
  | _ => ("", "", "", false)
def tyX2 : Nat → FieldType := fun k => match k with
  | _ => .int
abbrev wsX20 : List Cond := u_ws RX2 TX2 0
theorem nmX2 : ∀ a, a < 0 → ∀ b, b < 0 → a ≠ b → (TX2 a).2.1 ≠ (TX2 b).2.1 := by decide +kernel
theorem tyX2_ok : ∀ k, k < 0 → parseFieldDescriptor (TX2 k).2.2.1 = some (tyX2 k) := by decide +kernel
abbrev cX2_init : ByteArray := prog_4_method_1_code
def yX2_init : MethodName := ⟨RX2, "<init>", "()V"⟩
abbrev cX2_isOne : ByteArray := prog_4_method_2_code
def yX2_isOne : MethodName := ⟨RX2, "isOne", "(I)Z"⟩
abbrev cX2_blown : ByteArray := prog_4_method_3_code
def yX2_blown : MethodName := ⟨RX2, "blown", "(II)I"⟩
def RX3 : String := "WhereTheSpoonWent$House"
def TX3 : u_T := fun k => match k with
  | 0 => ("WhereTheSpoonWent$House", "walls", "I", false)
  | 1 => ("WhereTheSpoonWent$House", "nets", "I", false)
  | 2 => ("WhereTheSpoonWent$House", "fans", "I", false)
  | 3 => ("WhereTheSpoonWent$House", "step", "I", false)
  | 4 => ("WhereTheSpoonWent$House", "law", "I", false)
  | 5 => ("WhereTheSpoonWent$House", "things", "I", false)
  | 6 => ("WhereTheSpoonWent$House", "kinds", "[I", true)
  | 7 => ("WhereTheSpoonWent$House", "mores", "[I", true)
  | 8 => ("WhereTheSpoonWent$House", "cells", "[I", true)
  | _ => ("WhereTheSpoonWent$House", "ways", "[I", true)
def tyX3 : Nat → FieldType := fun k => match k with
  | 0 => .int
  | 1 => .int
  | 2 => .int
  | 3 => .int
  | 4 => .int
  | 5 => .int
  | 6 => .array .int
  | 7 => .array .int
  | 8 => .array .int
  | _ => .array .int
abbrev wsX30 : List Cond := u_ws RX3 TX3 10
theorem nmX3 : ∀ a, a < 10 → ∀ b, b < 10 → a ≠ b → (TX3 a).2.1 ≠ (TX3 b).2.1 := by decide +kernel
theorem tyX3_ok : ∀ k, k < 10 → parseFieldDescriptor (TX3 k).2.2.1 = some (tyX3 k) := by decide +kernel
abbrev cX3_init : ByteArray := prog_5_method_1_code
def yX3_init : MethodName := ⟨RX3, "<init>", "()V"⟩
abbrev cX3_become : ByteArray := prog_5_method_2_code
def yX3_become : MethodName := ⟨RX3, "become", "(LWhereTheSpoonWent$House;)V"⟩
abbrev cX3_bits : ByteArray := prog_5_method_3_code
def yX3_bits : MethodName := ⟨RX3, "bits", "(I)I"⟩
abbrev cX3_flip : ByteArray := prog_5_method_4_code
def yX3_flip : MethodName := ⟨RX3, "flip", "(II)V"⟩
abbrev cX3_beyond : ByteArray := prog_5_method_5_code
def yX3_beyond : MethodName := ⟨RX3, "beyond", "(II)I"⟩
def RX4 : String := "WhereTheSpoonWent$Reader"
def TX4 : u_T := fun k => match k with
  | 0 => ("WhereTheSpoonWent$Reader", "bytes", "[B", true)
  | 1 => ("WhereTheSpoonWent$Reader", "size", "I", false)
  | 2 => ("WhereTheSpoonWent$Reader", "token", "I", false)
  | 3 => ("WhereTheSpoonWent$Reader", "start", "I", false)
  | 4 => ("WhereTheSpoonWent$Reader", "next", "I", false)
  | 5 => ("WhereTheSpoonWent$Reader", "fault", "I", false)
  | _ => ("WhereTheSpoonWent$Reader", "out", "LWhereTheSpoonWent$Text;", false)
def tyX4 : Nat → FieldType := fun k => match k with
  | 0 => .array .byte
  | 1 => .int
  | 2 => .int
  | 3 => .int
  | 4 => .int
  | 5 => .int
  | _ => .object "WhereTheSpoonWent$Text"
abbrev wsX40 : List Cond := u_ws RX4 TX4 7
theorem nmX4 : ∀ a, a < 7 → ∀ b, b < 7 → a ≠ b → (TX4 a).2.1 ≠ (TX4 b).2.1 := by decide +kernel
theorem tyX4_ok : ∀ k, k < 7 → parseFieldDescriptor (TX4 k).2.2.1 = some (tyX4 k) := by decide +kernel
abbrev cX4_init : ByteArray := prog_6_method_1_code
def yX4_init : MethodName := ⟨RX4, "<init>", "()V"⟩
abbrev cX4_add : ByteArray := prog_6_method_2_code
def yX4_add : MethodName := ⟨RX4, "add", "(I)V"⟩
abbrev cX4_read : ByteArray := prog_6_method_3_code
def yX4_read : MethodName := ⟨RX4, "read", "(LWhereTheSpoonWent$Text;)I"⟩
abbrev cX4_readPart : ByteArray := prog_6_method_4_code
def yX4_readPart : MethodName := ⟨RX4, "readPart", "(I)V"⟩
abbrev cX4_readOr : ByteArray := prog_6_method_5_code
def yX4_readOr : MethodName := ⟨RX4, "readOr", "(I)V"⟩
abbrev cX4_readAnd : ByteArray := prog_6_method_6_code
def yX4_readAnd : MethodName := ⟨RX4, "readAnd", "(I)V"⟩
abbrev cX4_readNot : ByteArray := prog_6_method_7_code
def yX4_readNot : MethodName := ⟨RX4, "readNot", "(I)V"⟩
abbrev cX4_readSum : ByteArray := prog_6_method_8_code
def yX4_readSum : MethodName := ⟨RX4, "readSum", "(I)V"⟩
abbrev cX4_readTerm : ByteArray := prog_6_method_9_code
def yX4_readTerm : MethodName := ⟨RX4, "readTerm", "(I)V"⟩
abbrev cX4_readOne : ByteArray := prog_6_method_10_code
def yX4_readOne : MethodName := ⟨RX4, "readOne", "(I)V"⟩
abbrev cX4_take : ByteArray := prog_6_method_11_code
def yX4_take : MethodName := ⟨RX4, "take", "(I)V"⟩
abbrev cX4_fail : ByteArray := prog_6_method_12_code
def yX4_fail : MethodName := ⟨RX4, "fail", "()V"⟩
abbrev cX4_goOn : ByteArray := prog_6_method_13_code
def yX4_goOn : MethodName := ⟨RX4, "goOn", "()V"⟩
abbrev cX4_goOnNumber : ByteArray := prog_6_method_14_code
def yX4_goOnNumber : MethodName := ⟨RX4, "goOnNumber", "()V"⟩
abbrev cX4_goOnWord : ByteArray := prog_6_method_15_code
def yX4_goOnWord : MethodName := ⟨RX4, "goOnWord", "()V"⟩
abbrev cX4_isWord : ByteArray := prog_6_method_16_code
def yX4_isWord : MethodName := ⟨RX4, "isWord", "(Ljava/lang/String;)Z"⟩
abbrev cX4_isDigit : ByteArray := prog_6_method_17_code
def yX4_isDigit : MethodName := ⟨RX4, "isDigit", "(I)Z"⟩
abbrev cX4_isLetter : ByteArray := prog_6_method_18_code
def yX4_isLetter : MethodName := ⟨RX4, "isLetter", "(I)Z"⟩
abbrev cX4_signOf : ByteArray := prog_6_method_19_code
def yX4_signOf : MethodName := ⟨RX4, "signOf", "(I)I"⟩
def RX5 : String := "WhereTheSpoonWent$Screw"
def TX5 : u_T := fun k => match k with
  | _ => ("", "", "", false)
def tyX5 : Nat → FieldType := fun k => match k with
  | _ => .int
abbrev wsX50 : List Cond := u_ws RX5 TX5 0
theorem nmX5 : ∀ a, a < 0 → ∀ b, b < 0 → a ≠ b → (TX5 a).2.1 ≠ (TX5 b).2.1 := by decide +kernel
theorem tyX5_ok : ∀ k, k < 0 → parseFieldDescriptor (TX5 k).2.2.1 = some (tyX5 k) := by decide +kernel
abbrev cX5_init : ByteArray := prog_7_method_1_code
def yX5_init : MethodName := ⟨RX5, "<init>", "()V"⟩
abbrev cX5_isOne : ByteArray := prog_7_method_2_code
def yX5_isOne : MethodName := ⟨RX5, "isOne", "(I)Z"⟩
abbrev cX5_touching : ByteArray := prog_7_method_3_code
def yX5_touching : MethodName := ⟨RX5, "touching", "(I)I"⟩
def RX6 : String := "WhereTheSpoonWent$Sheet"
def TX6 : u_T := fun k => match k with
  | 0 => ("WhereTheSpoonWent$Sheet", "numbers", "[I", true)
  | 1 => ("WhereTheSpoonWent$Sheet", "sort", "I", false)
  | _ => ("WhereTheSpoonWent$Sheet", "size", "I", false)
def tyX6 : Nat → FieldType := fun k => match k with
  | 0 => .array .int
  | 1 => .int
  | _ => .int
abbrev wsX60 : List Cond := u_ws RX6 TX6 3
theorem nmX6 : ∀ a, a < 3 → ∀ b, b < 3 → a ≠ b → (TX6 a).2.1 ≠ (TX6 b).2.1 := by decide +kernel
theorem tyX6_ok : ∀ k, k < 3 → parseFieldDescriptor (TX6 k).2.2.1 = some (tyX6 k) := by decide +kernel
abbrev cX6_init : ByteArray := prog_8_method_1_code
def yX6_init : MethodName := ⟨RX6, "<init>", "()V"⟩
abbrev cX6_become : ByteArray := prog_8_method_2_code
def yX6_become : MethodName := ⟨RX6, "become", "(II)V"⟩
abbrev cX6_holds : ByteArray := prog_8_method_3_code
def yX6_holds : MethodName := ⟨RX6, "holds", "(II)Z"⟩
abbrev cX6_write : ByteArray := prog_8_method_4_code
def yX6_write : MethodName := ⟨RX6, "write", "(II)V"⟩
def RX7 : String := "WhereTheSpoonWent$Sticky"
def TX7 : u_T := fun k => match k with
  | _ => ("", "", "", false)
def tyX7 : Nat → FieldType := fun k => match k with
  | _ => .int
abbrev wsX70 : List Cond := u_ws RX7 TX7 0
theorem nmX7 : ∀ a, a < 0 → ∀ b, b < 0 → a ≠ b → (TX7 a).2.1 ≠ (TX7 b).2.1 := by decide +kernel
theorem tyX7_ok : ∀ k, k < 0 → parseFieldDescriptor (TX7 k).2.2.1 = some (tyX7 k) := by decide +kernel
abbrev cX7_init : ByteArray := prog_9_method_1_code
def yX7_init : MethodName := ⟨RX7, "<init>", "()V"⟩
abbrev cX7_isOne : ByteArray := prog_9_method_2_code
def yX7_isOne : MethodName := ⟨RX7, "isOne", "(I)Z"⟩
abbrev cX7_touching : ByteArray := prog_9_method_3_code
def yX7_touching : MethodName := ⟨RX7, "touching", "(I)I"⟩
def RX8 : String := "WhereTheSpoonWent$Tear"
def TX8 : u_T := fun k => match k with
  | _ => ("", "", "", false)
def tyX8 : Nat → FieldType := fun k => match k with
  | _ => .int
abbrev wsX80 : List Cond := u_ws RX8 TX8 0
theorem nmX8 : ∀ a, a < 0 → ∀ b, b < 0 → a ≠ b → (TX8 a).2.1 ≠ (TX8 b).2.1 := by decide +kernel
theorem tyX8_ok : ∀ k, k < 0 → parseFieldDescriptor (TX8 k).2.2.1 = some (tyX8 k) := by decide +kernel
abbrev cX8_init : ByteArray := prog_10_method_1_code
def yX8_init : MethodName := ⟨RX8, "<init>", "()V"⟩
abbrev cX8_isOne : ByteArray := prog_10_method_2_code
def yX8_isOne : MethodName := ⟨RX8, "isOne", "(I)Z"⟩
abbrev cX8_moves : ByteArray := prog_10_method_3_code
def yX8_moves : MethodName := ⟨RX8, "moves", "(II)Z"⟩
def RX9 : String := "WhereTheSpoonWent$Text"
def TX9 : u_T := fun k => match k with
  | 0 => ("WhereTheSpoonWent$Text", "codes", "[I", true)
  | 1 => ("WhereTheSpoonWent$Text", "starts", "[I", true)
  | 2 => ("WhereTheSpoonWent$Text", "stack", "[I", true)
  | 3 => ("WhereTheSpoonWent$Text", "used", "I", false)
  | _ => ("WhereTheSpoonWent$Text", "parts", "I", false)
def tyX9 : Nat → FieldType := fun k => match k with
  | 0 => .array .int
  | 1 => .array .int
  | 2 => .array .int
  | 3 => .int
  | _ => .int
abbrev wsX90 : List Cond := u_ws RX9 TX9 5
theorem nmX9 : ∀ a, a < 5 → ∀ b, b < 5 → a ≠ b → (TX9 a).2.1 ≠ (TX9 b).2.1 := by decide +kernel
theorem tyX9_ok : ∀ k, k < 5 → parseFieldDescriptor (TX9 k).2.2.1 = some (tyX9 k) := by decide +kernel
abbrev cX9_init : ByteArray := prog_11_method_1_code
def yX9_init : MethodName := ⟨RX9, "<init>", "([I)V"⟩
abbrev cX9_clear : ByteArray := prog_11_method_2_code
def yX9_clear : MethodName := ⟨RX9, "clear", "()V"⟩
abbrev cX9_add : ByteArray := prog_11_method_3_code
def yX9_add : MethodName := ⟨RX9, "add", "(I)V"⟩
abbrev cX9_endPart : ByteArray := prog_11_method_4_code
def yX9_endPart : MethodName := ⟨RX9, "endPart", "()V"⟩
abbrev cX9_becomeNumbers : ByteArray := prog_11_method_5_code
def yX9_becomeNumbers : MethodName := ⟨RX9, "becomeNumbers", "(III)V"⟩
abbrev cX9_says : ByteArray := prog_11_method_6_code
def yX9_says : MethodName := ⟨RX9, "says", "(IIIII)I"⟩
abbrev cX9_leaf : ByteArray := prog_11_method_7_code
def yX9_leaf : MethodName := ⟨RX9, "leaf", "(IIIII)I"⟩
abbrev cX9_joined : ByteArray := prog_11_method_8_code
def yX9_joined : MethodName := ⟨RX9, "joined", "(III)I"⟩
def RX10 : String := "WhereTheSpoonWent$Thing"
def TX10 : u_T := fun k => match k with
  | _ => ("", "", "", false)
def tyX10 : Nat → FieldType := fun k => match k with
  | _ => .int
abbrev wsX100 : List Cond := u_ws RX10 TX10 0
theorem nmX10 : ∀ a, a < 0 → ∀ b, b < 0 → a ≠ b → (TX10 a).2.1 ≠ (TX10 b).2.1 := by decide +kernel
theorem tyX10_ok : ∀ k, k < 0 → parseFieldDescriptor (TX10 k).2.2.1 = some (tyX10 k) := by decide +kernel
abbrev cX10_init : ByteArray := prog_12_method_1_code
def yX10_init : MethodName := ⟨RX10, "<init>", "()V"⟩
abbrev cX10_isOne : ByteArray := prog_12_method_2_code
def yX10_isOne : MethodName := ⟨RX10, "isOne", "(I)Z"⟩
abbrev cX10_touching : ByteArray := prog_12_method_3_code
def yX10_touching : MethodName := ⟨RX10, "touching", "(I)I"⟩
abbrev cX10_moves : ByteArray := prog_12_method_4_code
def yX10_moves : MethodName := ⟨RX10, "moves", "(II)Z"⟩
abbrev cX10_blown : ByteArray := prog_12_method_5_code
def yX10_blown : MethodName := ⟨RX10, "blown", "(II)I"⟩
def RX11 : String := "WhereTheSpoonWent"
def TX11 : u_T := fun k => match k with
  | 0 => ("WhereTheSpoonWent", "now", "LWhereTheSpoonWent$House;", true)
  | 1 => ("WhereTheSpoonWent", "kept", "LWhereTheSpoonWent$House;", true)
  | 2 => ("WhereTheSpoonWent", "isKept", "Z", false)
  | 3 => ("WhereTheSpoonWent", "kinds", "[LWhereTheSpoonWent$Thing;", true)
  | 4 => ("WhereTheSpoonWent", "texts", "[LWhereTheSpoonWent$Text;", true)
  | 5 => ("WhereTheSpoonWent", "textCount", "I", false)
  | 6 => ("WhereTheSpoonWent", "reader", "LWhereTheSpoonWent$Reader;", true)
  | 7 => ("WhereTheSpoonWent", "sheets", "[LWhereTheSpoonWent$Sheet;", true)
  | 8 => ("WhereTheSpoonWent", "flight", "LWhereTheSpoonWent$Flight;", true)
  | 9 => ("WhereTheSpoonWent", "path", "[I", true)
  | 10 => ("WhereTheSpoonWent", "far", "[I", true)
  | 11 => ("WhereTheSpoonWent", "queue", "[I", true)
  | 12 => ("WhereTheSpoonWent", "ends", "[I", true)
  | _ => ("WhereTheSpoonWent", "tally", "[I", true)
def tyX11 : Nat → FieldType := fun k => match k with
  | 0 => .object "WhereTheSpoonWent$House"
  | 1 => .object "WhereTheSpoonWent$House"
  | 2 => .boolean
  | 3 => .array (.object "WhereTheSpoonWent$Thing")
  | 4 => .array (.object "WhereTheSpoonWent$Text")
  | 5 => .int
  | 6 => .object "WhereTheSpoonWent$Reader"
  | 7 => .array (.object "WhereTheSpoonWent$Sheet")
  | 8 => .object "WhereTheSpoonWent$Flight"
  | 9 => .array .int
  | 10 => .array .int
  | 11 => .array .int
  | 12 => .array .int
  | _ => .array .int
abbrev wsX110 : List Cond := u_ws RX11 TX11 14
theorem nmX11 : ∀ a, a < 14 → ∀ b, b < 14 → a ≠ b → (TX11 a).2.1 ≠ (TX11 b).2.1 := by decide +kernel
theorem tyX11_ok : ∀ k, k < 14 → parseFieldDescriptor (TX11 k).2.2.1 = some (tyX11 k) := by decide +kernel
abbrev cX11_init : ByteArray := prog_1_method_1_code
def yX11_init : MethodName := ⟨RX11, "<init>", "()V"⟩
abbrev cX11_house : ByteArray := prog_1_method_2_code
def yX11_house : MethodName := ⟨RX11, "house", "(III)I"⟩
abbrev cX11_set : ByteArray := prog_1_method_3_code
def yX11_set : MethodName := ⟨RX11, "set", "(I)I"⟩
abbrev cX11_count : ByteArray := prog_1_method_4_code
def yX11_count : MethodName := ⟨RX11, "count", "(I)I"⟩
abbrev cX11_feed : ByteArray := prog_1_method_5_code
def yX11_feed : MethodName := ⟨RX11, "feed", "(IIIIII)I"⟩
abbrev cX11_text : ByteArray := prog_1_method_6_code
def yX11_text : MethodName := ⟨RX11, "text", "()I"⟩
abbrev cX11_force : ByteArray := prog_1_method_7_code
def yX11_force : MethodName := ⟨RX11, "force", "(I)I"⟩
abbrev cX11_asks : ByteArray := prog_1_method_8_code
def yX11_asks : MethodName := ⟨RX11, "asks", "(IIII)I"⟩
abbrev cX11_thing : ByteArray := prog_1_method_9_code
def yX11_thing : MethodName := ⟨RX11, "thing", "(III)I"⟩
abbrev cX11_put : ByteArray := prog_1_method_10_code
def yX11_put : MethodName := ⟨RX11, "put", "(III)I"⟩
abbrev cX11_told : ByteArray := prog_1_method_11_code
def yX11_told : MethodName := ⟨RX11, "told", "(II)I"⟩
abbrev cX11_at : ByteArray := prog_1_method_12_code
def yX11_at : MethodName := ⟨RX11, "at", "(III)I"⟩
abbrev cX11_run : ByteArray := prog_1_method_13_code
def yX11_run : MethodName := ⟨RX11, "run", "(I)I"⟩
abbrev cX11_when : ByteArray := prog_1_method_14_code
def yX11_when : MethodName := ⟨RX11, "when", "(II)I"⟩
abbrev cX11_meet : ByteArray := prog_1_method_15_code
def yX11_meet : MethodName := ⟨RX11, "meet", "(II)I"⟩
abbrev cX11_inside : ByteArray := prog_1_method_16_code
def yX11_inside : MethodName := ⟨RX11, "inside", "(II)I"⟩
abbrev cX11_hand : ByteArray := prog_1_method_17_code
def yX11_hand : MethodName := ⟨RX11, "hand", "(II)I"⟩
abbrev cX11_first : ByteArray := prog_1_method_18_code
def yX11_first : MethodName := ⟨RX11, "first", "(II)I"⟩
abbrev cX11_wait : ByteArray := prog_1_method_19_code
def yX11_wait : MethodName := ⟨RX11, "wait", "(II)I"⟩
abbrev cX11_toss : ByteArray := prog_1_method_20_code
def yX11_toss : MethodName := ⟨RX11, "toss", "(III)I"⟩
abbrev cX11_key : ByteArray := prog_1_method_21_code
def yX11_key : MethodName := ⟨RX11, "key", "()I"⟩
abbrev cX11_turn : ByteArray := prog_1_method_22_code
def yX11_turn : MethodName := ⟨RX11, "turn", "(III)I"⟩
abbrev cX11_net : ByteArray := prog_1_method_23_code
def yX11_net : MethodName := ⟨RX11, "net", "(II)I"⟩
abbrev cX11_can : ByteArray := prog_1_method_24_code
def yX11_can : MethodName := ⟨RX11, "can", "(II)I"⟩
abbrev cX11_look : ByteArray := prog_1_method_25_code
def yX11_look : MethodName := ⟨RX11, "look", "(III)I"⟩
abbrev cX11_went : ByteArray := prog_1_method_26_code
def yX11_went : MethodName := ⟨RX11, "went", "(III)I"⟩
abbrev cX11_search : ByteArray := prog_1_method_27_code
def yX11_search : MethodName := ⟨RX11, "search", "(III)J"⟩
abbrev cX11_judge : ByteArray := prog_1_method_28_code
def yX11_judge : MethodName := ⟨RX11, "judge", "(II)I"⟩
abbrev cX11_times : ByteArray := prog_1_method_29_code
def yX11_times : MethodName := ⟨RX11, "times", "(I)J"⟩
abbrev cX11_laws : ByteArray := prog_1_method_30_code
def yX11_laws : MethodName := ⟨RX11, "laws", "(II)I"⟩
abbrev cX11_film : ByteArray := prog_1_method_31_code
def yX11_film : MethodName := ⟨RX11, "film", "(II)I"⟩
abbrev cX11_drawn : ByteArray := prog_1_method_32_code
def yX11_drawn : MethodName := ⟨RX11, "drawn", "(III)I"⟩
abbrev cX11_mean : ByteArray := prog_1_method_33_code
def yX11_mean : MethodName := ⟨RX11, "mean", "(IIII)J"⟩
abbrev cX11_image : ByteArray := prog_1_method_34_code
def yX11_image : MethodName := ⟨RX11, "image", "()I"⟩
abbrev cX11_back : ByteArray := prog_1_method_35_code
def yX11_back : MethodName := ⟨RX11, "back", "()I"⟩
abbrev cX11_sheet : ByteArray := prog_1_method_36_code
def yX11_sheet : MethodName := ⟨RX11, "sheet", "(III)I"⟩
abbrev cX11_cell : ByteArray := prog_1_method_37_code
def yX11_cell : MethodName := ⟨RX11, "cell", "(III)I"⟩
abbrev cX11_copy : ByteArray := prog_1_method_38_code
def yX11_copy : MethodName := ⟨RX11, "copy", "(IIIII)I"⟩
abbrev cX11_thingsBy : ByteArray := prog_1_method_39_code
def yX11_thingsBy : MethodName := ⟨RX11, "thingsBy", "(IIII)I"⟩
abbrev cX11_taken : ByteArray := prog_1_method_40_code
def yX11_taken : MethodName := ⟨RX11, "taken", "(II)I"⟩
abbrev cX11_isCell : ByteArray := prog_1_method_41_code
def yX11_isCell : MethodName := ⟨RX11, "isCell", "(I)Z"⟩
abbrev cX11_isOpen : ByteArray := prog_1_method_42_code
def yX11_isOpen : MethodName := ⟨RX11, "isOpen", "(I)Z"⟩
abbrev cX11_isWay : ByteArray := prog_1_method_43_code
def yX11_isWay : MethodName := ⟨RX11, "isWay", "(I)Z"⟩
abbrev cX11_isStep : ByteArray := prog_1_method_44_code
def yX11_isStep : MethodName := ⟨RX11, "isStep", "(I)Z"⟩
abbrev cX11_isBehind : ByteArray := prog_1_method_45_code
def yX11_isBehind : MethodName := ⟨RX11, "isBehind", "(I)Z"⟩
abbrev cX11_isByte : ByteArray := prog_1_method_46_code
def yX11_isByte : MethodName := ⟨RX11, "isByte", "(I)Z"⟩
abbrev cX11_isSeed : ByteArray := prog_1_method_47_code
def yX11_isSeed : MethodName := ⟨RX11, "isSeed", "(I)Z"⟩
abbrev cX11_isSheet : ByteArray := prog_1_method_48_code
def yX11_isSheet : MethodName := ⟨RX11, "isSheet", "(I)Z"⟩
abbrev cX11_isChoice : ByteArray := prog_1_method_49_code
def yX11_isChoice : MethodName := ⟨RX11, "isChoice", "(I)Z"⟩
abbrev cX11_isThing : ByteArray := prog_1_method_50_code
def yX11_isThing : MethodName := ⟨RX11, "isThing", "(I)Z"⟩
abbrev cX11_has : ByteArray := prog_1_method_51_code
def yX11_has : MethodName := ⟨RX11, "has", "(II)Z"⟩
abbrev cX11_turned : ByteArray := prog_1_method_52_code
def yX11_turned : MethodName := ⟨RX11, "turned", "(I)I"⟩
abbrev cX11_isAnyThingIn : ByteArray := prog_1_method_53_code
def yX11_isAnyThingIn : MethodName := ⟨RX11, "isAnyThingIn", "(I)Z"⟩
abbrev cX11_law : ByteArray := prog_1_method_54_code
def yX11_law : MethodName := ⟨RX11, "law", "()LWhereTheSpoonWent$Text;"⟩
abbrev cX11_says : ByteArray := prog_1_method_55_code
def yX11_says : MethodName := ⟨RX11, "says", "(III)I"⟩
abbrev cX11_lift : ByteArray := prog_1_method_56_code
def yX11_lift : MethodName := ⟨RX11, "lift", "(I)LWhereTheSpoonWent$Flight;"⟩
abbrev cX11_letGo : ByteArray := prog_1_method_57_code
def yX11_letGo : MethodName := ⟨RX11, "letGo", "(II)LWhereTheSpoonWent$Flight;"⟩
abbrev cX11_behind : ByteArray := prog_1_method_58_code
def yX11_behind : MethodName := ⟨RX11, "behind", "(II)LWhereTheSpoonWent$Flight;"⟩
abbrev cX11_endOf : ByteArray := prog_1_method_59_code
def yX11_endOf : MethodName := ⟨RX11, "endOf", "(III)I"⟩
abbrev cX11_follow : ByteArray := prog_1_method_60_code
def yX11_follow : MethodName := ⟨RX11, "follow", "(LWhereTheSpoonWent$Flight;)V"⟩
abbrev cX11_followTurned : ByteArray := prog_1_method_61_code
def yX11_followTurned : MethodName := ⟨RX11, "followTurned", "(LWhereTheSpoonWent$Flight;I)V"⟩
abbrev cX11_firstIn : ByteArray := prog_1_method_62_code
def yX11_firstIn : MethodName := ⟨RX11, "firstIn", "(I)I"⟩
abbrev cX11_measure : ByteArray := prog_1_method_63_code
def yX11_measure : MethodName := ⟨RX11, "measure", "(I)V"⟩
abbrev cX11_soonest : ByteArray := prog_1_method_64_code
def yX11_soonest : MethodName := ⟨RX11, "soonest", "(II)I"⟩
abbrev cX11_caught : ByteArray := prog_1_method_65_code
def yX11_caught : MethodName := ⟨RX11, "caught", "(II)I"⟩
abbrev cX11_tallyEnds : ByteArray := prog_1_method_66_code
def yX11_tallyEnds : MethodName := ⟨RX11, "tallyEnds", "(II)V"⟩
abbrev cX11_countAhead : ByteArray := prog_1_method_67_code
def yX11_countAhead : MethodName := ⟨RX11, "countAhead", "(I)I"⟩
abbrev cX11_fraction : ByteArray := prog_1_method_68_code
def yX11_fraction : MethodName := ⟨RX11, "fraction", "(III)J"⟩
abbrev cX11_refusalOfPlaces : ByteArray := prog_1_method_69_code
def yX11_refusalOfPlaces : MethodName := ⟨RX11, "refusalOfPlaces", "(I)I"⟩
abbrev cX11_firstElsewhere : ByteArray := prog_1_method_70_code
def yX11_firstElsewhere : MethodName := ⟨RX11, "firstElsewhere", "(IILWhereTheSpoonWent$Text;)I"⟩
abbrev cX11_listEnds : ByteArray := prog_1_method_71_code
def yX11_listEnds : MethodName := ⟨RX11, "listEnds", "(I)V"⟩
abbrev cX11_countDrawn : ByteArray := prog_1_method_72_code
def yX11_countDrawn : MethodName := ⟨RX11, "countDrawn", "(II)I"⟩
abbrev cX11_takenCell : ByteArray := prog_1_method_73_code
def yX11_takenCell : MethodName := ⟨RX11, "takenCell", "(II)I"⟩
abbrev cX11_takenThing : ByteArray := prog_1_method_74_code
def yX11_takenThing : MethodName := ⟨RX11, "takenThing", "(II)I"⟩
def RX12 : String := "WhereTheSpoonWentModel"
def TX12 : u_T := fun k => match k with
  | 0 => ("WhereTheSpoonWentModel", "sets", "[I", true)
  | 1 => ("WhereTheSpoonWentModel", "step", "I", false)
  | 2 => ("WhereTheSpoonWentModel", "things", "I", false)
  | 3 => ("WhereTheSpoonWentModel", "kind", "[I", true)
  | 4 => ("WhereTheSpoonWentModel", "moreOf", "[I", true)
  | 5 => ("WhereTheSpoonWentModel", "cellOf", "[I", true)
  | 6 => ("WhereTheSpoonWentModel", "wayOf", "[I", true)
  | 7 => ("WhereTheSpoonWentModel", "tape", "[I", true)
  | 8 => ("WhereTheSpoonWentModel", "taped", "I", false)
  | 9 => ("WhereTheSpoonWentModel", "codes", "[I", true)
  | 10 => ("WhereTheSpoonWentModel", "starts", "[I", true)
  | 11 => ("WhereTheSpoonWentModel", "texts", "I", false)
  | 12 => ("WhereTheSpoonWentModel", "rule", "I", false)
  | 13 => ("WhereTheSpoonWentModel", "hasImage", "Z", false)
  | 14 => ("WhereTheSpoonWentModel", "imageThings", "I", false)
  | 15 => ("WhereTheSpoonWentModel", "imageRule", "I", false)
  | 16 => ("WhereTheSpoonWentModel", "imageRows", "[I", true)
  | 17 => ("WhereTheSpoonWentModel", "sheetSort", "[I", true)
  | 18 => ("WhereTheSpoonWentModel", "sheetSize", "[I", true)
  | 19 => ("WhereTheSpoonWentModel", "cells", "[I", true)
  | 20 => ("WhereTheSpoonWentModel", "law", "[I", true)
  | 21 => ("WhereTheSpoonWentModel", "at", "I", false)
  | 22 => ("WhereTheSpoonWentModel", "begun", "I", false)
  | 23 => ("WhereTheSpoonWentModel", "token", "I", false)
  | 24 => ("WhereTheSpoonWentModel", "value", "I", false)
  | 25 => ("WhereTheSpoonWentModel", "words", "[I", true)
  | 26 => ("WhereTheSpoonWentModel", "held", "[I", true)
  | 27 => ("WhereTheSpoonWentModel", "heldMany", "I", false)
  | 28 => ("WhereTheSpoonWentModel", "opens", "I", false)
  | 29 => ("WhereTheSpoonWentModel", "out", "I", false)
  | 30 => ("WhereTheSpoonWentModel", "stack", "[I", true)
  | 31 => ("WhereTheSpoonWentModel", "named", "[I", true)
  | 32 => ("WhereTheSpoonWentModel", "now", "I", false)
  | 33 => ("WhereTheSpoonWentModel", "way", "I", false)
  | 34 => ("WhereTheSpoonWentModel", "far", "[I", true)
  | _ => ("WhereTheSpoonWentModel", "wentTo", "[I", true)
def tyX12 : Nat → FieldType := fun k => match k with
  | 0 => .array .int
  | 1 => .int
  | 2 => .int
  | 3 => .array .int
  | 4 => .array .int
  | 5 => .array .int
  | 6 => .array .int
  | 7 => .array .int
  | 8 => .int
  | 9 => .array .int
  | 10 => .array .int
  | 11 => .int
  | 12 => .int
  | 13 => .boolean
  | 14 => .int
  | 15 => .int
  | 16 => .array .int
  | 17 => .array .int
  | 18 => .array .int
  | 19 => .array .int
  | 20 => .array .int
  | 21 => .int
  | 22 => .int
  | 23 => .int
  | 24 => .int
  | 25 => .array .int
  | 26 => .array .int
  | 27 => .int
  | 28 => .int
  | 29 => .int
  | 30 => .array .int
  | 31 => .array .int
  | 32 => .int
  | 33 => .int
  | 34 => .array .int
  | _ => .array .int
abbrev wsX120 : List Cond := u_ws RX12 TX12 36
theorem nmX12 : ∀ a, a < 36 → ∀ b, b < 36 → a ≠ b → (TX12 a).2.1 ≠ (TX12 b).2.1 := by decide +kernel
theorem tyX12_ok : ∀ k, k < 36 → parseFieldDescriptor (TX12 k).2.2.1 = some (tyX12 k) := by decide +kernel
abbrev cX12_init : ByteArray := prog_14_method_1_code
def yX12_init : MethodName := ⟨RX12, "<init>", "()V"⟩
abbrev cX12_in : ByteArray := prog_14_method_3_code
def yX12_in : MethodName := ⟨RX12, "in", "(III)Z"⟩
abbrev cX12_within : ByteArray := prog_14_method_4_code
def yX12_within : MethodName := ⟨RX12, "within", "(III)I"⟩
abbrev cX12_isCell : ByteArray := prog_14_method_5_code
def yX12_isCell : MethodName := ⟨RX12, "isCell", "(I)Z"⟩
abbrev cX12_has : ByteArray := prog_14_method_6_code
def yX12_has : MethodName := ⟨RX12, "has", "(II)Z"⟩
abbrev cX12_isFree : ByteArray := prog_14_method_7_code
def yX12_isFree : MethodName := ⟨RX12, "isFree", "(I)Z"⟩
abbrev cX12_isThing : ByteArray := prog_14_method_8_code
def yX12_isThing : MethodName := ⟨RX12, "isThing", "(I)Z"⟩
abbrev cX12_areSteps : ByteArray := prog_14_method_9_code
def yX12_areSteps : MethodName := ⟨RX12, "areSteps", "(I)Z"⟩
abbrev cX12_isThere : ByteArray := prog_14_method_10_code
def yX12_isThere : MethodName := ⟨RX12, "isThere", "(I)Z"⟩
abbrev cX12_house : ByteArray := prog_14_method_11_code
def yX12_house : MethodName := ⟨RX12, "house", "(III)I"⟩
abbrev cX12_set : ByteArray := prog_14_method_12_code
def yX12_set : MethodName := ⟨RX12, "set", "(I)I"⟩
abbrev cX12_count : ByteArray := prog_14_method_13_code
def yX12_count : MethodName := ⟨RX12, "count", "(I)I"⟩
abbrev cX12_isByte : ByteArray := prog_14_method_14_code
def yX12_isByte : MethodName := ⟨RX12, "isByte", "(I)Z"⟩
abbrev cX12_feed : ByteArray := prog_14_method_15_code
def yX12_feed : MethodName := ⟨RX12, "feed", "(IIIIII)I"⟩
abbrev cX12_wordFrom : ByteArray := prog_14_method_16_code
def yX12_wordFrom : MethodName := ⟨RX12, "wordFrom", "(II)I"⟩
abbrev cX12_next : ByteArray := prog_14_method_17_code
def yX12_next : MethodName := ⟨RX12, "next", "()V"⟩
abbrev cX12_rank : ByteArray := prog_14_method_18_code
def yX12_rank : MethodName := ⟨RX12, "rank", "(I)I"⟩
abbrev cX12_puts : ByteArray := prog_14_method_19_code
def yX12_puts : MethodName := ⟨RX12, "puts", "(I)V"⟩
abbrev cX12_unwinds : ByteArray := prog_14_method_20_code
def yX12_unwinds : MethodName := ⟨RX12, "unwinds", "(I)V"⟩
abbrev cX12_holds : ByteArray := prog_14_method_21_code
def yX12_holds : MethodName := ⟨RX12, "holds", "(I)V"⟩
abbrev cX12_opensOne : ByteArray := prog_14_method_22_code
def yX12_opensOne : MethodName := ⟨RX12, "opensOne", "(I)Z"⟩
abbrev cX12_between : ByteArray := prog_14_method_23_code
def yX12_between : MethodName := ⟨RX12, "between", "(I)Z"⟩
abbrev cX12_signOf : ByteArray := prog_14_method_24_code
def yX12_signOf : MethodName := ⟨RX12, "signOf", "()I"⟩
abbrev cX12_eRead : ByteArray := prog_14_method_25_code
def yX12_eRead : MethodName := ⟨RX12, "eRead", "()Z"⟩
abbrev cX12_text : ByteArray := prog_14_method_26_code
def yX12_text : MethodName := ⟨RX12, "text", "()I"⟩
abbrev cX12_two : ByteArray := prog_14_method_27_code
def yX12_two : MethodName := ⟨RX12, "two", "(III)I"⟩
abbrev cX12_says : ByteArray := prog_14_method_28_code
def yX12_says : MethodName := ⟨RX12, "says", "(I)I"⟩
abbrev cX12_force : ByteArray := prog_14_method_29_code
def yX12_force : MethodName := ⟨RX12, "force", "(I)I"⟩
abbrev cX12_asksOf : ByteArray := prog_14_method_30_code
def yX12_asksOf : MethodName := ⟨RX12, "asksOf", "(IIIII)I"⟩
abbrev cX12_asks : ByteArray := prog_14_method_31_code
def yX12_asks : MethodName := ⟨RX12, "asks", "(IIII)I"⟩
abbrev cX12_thing : ByteArray := prog_14_method_32_code
def yX12_thing : MethodName := ⟨RX12, "thing", "(III)I"⟩
abbrev cX12_put : ByteArray := prog_14_method_33_code
def yX12_put : MethodName := ⟨RX12, "put", "(III)I"⟩
abbrev cX12_told : ByteArray := prog_14_method_34_code
def yX12_told : MethodName := ⟨RX12, "told", "(II)I"⟩
abbrev cX12_touching : ByteArray := prog_14_method_35_code
def yX12_touching : MethodName := ⟨RX12, "touching", "(II)I"⟩
abbrev cX12_blown : ByteArray := prog_14_method_36_code
def yX12_blown : MethodName := ⟨RX12, "blown", "(III)I"⟩
abbrev cX12_beside : ByteArray := prog_14_method_37_code
def yX12_beside : MethodName := ⟨RX12, "beside", "(II)I"⟩
abbrev cX12_steps : ByteArray := prog_14_method_38_code
def yX12_steps : MethodName := ⟨RX12, "steps", "(II)V"⟩
abbrev cX12_begins : ByteArray := prog_14_method_39_code
def yX12_begins : MethodName := ⟨RX12, "begins", "(I)V"⟩
abbrev cX12_goesBehind : ByteArray := prog_14_method_40_code
def yX12_goesBehind : MethodName := ⟨RX12, "goesBehind", "(II)V"⟩
abbrev cX12_cellBehind : ByteArray := prog_14_method_41_code
def yX12_cellBehind : MethodName := ⟨RX12, "cellBehind", "(II)I"⟩
abbrev cX12_at : ByteArray := prog_14_method_42_code
def yX12_at : MethodName := ⟨RX12, "at", "(III)I"⟩
abbrev cX12_run : ByteArray := prog_14_method_43_code
def yX12_run : MethodName := ⟨RX12, "run", "(I)I"⟩
abbrev cX12_first0 : ByteArray := prog_14_method_44_code
def yX12_first0 : MethodName := ⟨RX12, "first0", "(II)I"⟩
abbrev cX12_when : ByteArray := prog_14_method_45_code
def yX12_when : MethodName := ⟨RX12, "when", "(II)I"⟩
abbrev cX12_meet : ByteArray := prog_14_method_46_code
def yX12_meet : MethodName := ⟨RX12, "meet", "(II)I"⟩
abbrev cX12_inside : ByteArray := prog_14_method_47_code
def yX12_inside : MethodName := ⟨RX12, "inside", "(II)I"⟩
abbrev cX12_spreads : ByteArray := prog_14_method_48_code
def yX12_spreads : MethodName := ⟨RX12, "spreads", "(I)V"⟩
abbrev cX12_soonest : ByteArray := prog_14_method_49_code
def yX12_soonest : MethodName := ⟨RX12, "soonest", "(II)I"⟩
abbrev cX12_hand : ByteArray := prog_14_method_50_code
def yX12_hand : MethodName := ⟨RX12, "hand", "(II)I"⟩
abbrev cX12_first : ByteArray := prog_14_method_51_code
def yX12_first : MethodName := ⟨RX12, "first", "(II)I"⟩
abbrev cX12_wait : ByteArray := prog_14_method_52_code
def yX12_wait : MethodName := ⟨RX12, "wait", "(II)I"⟩
abbrev cX12_toss : ByteArray := prog_14_method_53_code
def yX12_toss : MethodName := ⟨RX12, "toss", "(III)I"⟩
abbrev cX12_key : ByteArray := prog_14_method_54_code
def yX12_key : MethodName := ⟨RX12, "key", "()I"⟩
abbrev cX12_turnedFirst : ByteArray := prog_14_method_55_code
def yX12_turnedFirst : MethodName := ⟨RX12, "turnedFirst", "(III)I"⟩
abbrev cX12_turn : ByteArray := prog_14_method_56_code
def yX12_turn : MethodName := ⟨RX12, "turn", "(III)I"⟩
abbrev cX12_netted : ByteArray := prog_14_method_57_code
def yX12_netted : MethodName := ⟨RX12, "netted", "(I)I"⟩
abbrev cX12_net : ByteArray := prog_14_method_58_code
def yX12_net : MethodName := ⟨RX12, "net", "(II)I"⟩
abbrev cX12_letsGo : ByteArray := prog_14_method_59_code
def yX12_letsGo : MethodName := ⟨RX12, "letsGo", "(II)V"⟩
abbrev cX12_byHowMany : ByteArray := prog_14_method_60_code
def yX12_byHowMany : MethodName := ⟨RX12, "byHowMany", "(I)I"⟩
abbrev cX12_can : ByteArray := prog_14_method_61_code
def yX12_can : MethodName := ⟨RX12, "can", "(II)I"⟩
abbrev cX12_look : ByteArray := prog_14_method_62_code
def yX12_look : MethodName := ⟨RX12, "look", "(III)I"⟩
abbrev cX12_went : ByteArray := prog_14_method_63_code
def yX12_went : MethodName := ⟨RX12, "went", "(III)I"⟩
abbrev cX12_lowest : ByteArray := prog_14_method_64_code
def yX12_lowest : MethodName := ⟨RX12, "lowest", "(JJI)J"⟩
abbrev cX12_lookFor : ByteArray := prog_14_method_65_code
def yX12_lookFor : MethodName := ⟨RX12, "lookFor", "(I)I"⟩
abbrev cX12_search : ByteArray := prog_14_method_66_code
def yX12_search : MethodName := ⟨RX12, "search", "(III)J"⟩
abbrev cX12_sheetWrong : ByteArray := prog_14_method_67_code
def yX12_sheetWrong : MethodName := ⟨RX12, "sheetWrong", "(I)I"⟩
abbrev cX12_toldWrong : ByteArray := prog_14_method_68_code
def yX12_toldWrong : MethodName := ⟨RX12, "toldWrong", "(II)I"⟩
abbrev cX12_unlike : ByteArray := prog_14_method_69_code
def yX12_unlike : MethodName := ⟨RX12, "unlike", "(II)I"⟩
abbrev cX12_judge : ByteArray := prog_14_method_70_code
def yX12_judge : MethodName := ⟨RX12, "judge", "(II)I"⟩
abbrev cX12_times : ByteArray := prog_14_method_71_code
def yX12_times : MethodName := ⟨RX12, "times", "(I)J"⟩
abbrev cX12_laws : ByteArray := prog_14_method_72_code
def yX12_laws : MethodName := ⟨RX12, "laws", "(II)I"⟩
abbrev cX12_film : ByteArray := prog_14_method_73_code
def yX12_film : MethodName := ⟨RX12, "film", "(II)I"⟩
abbrev cX12_insideBy : ByteArray := prog_14_method_74_code
def yX12_insideBy : MethodName := ⟨RX12, "insideBy", "(III)I"⟩
abbrev cX12_isDrawn : ByteArray := prog_14_method_75_code
def yX12_isDrawn : MethodName := ⟨RX12, "isDrawn", "(III)Z"⟩
abbrev cX12_drawn : ByteArray := prog_14_method_76_code
def yX12_drawn : MethodName := ⟨RX12, "drawn", "(III)I"⟩
abbrev cX12_mean : ByteArray := prog_14_method_77_code
def yX12_mean : MethodName := ⟨RX12, "mean", "(IIII)J"⟩
abbrev cX12_image : ByteArray := prog_14_method_78_code
def yX12_image : MethodName := ⟨RX12, "image", "()I"⟩
abbrev cX12_back : ByteArray := prog_14_method_79_code
def yX12_back : MethodName := ⟨RX12, "back", "()I"⟩
abbrev cX12_sheet : ByteArray := prog_14_method_80_code
def yX12_sheet : MethodName := ⟨RX12, "sheet", "(III)I"⟩
abbrev cX12_cell : ByteArray := prog_14_method_81_code
def yX12_cell : MethodName := ⟨RX12, "cell", "(III)I"⟩
abbrev cX12_copy : ByteArray := prog_14_method_82_code
def yX12_copy : MethodName := ⟨RX12, "copy", "(IIIII)I"⟩
abbrev cX12_thingsBy : ByteArray := prog_14_method_83_code
def yX12_thingsBy : MethodName := ⟨RX12, "thingsBy", "(IIII)I"⟩
abbrev cX12_isUnder : ByteArray := prog_14_method_84_code
def yX12_isUnder : MethodName := ⟨RX12, "isUnder", "(II)Z"⟩
abbrev cX12_taken : ByteArray := prog_14_method_85_code
def yX12_taken : MethodName := ⟨RX12, "taken", "(II)I"⟩
def RJ9 : String := "java/lang/Math"
def TJ9 : u_T := fun k => match k with
  | _ => ("", "", "", false)
def tyJ9 : Nat → FieldType := fun k => match k with
  | _ => .int
abbrev wsJ90 : List Cond := u_ws RJ9 TJ9 0
theorem nmJ9 : ∀ a, a < 0 → ∀ b, b < 0 → a ≠ b → (TJ9 a).2.1 ≠ (TJ9 b).2.1 := by decide +kernel
theorem tyJ9_ok : ∀ k, k < 0 → parseFieldDescriptor (TJ9 k).2.2.1 = some (tyJ9 k) := by decide +kernel
abbrev cJ9_floorMod_7cf53 : ByteArray := prog_15_method_50_code
def yJ9_floorMod_7cf53 : MethodName := ⟨RJ9, "floorMod", "(II)I"⟩
abbrev cJ9_max_7cf53 : ByteArray := prog_15_method_65_code
def yJ9_max_7cf53 : MethodName := ⟨RJ9, "max", "(II)I"⟩
abbrev cJ9_min_7cf53 : ByteArray := prog_15_method_69_code
def yJ9_min_7cf53 : MethodName := ⟨RJ9, "min", "(II)I"⟩
def RJ0 : String := "java/lang/String"
def TJ0 : u_T := fun k => match k with
  | _ => ("", "", "", false)
def tyJ0 : Nat → FieldType := fun k => match k with
  | _ => .int
abbrev wsJ00 : List Cond := u_ws RJ0 TJ0 0
theorem nmJ0 : ∀ a, a < 0 → ∀ b, b < 0 → a ≠ b → (TJ0 a).2.1 ≠ (TJ0 b).2.1 := by decide +kernel
theorem tyJ0_ok : ∀ k, k < 0 → parseFieldDescriptor (TJ0 k).2.2.1 = some (tyJ0 k) := by decide +kernel
abbrev cJ0_length_8abf5 : ByteArray := prog_16_method_54_code
def yJ0_length_8abf5 : MethodName := ⟨RJ0, "length", "()I"⟩
abbrev cJ0_charAt_5068e : ByteArray := prog_16_method_56_code
def yJ0_charAt_5068e : MethodName := ⟨RJ0, "charAt", "(I)C"⟩
abbrev cJ0_coder_7d493 : ByteArray := prog_16_method_152_code
def yJ0_coder_7d493 : MethodName := ⟨RJ0, "coder", "()B"⟩
abbrev cJ0_isLatin1_aae02 : ByteArray := prog_16_method_154_code
def yJ0_isLatin1_aae02 : MethodName := ⟨RJ0, "isLatin1", "()Z"⟩
abbrev cJ0_checkIndex_df160 : ByteArray := prog_16_method_155_code
def yJ0_checkIndex_df160 : MethodName := ⟨RJ0, "checkIndex", "(II)V"⟩
def RJ1 : String := "java/lang/StringLatin1"
def TJ1 : u_T := fun k => match k with
  | _ => ("", "", "", false)
def tyJ1 : Nat → FieldType := fun k => match k with
  | _ => .int
abbrev wsJ10 : List Cond := u_ws RJ1 TJ1 0
theorem nmJ1 : ∀ a, a < 0 → ∀ b, b < 0 → a ≠ b → (TJ1 a).2.1 ≠ (TJ1 b).2.1 := by decide +kernel
theorem tyJ1_ok : ∀ k, k < 0 → parseFieldDescriptor (TJ1 k).2.2.1 = some (tyJ1 k) := by decide +kernel
abbrev cJ1_charAt_3b067 : ByteArray := prog_17_method_2_code
def yJ1_charAt_3b067 : MethodName := ⟨RJ1, "charAt", "([BI)C"⟩
def RJ2 : String := "java/lang/StringUTF16"
def TJ2 : u_T := fun k => match k with
  | _ => ("", "", "", false)
def tyJ2 : Nat → FieldType := fun k => match k with
  | _ => .int
abbrev wsJ20 : List Cond := u_ws RJ2 TJ2 0
theorem nmJ2 : ∀ a, a < 0 → ∀ b, b < 0 → a ≠ b → (TJ2 a).2.1 ≠ (TJ2 b).2.1 := by decide +kernel
theorem tyJ2_ok : ∀ k, k < 0 → parseFieldDescriptor (TJ2 k).2.2.1 = some (tyJ2 k) := by decide +kernel
abbrev cJ2_getChar_3b067 : ByteArray := prog_18_method_5_code
def yJ2_getChar_3b067 : MethodName := ⟨RJ2, "getChar", "([BI)C"⟩
abbrev cJ2_length_9d52b : ByteArray := prog_18_method_6_code
def yJ2_length_9d52b : MethodName := ⟨RJ2, "length", "([B)I"⟩
abbrev cJ2_charAt_3b067 : ByteArray := prog_18_method_83_code
def yJ2_charAt_3b067 : MethodName := ⟨RJ2, "charAt", "([BI)C"⟩
abbrev cJ2_checkIndex_2214a : ByteArray := prog_18_method_91_code
def yJ2_checkIndex_2214a : MethodName := ⟨RJ2, "checkIndex", "(I[B)V"⟩
def RJ10 : String := "java/lang/System"
def TJ10 : u_T := fun k => match k with
  | _ => ("", "", "", false)
def tyJ10 : Nat → FieldType := fun k => match k with
  | _ => .int
abbrev wsJ100 : List Cond := u_ws RJ10 TJ10 0
theorem nmJ10 : ∀ a, a < 0 → ∀ b, b < 0 → a ≠ b → (TJ10 a).2.1 ≠ (TJ10 b).2.1 := by decide +kernel
theorem tyJ10_ok : ∀ k, k < 0 → parseFieldDescriptor (TJ10 k).2.2.1 = some (tyJ10 k) := by decide +kernel
def RJ3 : String := "jdk/internal/util/Preconditions"
def TJ3 : u_T := fun k => match k with
  | _ => ("", "", "", false)
def tyJ3 : Nat → FieldType := fun k => match k with
  | _ => .int
abbrev wsJ30 : List Cond := u_ws RJ3 TJ3 0
theorem nmJ3 : ∀ a, a < 0 → ∀ b, b < 0 → a ≠ b → (TJ3 a).2.1 ≠ (TJ3 b).2.1 := by decide +kernel
theorem tyJ3_ok : ∀ k, k < 0 → parseFieldDescriptor (TJ3 k).2.2.1 = some (tyJ3 k) := by decide +kernel
abbrev cJ3_checkIndex_8e157 : ByteArray := prog_20_method_11_code
def yJ3_checkIndex_8e157 : MethodName := ⟨RJ3, "checkIndex", "(IILjava/util/function/BiFunction;)I"⟩
def RL : String := "WhereTheSpoonWentLaw"
abbrev cL_law : ByteArray := code
def yL_law : MethodName := ⟨RL, "law", "([I)Z"⟩
abbrev vwCl : List vw_C := [(RX0, TX0, 0), (RX1, TX1, 8), (RX2, TX2, 0), (RX3, TX3, 10), (RX4, TX4, 7), (RX5, TX5, 0), (RX6, TX6, 3), (RX7, TX7, 0), (RX8, TX8, 0), (RX9, TX9, 5), (RX10, TX10, 0), (RX11, TX11, 14), (RX12, TX12, 36)]
/-- the tables' words that a callee may have -/
def wG : List Cond := lw_tbl.filter goodWord
theorem wG_in : ∀ w ∈ wG, w ∈ lw_tbl := fun _ h => (List.mem_filter.mp h).1
theorem wG_good : ∀ w ∈ wG, goodWord w = true := fun _ h => (List.mem_filter.mp h).2
theorem wT_1 : ∀ w ∈ tables_1_1, w ∈ lw_tbl := fun _ h => List.mem_append_right _ (List.mem_append_left _ h)
theorem wT_2 : ∀ w ∈ tables_1_2, w ∈ lw_tbl := fun _ h => List.mem_append_right _ (List.mem_append_right _ (List.mem_append_left _ h))
theorem wT_3 : ∀ w ∈ tables_1_3, w ∈ lw_tbl := fun _ h => List.mem_append_right _ (List.mem_append_right _ (List.mem_append_right _ (List.mem_append_left _ h)))
theorem wT_4 : ∀ w ∈ tables_1_4, w ∈ lw_tbl := fun _ h => List.mem_append_right _ (List.mem_append_right _ (List.mem_append_right _ (List.mem_append_right _ (List.mem_append_left _ h))))
theorem wT_5 : ∀ w ∈ tables_1_5, w ∈ lw_tbl := fun _ h => List.mem_append_right _ (List.mem_append_right _ (List.mem_append_right _ (List.mem_append_right _ (List.mem_append_right _ (List.mem_append_left _ h)))))
theorem wT_6 : ∀ w ∈ tables_1_6, w ∈ lw_tbl := fun _ h => List.mem_append_right _ (List.mem_append_right _ (List.mem_append_right _ (List.mem_append_right _ (List.mem_append_right _ (List.mem_append_right _ (h))))))
end
section
/-! ===== the fixed world: a state is a table of numbers (cell, place); a judgement over such states; its rows ===== -/
abbrev Hp : Type := Nat → Nat → Int32
def hset (σ : Hp) (k : Nat) (r : Nat → Int32) : Hp := fun k' => if k' = k then r else σ k'
def hup (σ : Hp) (k i : Nat) (v : Int32) : Hp := hset σ k (upd (σ k) i v)
/-- addresses, array classes, ids, the literals' addresses, their rows' -/
abbrev wT : Type := (Nat → Nat) × (Nat → ClassId) × va_G × (Nat → Nat) × (Nat → Nat)
abbrev cT : Type := wT → Nat → (Nat → Int32) → va_E
def yw (w : wT) (cf : cT) (n : Nat) (σ : Hp) : va_W := (List.range n).map (fun k => (w.1 k, cf w k (σ k)))
theorem yw_get {w : wT} {cf : cT} {n k : Nat} {σ : Hp} (h : k < n) : (yw w cf n σ)[k]? = some (w.1 k, cf w k (σ k)) := by
  simp [yw, h]
theorem yw_inv {w : wT} {cf : cT} {n k : Nat} {σ : Hp} {q : Nat × va_E} (h : (yw w cf n σ)[k]? = some q) : k < n ∧ q.1 = w.1 k := by
  by_cases hk : k < n
  · rw [yw_get hk] at h
    cases h
    exact ⟨hk, rfl⟩
  · have h2 : (yw w cf n σ)[k]? = none := by
      apply List.getElem?_eq_none
      simp [yw]
      omega
    rw [h2] at h
    cases h
theorem yw_len (w : wT) (cf : cT) (n : Nat) (σ : Hp) : (yw w cf n σ).length = n := by simp [yw]
theorem yw_set {w : wT} {cf : cT} {n k : Nat} {σ : Hp} (h : k < n) {r : Nat → Int32} : (yw w cf n σ).set k (w.1 k, cf w k r) = yw w cf n (hset σ k r) := by
  apply List.ext_getElem?
  intro j
  by_cases hj : j = k
  · subst hj
    rw [List.getElem?_set_self (by rw [yw_len]; exact h), yw_get h]
    simp [hset]
  · rw [List.getElem?_set_ne (Ne.symm hj)]
    by_cases hl : j < n
    · rw [yw_get hl, yw_get hl]
      simp [hset, hj]
    · rw [List.getElem?_eq_none (by rw [yw_len]; omega), List.getElem?_eq_none (by rw [yw_len]; omega)]
def yTys (w : wT) : List (ClassId × FieldType) := [(w.2.1 0, .byte), (w.2.1 1, .int), (w.2.1 2, .object RX6), (w.2.1 3, .object RX9), (w.2.1 4, .object RX10)]
def scIdx : List Nat := [94, 100, 102, 104, 106, 108, 110, 112, 114, 116, 118, 120]
def scTxt : List String := ["cell", "x", "y", "step", "thing", "more", "or", "and", "not", "blows", "worth", "hands"]
def scLen : List Nat := [4, 1, 1, 4, 5, 4, 2, 3, 3, 5, 5, 5]
def scByt : List (List Int32) := [[99, 101, 108, 108], [120], [121], [115, 116, 101, 112], [116, 104, 105, 110, 103], [109, 111, 114, 101], [111, 114], [97, 110, 100], [110, 111, 116], [98, 108, 111, 119, 115], [119, 111, 114, 116, 104], [104, 97, 110, 100, 115]]
def yStr (w : wT) (A : Nat → Prop) (U : State) : Prop :=
  vk_S 12 scLen scByt w.2.2.2.1 w.2.2.2.2 A U U.heap ∧ (∀ i, i < 12 → vk_R RX4 (scIdx.getD i 0) (scTxt.getD i "") (w.2.2.2.1 i) U) ∧
  va_Z "java/lang/String" "COMPACT_STRINGS" "Z" (.int 1) A U U.heap ∧ va_Zq "jdk/internal/util/Preconditions" "SIOOBE_FORMATTER" "Ljava/util/function/BiFunction;" A U U.heap
def yNest : List (String × Nat × MethodName × String) := [
  (RX11, 11, yX3_init, RX11), (RX11, 33, yX4_init, RX11), (RX11, 69, yX10_init, RX11), (RX11, 72, yX7_init, RX11), (RX11, 75, yX5_init, RX11), (RX11, 78, yX8_init, RX11), (RX11, 81, yX0_init, RX11), (RX11, 84, yX2_init, RX11), (RX11, 96, yX6_init, RX11),
  (RX7, 3, yX10_init, RX11), (RX5, 1, yX10_init, RX11), (RX2, 3, yX10_init, RX11), (RX8, 1, yX7_init, RX11), (RX0, 3, yX5_init, RX11),
  (RX3, 49, yX11_has, RX11), (RX1, 34, yX11_has, RX11)]
def yG (w : wT) (A : Nat → Prop) (U : State) : Prop :=
  va_K w.2.2.1 vwCl (yTys w) U ∧ (∀ q ∈ yNest, va_Nw (.methodLinkNest q.1 q.2.1 q.2.2.1 q.2.2.2) U) ∧ yStr w A U
theorem yG.calling {w : wT} {A : Nat → Prop} {U : State} (g : JFrame) (mk : MethodId) (a : Array Value) (h : yG w A U) : yG w A (U.calling g mk a) := by
  obtain ⟨h1, h2, h3, h4, h5, h6⟩ := h
  refine ⟨va_K.moved (u := U) (U := U.calling g mk a) (Vm.Alike.refl U.vm) h1, fun q hq => va_Nw.same rfl (u := U) (U := U.calling g mk a) rfl (h2 q hq), ?_, fun i hi => vk_R.same (u := U) (U := U.calling g mk a) rfl (h4 i hi), ?_, ?_⟩
  · exact vk_S.moved (u := U) (U := U.calling g mk a) (Vm.Alike.refl U.vm) h3
  · exact va_Z.moved (u := U) (U := U.calling g mk a) (Vm.Alike.refl U.vm) h5
  · exact va_Zq.moved (u := U) (U := U.calling g mk a) (Vm.Alike.refl U.vm) h6
theorem yG.at {w : wT} {A B : Nat → Prop} {s U : State} (h : yG w A s) (hW : s.WarmedH U.vm) (hq : ∀ a : Nat, a < s.heap.size → ¬ A a → U.heap[a]? = s.heap[a]?) (hB : ∀ q, B q → A q) : yG w B U := by
  obtain ⟨h1, h2, h3, h4, h5, h6⟩ := h
  have hv := hW.alike
  exact ⟨va_K.moved hv h1, fun q hq => va_Nw.warmM hW (h2 q hq), ((vk_S.moved hv h3).kept hq).narrow hB, fun i hi => (h4 i hi).warm hW, ((va_Z.moved hv h5).kept hq).narrow hB, ((va_Zq.moved hv h6).kept hq).narrow hB⟩
def YA (w : wT) (n sz : Nat) : Nat → Prop := fun q => (∃ k, k < n ∧ q = w.1 k) ∨ sz ≤ q
def yOk (w : wT) (n : Nat) : Prop := ∀ i j, i < n → j < n → w.1 i = w.1 j → i = j
def yPre (w : wT) (cf : cT) (n : Nat) (σ : Hp) (sz : Nat) : State → Prop := fun U => U.heap.size = sz ∧ va_P w.2.2.1 vwCl (yw w cf n σ) U.heap ∧ yG w (YA w n sz) U
def yRm (d : Nat) : Room := { frames := d, cells := 0, slots := 0, locals := 40 * d }
theorem yRm_le {d d' nL : Nat} (h : d + 1 ≤ d') (h2 : nL ≤ 20) : (yRm d).frames + 1 ≤ (yRm d').frames ∧ 8 + (nL + 11) + (yRm d).locals ≤ (yRm d').locals := by
  simp only [yRm]
  omega
/-- a method's contract over a fixed world -/
def yMet (l : Launch) (w : wT) (cf : cT) (n : Nat) (y : MethodName) (b : ByteArray) (nL : Nat) (r : Option FieldType) (d : Nat) (av : List Value) (σ : Hp) (Qc : (Nat → Prop) → Array Value → State → Outcome → State → Prop) : Prop :=
  ∀ sz : Nat, Met l y (.code y b nL r :: wG) (yRm d) (va_Pc av (yPre w cf n σ sz)) (Qc (YA w n sz)) 0 0 (YA w n sz)
def yB (w : wT) (cf : cT) (n : Nat) (u : Hp) (t : State) : Prop := va_P w.2.2.1 vwCl (yw w cf n u) t.heap
def yQi (w : wT) (cf : cT) (n : Nat) (K : Int32 → Hp → Prop) : (Nat → Prop) → Array Value → State → Outcome → State → Prop := fun A => va_Qi K (yB w cf n) A
def yQl (w : wT) (cf : cT) (n : Nat) (K : Int64 → Hp → Prop) : (Nat → Prop) → Array Value → State → Outcome → State → Prop := fun A => va_Ql K (yB w cf n) A
def yQv (w : wT) (cf : cT) (n : Nat) (K : Hp → Prop) : (Nat → Prop) → Array Value → State → Outcome → State → Prop := fun A => va_Qv K (yB w cf n) A
def yQr (w : wT) (cf : cT) (n : Nat) (K : Nat → Hp → Prop) : (Nat → Prop) → Array Value → State → Outcome → State → Prop := fun A => va_Qr (S := Nat × Hp) (fun u => K u.1 u.2) (fun u a t => a = w.1 u.1 ∧ yB w cf n u.2 t) A
theorem yPre.blind {w : wT} {cf : cT} {n : Nat} {σ : Hp} {sz : Nat} {av : List Value} : FrameBlind (va_Pc av (yPre w cf n σ sz)) := fun a U g mk q => ⟨q.1, q.2.1, q.2.2.1, q.2.2.2.calling g mk a⟩
theorem y_D {w : wT} {cf : cT} {n : Nat} {σ : Hp} {A : Nat → Prop} (h : yOk w n) (hA : ∀ k, k < n → A (w.1 k)) : va_D A (yw w cf n σ) := by
  refine ⟨fun i j x y hi hj hxy => ?_, fun k q hk => ?_⟩
  · obtain ⟨a1, a2⟩ := yw_inv hi
    obtain ⟨b1, b2⟩ := yw_inv hj
    exact h i j a1 b1 (by rw [← a2, ← b2]; exact hxy)
  · obtain ⟨a1, a2⟩ := yw_inv hk
    rw [a2]
    exact hA k a1
/-- what stands for all of a method's walk -/
def YE (p : Program) (m : MethodId) (meth : Method) (c : Code) (cc : ByteArray) (nL : Nat) (s : State) (args : Array Value) (own : String) (r : Option FieldType) (w : wT) (n : Nat) (A : Nat → Prop) : Prop :=
  CallFix p m c cc nL s args wG own ∧ yG w A s ∧ yOk w n ∧ (∀ k, k < n → A (w.1 k)) ∧ (∀ q : Nat, s.heap.size ≤ q → A q) ∧ meth.sig.returnType = r ∧ meth.locks = false
/-- at this state and frame the machine comes to Q -/
def YY (p : Program) (l : Launch) (e : Env) (R : Room) (s : State) (m : MethodId) (args : Array Value) (below : List Frame) (meth : Method) (c : Code) (w : wT) (cf : cT) (n : Nat) (A : Nat → Prop) (Q : State → Prop) (nL : Nat) (σ : Hp) (pc : Nat) (lv : List (Nat × Value)) (st : List Value) : Prop :=
  ∀ (H : Heap) (locs : List Loc) (ls : Array Slot), va_P w.2.2.1 vwCl (yw w cf n σ) H → va_S A s.heap H locs → lv_has ls nL lv → W p l e R s m args below meth c H locs 0 0 Q (F0 m pc ls st)
/-- a call that is made from there -/
def YR (p : Program) (l : Launch) (e : Env) (R : Room) (s : State) (m : MethodId) (args : Array Value) (below : List Frame) (meth : Method) (c : Code) (w : wT) (cf : cT) (n : Nat) (A : Nat → Prop) (nL : Nat) (σ : Hp) (pc : Nat) (lv : List (Nat × Value)) (st rest : List Value) (a : Array Value) (Qc : (Nat → Prop) → Array Value → State → Outcome → State → Prop) : Prop :=
  ∀ (H : Heap) (locs : List Loc) (ls : Array Slot), va_P w.2.2.1 vwCl (yw w cf n σ) H → va_S A s.heap H locs → lv_has ls nL lv → va_Run p l e R s m args below meth c H locs 0 0 0 0 (F0 m pc ls st) rest (Qc (YA w n H.size) a) (YA w n H.size)
theorem ite_t {c a b : Prop} [Decidable c] (h : if c then a else b) (hc : c) : a := by rwa [if_pos hc] at h
theorem ite_f {c a b : Prop} [Decidable c] (h : if c then a else b) (hc : ¬ c) : b := by rwa [if_neg hc] at h
section YROWS
variable {p : Program} {l : Launch} {e : Env} {R : Room} {s : State} {m : MethodId} {args : Array Value} {below : List Frame} {meth : Method} {c : Code}
variable {w : wT} {cf : cT} {n : Nat} {A : Nat → Prop} {Q : State → Prop} {nL : Nat} {σ : Hp} {pc : Nat} {lv : List (Nat × Value)} {st rest : List Value} {cc : ByteArray} {own : String} {r : Option FieldType}
theorem y_nmi {v : Int32} (k : ∀ x : Int32, x = v → YY p l e R s m args below meth c w cf n A Q nL σ pc lv (.int x :: rest)) : YY p l e R s m args below meth c w cf n A Q nL σ pc lv (.int v :: rest) := k v rfl
theorem y_nml {v : Int64} (k : ∀ x : Int64, x = v → YY p l e R s m args below meth c w cf n A Q nL σ pc lv (.long x :: rest)) : YY p l e R s m args below meth c w cf n A Q nL σ pc lv (.long v :: rest) := k v rfl
theorem y_nmr {v : Nat} (k : ∀ x : Nat, x = v → YY p l e R s m args below meth c w cf n A Q nL σ pc lv (.ref (w.1 x) :: rest)) : YY p l e R s m args below meth c w cf n A Q nL σ pc lv (.ref (w.1 v) :: rest) := k v rfl
theorem y_nmH (k : ∀ u : Hp, u = σ → YY p l e R s m args below meth c w cf n A Q nL u pc lv st) : YY p l e R s m args below meth c w cf n A Q nL σ pc lv st := k σ rfl
theorem y_lv {lv' : List (Nat × Value)} (ks : List Nat) (hl : lv_pick lv ks = lv') (k : YY p l e R s m args below meth c w cf n A Q nL σ pc lv' st) : YY p l e R s m args below meth c w cf n A Q nL σ pc lv st := fun H locs ls hP hS h => k H locs ls hP hS (lv_sub h ks hl)
theorem y_iconst (E : YE p m meth c cc nL s args own r w n A) {i : Int} {v : Int32} (hd : decode cc pc = .ok (.iconst i, 1)) (hv : Int32.ofInt i = v) (k : YY p l e R s m args below meth c w cf n A Q nL σ (pc + 1) lv (.int v :: rest)) : YY p l e R s m args below meth c w cf n A Q nL σ pc lv rest := fun H locs ls hP hS hl => lv_iconst E.1.1 E.1.2.1 hd hv (k H locs ls hP hS hl)
theorem y_bipush (E : YE p m meth c cc nL s args own r w n A) {i : Int} {v : Int32} (hd : decode cc pc = .ok (.bipush i, 2)) (hv : (Int8.ofInt i).toInt32 = v) (k : YY p l e R s m args below meth c w cf n A Q nL σ (pc + 2) lv (.int v :: rest)) : YY p l e R s m args below meth c w cf n A Q nL σ pc lv rest := fun H locs ls hP hS hl => lv_bipush E.1.1 E.1.2.1 hd hv (k H locs ls hP hS hl)
theorem y_sipush (E : YE p m meth c cc nL s args own r w n A) {i : Int} {v : Int32} (hd : decode cc pc = .ok (.sipush i, 3)) (hv : (Int16.ofInt i).toInt32 = v) (k : YY p l e R s m args below meth c w cf n A Q nL σ (pc + 3) lv (.int v :: rest)) : YY p l e R s m args below meth c w cf n A Q nL σ pc lv rest := fun H locs ls hP hS hl => lv_sipush E.1.1 E.1.2.1 hd hv (k H locs ls hP hS hl)
theorem y_lconst (E : YE p m meth c cc nL s args own r w n A) {i : Fin 2} {v : Int64} (hd : decode cc pc = .ok (.lconst i, 1)) (hv : Int64.ofNat (i : Nat) = v) (k : YY p l e R s m args below meth c w cf n A Q nL σ (pc + 1) lv (.long v :: rest)) : YY p l e R s m args below meth c w cf n A Q nL σ pc lv rest := fun H locs ls hP hS hl => lv_lconst E.1.1 E.1.2.1 hd hv (k H locs ls hP hS hl)
theorem y_ldc (E : YE p m meth c cc nL s args own r w n A) {index : Nat} {v : Int32} (hc : Jvm.Cond.constant own index v ∈ wG) (hd : decode cc pc = .ok (.ldc index, 2)) (k : YY p l e R s m args below meth c w cf n A Q nL σ (pc + 2) lv (.int v :: rest)) : YY p l e R s m args below meth c w cf n A Q nL σ pc lv rest := fun H locs ls hP hS hl => lv_ldc E.1.1 E.1.2.1 E.1.2.2.2.1 (E.1.2.2.2.2 _ hc) hd (k H locs ls hP hS hl)
theorem y_ldcw (E : YE p m meth c cc nL s args own r w n A) {index : Nat} {v : Int32} (hc : Jvm.Cond.constant own index v ∈ wG) (hd : decode cc pc = .ok (.ldc_w index, 3)) (k : YY p l e R s m args below meth c w cf n A Q nL σ (pc + 3) lv (.int v :: rest)) : YY p l e R s m args below meth c w cf n A Q nL σ pc lv rest := fun H locs ls hP hS hl => lv_ldcw E.1.1 E.1.2.1 E.1.2.2.2.1 (E.1.2.2.2.2 _ hc) hd (k H locs ls hP hS hl)
theorem y_ldc2 (E : YE p m meth c cc nL s args own r w n A) {index : Nat} {v : Int64} (hc : Jvm.Cond.constantLong own index v ∈ wG) (hd : decode cc pc = .ok (.ldc2_w index, 3)) (k : YY p l e R s m args below meth c w cf n A Q nL σ (pc + 3) lv (.long v :: rest)) : YY p l e R s m args below meth c w cf n A Q nL σ pc lv rest := fun H locs ls hP hS hl => lv_ldc2 E.1.1 E.1.2.1 E.1.2.2.2.1 (E.1.2.2.2.2 _ hc) hd (k H locs ls hP hS hl)
theorem y_iload_n (E : YE p m meth c cc nL s args own r w n A) {kk : Fin 4} {x : Int32} (hd : decode cc pc = .ok (.iload_n kk, 1)) (j : Nat) (hj : lv[j]? = some ((kk : Nat), .int x)) (k : YY p l e R s m args below meth c w cf n A Q nL σ (pc + 1) lv (.int x :: rest)) : YY p l e R s m args below meth c w cf n A Q nL σ pc lv rest := fun H locs ls hP hS hl => lv_iload_n E.1.1 E.1.2.1 hd rfl (lv_at hl j hj) (k H locs ls hP hS hl)
theorem y_iload (E : YE p m meth c cc nL s args own r w n A) {i : Nat} {x : Int32} (hd : decode cc pc = .ok (.iload i, 2)) (j : Nat) (hj : lv[j]? = some (i, .int x)) (k : YY p l e R s m args below meth c w cf n A Q nL σ (pc + 2) lv (.int x :: rest)) : YY p l e R s m args below meth c w cf n A Q nL σ pc lv rest := fun H locs ls hP hS hl => lv_iload E.1.1 E.1.2.1 hd (lv_at hl j hj) (k H locs ls hP hS hl)
theorem y_lload_n (E : YE p m meth c cc nL s args own r w n A) {kk : Fin 4} {x : Int64} (hd : decode cc pc = .ok (.lload_n kk, 1)) (j : Nat) (hj : lv[j]? = some ((kk : Nat), .long x)) (k : YY p l e R s m args below meth c w cf n A Q nL σ (pc + 1) lv (.long x :: rest)) : YY p l e R s m args below meth c w cf n A Q nL σ pc lv rest := fun H locs ls hP hS hl => lv_lload_n E.1.1 E.1.2.1 hd rfl (lv_at hl j hj) (k H locs ls hP hS hl)
theorem y_lload (E : YE p m meth c cc nL s args own r w n A) {i : Nat} {x : Int64} (hd : decode cc pc = .ok (.lload i, 2)) (j : Nat) (hj : lv[j]? = some (i, .long x)) (k : YY p l e R s m args below meth c w cf n A Q nL σ (pc + 2) lv (.long x :: rest)) : YY p l e R s m args below meth c w cf n A Q nL σ pc lv rest := fun H locs ls hP hS hl => lv_lload E.1.1 E.1.2.1 hd (lv_at hl j hj) (k H locs ls hP hS hl)
theorem y_aload_n (E : YE p m meth c cc nL s args own r w n A) {kk : Fin 4} {x : Nat} (hd : decode cc pc = .ok (.aload_n kk, 1)) (j : Nat) (hj : lv[j]? = some ((kk : Nat), .ref x)) (k : YY p l e R s m args below meth c w cf n A Q nL σ (pc + 1) lv (.ref x :: rest)) : YY p l e R s m args below meth c w cf n A Q nL σ pc lv rest := fun H locs ls hP hS hl => lv_aload_n E.1.1 E.1.2.1 hd rfl (lv_at hl j hj) (k H locs ls hP hS hl)
theorem y_aload (E : YE p m meth c cc nL s args own r w n A) {i : Nat} {x : Nat} (hd : decode cc pc = .ok (.aload i, 2)) (j : Nat) (hj : lv[j]? = some (i, .ref x)) (k : YY p l e R s m args below meth c w cf n A Q nL σ (pc + 2) lv (.ref x :: rest)) : YY p l e R s m args below meth c w cf n A Q nL σ pc lv rest := fun H locs ls hP hS hl => lv_aload E.1.1 E.1.2.1 hd (lv_at hl j hj) (k H locs ls hP hS hl)
theorem y_istore_n (E : YE p m meth c cc nL s args own r w n A) {kk : Fin 4} {x : Int32} {lv' : List (Nat × Value)} (hd : decode cc pc = .ok (.istore_n kk, 1)) (hn : (kk : Nat) < nL) (hl' : ((kk : Nat), Value.int x) :: lv.filter (fun q => !(q.1 == (kk : Nat)) && !(q.1 + 1 == (kk : Nat) && q.2.category == 2)) = lv') (k : YY p l e R s m args below meth c w cf n A Q nL σ (pc + 1) lv' rest) : YY p l e R s m args below meth c w cf n A Q nL σ pc lv (.int x :: rest) := fun H locs _ hP hS hl => lv_istore_n E.1.1 E.1.2.1 hd rfl hl hn hl' (fun ls hl2 => k H locs ls hP hS hl2)
theorem y_istore (E : YE p m meth c cc nL s args own r w n A) {i : Nat} {x : Int32} {lv' : List (Nat × Value)} (hd : decode cc pc = .ok (.istore i, 2)) (hn : i < nL) (hl' : (i, Value.int x) :: lv.filter (fun q => !(q.1 == i) && !(q.1 + 1 == i && q.2.category == 2)) = lv') (k : YY p l e R s m args below meth c w cf n A Q nL σ (pc + 2) lv' rest) : YY p l e R s m args below meth c w cf n A Q nL σ pc lv (.int x :: rest) := fun H locs _ hP hS hl => lv_istore E.1.1 E.1.2.1 hd hl hn hl' (fun ls hl2 => k H locs ls hP hS hl2)
theorem y_lstore_n (E : YE p m meth c cc nL s args own r w n A) {kk : Fin 4} {x : Int64} {lv' : List (Nat × Value)} (hd : decode cc pc = .ok (.lstore_n kk, 1)) (hn : (kk : Nat) + 1 < nL) (hl' : ((kk : Nat), Value.long x) :: lv.filter (fun q => !(q.1 == (kk : Nat)) && (!(q.1 == (kk : Nat) + 1) && !(q.1 + 1 == (kk : Nat) && q.2.category == 2))) = lv') (k : YY p l e R s m args below meth c w cf n A Q nL σ (pc + 1) lv' rest) : YY p l e R s m args below meth c w cf n A Q nL σ pc lv (.long x :: rest) := fun H locs _ hP hS hl => lv_lstore_n E.1.1 E.1.2.1 hd rfl hl hn hl' (fun ls hl2 => k H locs ls hP hS hl2)
theorem y_lstore (E : YE p m meth c cc nL s args own r w n A) {i : Nat} {x : Int64} {lv' : List (Nat × Value)} (hd : decode cc pc = .ok (.lstore i, 2)) (hn : i + 1 < nL) (hl' : (i, Value.long x) :: lv.filter (fun q => !(q.1 == i) && (!(q.1 == i + 1) && !(q.1 + 1 == i && q.2.category == 2))) = lv') (k : YY p l e R s m args below meth c w cf n A Q nL σ (pc + 2) lv' rest) : YY p l e R s m args below meth c w cf n A Q nL σ pc lv (.long x :: rest) := fun H locs _ hP hS hl => lv_lstore E.1.1 E.1.2.1 hd hl hn hl' (fun ls hl2 => k H locs ls hP hS hl2)
theorem y_astore_n (E : YE p m meth c cc nL s args own r w n A) {kk : Fin 4} {x : Nat} {lv' : List (Nat × Value)} (hd : decode cc pc = .ok (.astore_n kk, 1)) (hn : (kk : Nat) < nL) (hl' : ((kk : Nat), Value.ref x) :: lv.filter (fun q => !(q.1 == (kk : Nat)) && !(q.1 + 1 == (kk : Nat) && q.2.category == 2)) = lv') (k : YY p l e R s m args below meth c w cf n A Q nL σ (pc + 1) lv' rest) : YY p l e R s m args below meth c w cf n A Q nL σ pc lv (.ref x :: rest) := fun H locs _ hP hS hl => lv_astore_n E.1.1 E.1.2.1 hd rfl hl hn hl' (fun ls hl2 => k H locs ls hP hS hl2)
theorem y_astore (E : YE p m meth c cc nL s args own r w n A) {i : Nat} {x : Nat} {lv' : List (Nat × Value)} (hd : decode cc pc = .ok (.astore i, 2)) (hn : i < nL) (hl' : (i, Value.ref x) :: lv.filter (fun q => !(q.1 == i) && !(q.1 + 1 == i && q.2.category == 2)) = lv') (k : YY p l e R s m args below meth c w cf n A Q nL σ (pc + 2) lv' rest) : YY p l e R s m args below meth c w cf n A Q nL σ pc lv (.ref x :: rest) := fun H locs _ hP hS hl => lv_astore E.1.1 E.1.2.1 hd hl hn hl' (fun ls hl2 => k H locs ls hP hS hl2)
theorem y_iinc (E : YE p m meth c cc nL s args own r w n A) {i : Nat} {z : Int} {x v : Int32} {lv' : List (Nat × Value)} (hd : decode cc pc = .ok (.iinc i z, 3)) (j : Nat) (hj : lv[j]? = some (i, .int x)) (hv : x + Int32.ofInt z = v) (hn : i < nL) (hl' : (i, Value.int v) :: lv.filter (fun q => !(q.1 == i) && !(q.1 + 1 == i && q.2.category == 2)) = lv') (k : YY p l e R s m args below meth c w cf n A Q nL σ (pc + 3) lv' rest) : YY p l e R s m args below meth c w cf n A Q nL σ pc lv rest := fun H locs _ hP hS hl => lv_iinc E.1.1 E.1.2.1 hd hl hj hv hn hl' (fun ls hl2 => k H locs ls hP hS hl2)
def jrem (x y : Int32) : Int32 := x - x / y * y
def jlrem (x y : Int64) : Int64 := x - x / y * y
theorem y_iadd (E : YE p m meth c cc nL s args own r w n A) {x y : Int32} (hd : decode cc pc = .ok (.iadd, 1)) (k : YY p l e R s m args below meth c w cf n A Q nL σ (pc + 1) lv (.int (x + y) :: rest)) : YY p l e R s m args below meth c w cf n A Q nL σ pc lv (.int y :: .int x :: rest) := fun H locs ls hP hS hl => lv_iadd E.1.1 E.1.2.1 hd (k H locs ls hP hS hl)
theorem y_isub (E : YE p m meth c cc nL s args own r w n A) {x y : Int32} (hd : decode cc pc = .ok (.isub, 1)) (k : YY p l e R s m args below meth c w cf n A Q nL σ (pc + 1) lv (.int (x - y) :: rest)) : YY p l e R s m args below meth c w cf n A Q nL σ pc lv (.int y :: .int x :: rest) := fun H locs ls hP hS hl => lv_isub E.1.1 E.1.2.1 hd (k H locs ls hP hS hl)
theorem y_imul (E : YE p m meth c cc nL s args own r w n A) {x y : Int32} (hd : decode cc pc = .ok (.imul, 1)) (k : YY p l e R s m args below meth c w cf n A Q nL σ (pc + 1) lv (.int (x * y) :: rest)) : YY p l e R s m args below meth c w cf n A Q nL σ pc lv (.int y :: .int x :: rest) := fun H locs ls hP hS hl => lv_imul E.1.1 E.1.2.1 hd (k H locs ls hP hS hl)
theorem y_iand (E : YE p m meth c cc nL s args own r w n A) {x y : Int32} (hd : decode cc pc = .ok (.iand, 1)) (k : YY p l e R s m args below meth c w cf n A Q nL σ (pc + 1) lv (.int (x &&& y) :: rest)) : YY p l e R s m args below meth c w cf n A Q nL σ pc lv (.int y :: .int x :: rest) := fun H locs ls hP hS hl => lv_iand E.1.1 E.1.2.1 hd (k H locs ls hP hS hl)
theorem y_ior (E : YE p m meth c cc nL s args own r w n A) {x y : Int32} (hd : decode cc pc = .ok (.ior, 1)) (k : YY p l e R s m args below meth c w cf n A Q nL σ (pc + 1) lv (.int (x ||| y) :: rest)) : YY p l e R s m args below meth c w cf n A Q nL σ pc lv (.int y :: .int x :: rest) := fun H locs ls hP hS hl => lv_ior E.1.1 E.1.2.1 hd (k H locs ls hP hS hl)
theorem y_ixor (E : YE p m meth c cc nL s args own r w n A) {x y : Int32} (hd : decode cc pc = .ok (.ixor, 1)) (k : YY p l e R s m args below meth c w cf n A Q nL σ (pc + 1) lv (.int (x ^^^ y) :: rest)) : YY p l e R s m args below meth c w cf n A Q nL σ pc lv (.int y :: .int x :: rest) := fun H locs ls hP hS hl => lv_ixor E.1.1 E.1.2.1 hd (k H locs ls hP hS hl)
theorem y_ishl (E : YE p m meth c cc nL s args own r w n A) {x y : Int32} (hd : decode cc pc = .ok (.ishl, 1)) (k : YY p l e R s m args below meth c w cf n A Q nL σ (pc + 1) lv (.int (x <<< (y &&& 31)) :: rest)) : YY p l e R s m args below meth c w cf n A Q nL σ pc lv (.int y :: .int x :: rest) := fun H locs ls hP hS hl => lv_ishl E.1.1 E.1.2.1 hd (k H locs ls hP hS hl)
theorem y_ishr (E : YE p m meth c cc nL s args own r w n A) {x y : Int32} (hd : decode cc pc = .ok (.ishr, 1)) (k : YY p l e R s m args below meth c w cf n A Q nL σ (pc + 1) lv (.int (x >>> (y &&& 31)) :: rest)) : YY p l e R s m args below meth c w cf n A Q nL σ pc lv (.int y :: .int x :: rest) := fun H locs ls hP hS hl => lv_ishr E.1.1 E.1.2.1 hd (k H locs ls hP hS hl)
theorem y_ladd (E : YE p m meth c cc nL s args own r w n A) {x y : Int64} (hd : decode cc pc = .ok (.ladd, 1)) (k : YY p l e R s m args below meth c w cf n A Q nL σ (pc + 1) lv (.long (x + y) :: rest)) : YY p l e R s m args below meth c w cf n A Q nL σ pc lv (.long y :: .long x :: rest) := fun H locs ls hP hS hl => lv_ladd E.1.1 E.1.2.1 hd (k H locs ls hP hS hl)
theorem y_lsub (E : YE p m meth c cc nL s args own r w n A) {x y : Int64} (hd : decode cc pc = .ok (.lsub, 1)) (k : YY p l e R s m args below meth c w cf n A Q nL σ (pc + 1) lv (.long (x - y) :: rest)) : YY p l e R s m args below meth c w cf n A Q nL σ pc lv (.long y :: .long x :: rest) := fun H locs ls hP hS hl => lv_lsub E.1.1 E.1.2.1 hd (k H locs ls hP hS hl)
theorem y_lmul (E : YE p m meth c cc nL s args own r w n A) {x y : Int64} (hd : decode cc pc = .ok (.lmul, 1)) (k : YY p l e R s m args below meth c w cf n A Q nL σ (pc + 1) lv (.long (x * y) :: rest)) : YY p l e R s m args below meth c w cf n A Q nL σ pc lv (.long y :: .long x :: rest) := fun H locs ls hP hS hl => lv_lmul E.1.1 E.1.2.1 hd (k H locs ls hP hS hl)
theorem y_land (E : YE p m meth c cc nL s args own r w n A) {x y : Int64} (hd : decode cc pc = .ok (.land, 1)) (k : YY p l e R s m args below meth c w cf n A Q nL σ (pc + 1) lv (.long (x &&& y) :: rest)) : YY p l e R s m args below meth c w cf n A Q nL σ pc lv (.long y :: .long x :: rest) := fun H locs ls hP hS hl => lv_land E.1.1 E.1.2.1 hd (k H locs ls hP hS hl)
theorem y_lor (E : YE p m meth c cc nL s args own r w n A) {x y : Int64} (hd : decode cc pc = .ok (.lor, 1)) (k : YY p l e R s m args below meth c w cf n A Q nL σ (pc + 1) lv (.long (x ||| y) :: rest)) : YY p l e R s m args below meth c w cf n A Q nL σ pc lv (.long y :: .long x :: rest) := fun H locs ls hP hS hl => lv_lor E.1.1 E.1.2.1 hd (k H locs ls hP hS hl)
theorem y_lxor (E : YE p m meth c cc nL s args own r w n A) {x y : Int64} (hd : decode cc pc = .ok (.lxor, 1)) (k : YY p l e R s m args below meth c w cf n A Q nL σ (pc + 1) lv (.long (x ^^^ y) :: rest)) : YY p l e R s m args below meth c w cf n A Q nL σ pc lv (.long y :: .long x :: rest) := fun H locs ls hP hS hl => lv_lxor E.1.1 E.1.2.1 hd (k H locs ls hP hS hl)
theorem y_idiv (E : YE p m meth c cc nL s args own r w n A) {x y : Int32} (hd : decode cc pc = .ok (.idiv, 1)) (hne : ¬ y = 0) (k : YY p l e R s m args below meth c w cf n A Q nL σ (pc + 1) lv (.int (x / y) :: rest)) : YY p l e R s m args below meth c w cf n A Q nL σ pc lv (.int y :: .int x :: rest) := fun H locs ls hP hS hl => lv_idiv E.1.1 E.1.2.1 hd hne (k H locs ls hP hS hl)
theorem y_irem (E : YE p m meth c cc nL s args own r w n A) {x y : Int32} (hd : decode cc pc = .ok (.irem, 1)) (hne : ¬ y = 0) (k : YY p l e R s m args below meth c w cf n A Q nL σ (pc + 1) lv (.int (jrem x y) :: rest)) : YY p l e R s m args below meth c w cf n A Q nL σ pc lv (.int y :: .int x :: rest) := fun H locs ls hP hS hl => lv_irem E.1.1 E.1.2.1 hd hne (k H locs ls hP hS hl)
theorem y_ldiv (E : YE p m meth c cc nL s args own r w n A) {x y : Int64} (hd : decode cc pc = .ok (.ldiv, 1)) (hne : ¬ y = 0) (k : YY p l e R s m args below meth c w cf n A Q nL σ (pc + 1) lv (.long (x / y) :: rest)) : YY p l e R s m args below meth c w cf n A Q nL σ pc lv (.long y :: .long x :: rest) := fun H locs ls hP hS hl => lv_ldiv E.1.1 E.1.2.1 hd hne (k H locs ls hP hS hl)
theorem y_lrem (E : YE p m meth c cc nL s args own r w n A) {x y : Int64} (hd : decode cc pc = .ok (.lrem, 1)) (hne : ¬ y = 0) (k : YY p l e R s m args below meth c w cf n A Q nL σ (pc + 1) lv (.long (jlrem x y) :: rest)) : YY p l e R s m args below meth c w cf n A Q nL σ pc lv (.long y :: .long x :: rest) := fun H locs ls hP hS hl => lv_lrem E.1.1 E.1.2.1 hd hne (k H locs ls hP hS hl)
theorem y_lcmp (E : YE p m meth c cc nL s args own r w n A) {x y : Int64} (hd : decode cc pc = .ok (.lcmp, 1)) (k : YY p l e R s m args below meth c w cf n A Q nL σ (pc + 1) lv (.int (lg_cmp x y) :: rest)) : YY p l e R s m args below meth c w cf n A Q nL σ pc lv (.long y :: .long x :: rest) := fun H locs ls hP hS hl => W.lcmp E.1.1 E.1.2.1 hd (k H locs ls hP hS hl)
theorem y_lshl (E : YE p m meth c cc nL s args own r w n A) {x : Int64} {y : Int32} (hd : decode cc pc = .ok (.lshl, 1)) (k : YY p l e R s m args below meth c w cf n A Q nL σ (pc + 1) lv (.long (x <<< (y.toInt64 &&& 63)) :: rest)) : YY p l e R s m args below meth c w cf n A Q nL σ pc lv (.int y :: .long x :: rest) := fun H locs ls hP hS hl => lv_lshl E.1.1 E.1.2.1 hd rfl (k H locs ls hP hS hl)
theorem y_ineg (E : YE p m meth c cc nL s args own r w n A) {x : Int32} (hd : decode cc pc = .ok (.ineg, 1)) (k : YY p l e R s m args below meth c w cf n A Q nL σ (pc + 1) lv (.int (-x) :: rest)) : YY p l e R s m args below meth c w cf n A Q nL σ pc lv (.int x :: rest) := fun H locs ls hP hS hl => lv_ineg E.1.1 E.1.2.1 hd (k H locs ls hP hS hl)
theorem y_i2l (E : YE p m meth c cc nL s args own r w n A) {x : Int32} (hd : decode cc pc = .ok (.i2l, 1)) (k : YY p l e R s m args below meth c w cf n A Q nL σ (pc + 1) lv (.long (x.toInt64) :: rest)) : YY p l e R s m args below meth c w cf n A Q nL σ pc lv (.int x :: rest) := fun H locs ls hP hS hl => lv_i2l E.1.1 E.1.2.1 hd rfl (k H locs ls hP hS hl)
theorem y_l2i (E : YE p m meth c cc nL s args own r w n A) {x : Int64} (hd : decode cc pc = .ok (.l2i, 1)) (k : YY p l e R s m args below meth c w cf n A Q nL σ (pc + 1) lv (.int (x.toInt32) :: rest)) : YY p l e R s m args below meth c w cf n A Q nL σ pc lv (.long x :: rest) := fun H locs ls hP hS hl => lv_l2i E.1.1 E.1.2.1 hd rfl (k H locs ls hP hS hl)
theorem y_i2b (E : YE p m meth c cc nL s args own r w n A) {x : Int32} (hd : decode cc pc = .ok (.i2b, 1)) (k : YY p l e R s m args below meth c w cf n A Q nL σ (pc + 1) lv (.int (x.toInt8.toInt32) :: rest)) : YY p l e R s m args below meth c w cf n A Q nL σ pc lv (.int x :: rest) := fun H locs ls hP hS hl => lv_i2b E.1.1 E.1.2.1 hd rfl (k H locs ls hP hS hl)
theorem y_i2s (E : YE p m meth c cc nL s args own r w n A) {x : Int32} (hd : decode cc pc = .ok (.i2s, 1)) (k : YY p l e R s m args below meth c w cf n A Q nL σ (pc + 1) lv (.int (x.toInt16.toInt32) :: rest)) : YY p l e R s m args below meth c w cf n A Q nL σ pc lv (.int x :: rest) := fun H locs ls hP hS hl => lv_i2s E.1.1 E.1.2.1 hd rfl (k H locs ls hP hS hl)
theorem y_dup (E : YE p m meth c cc nL s args own r w n A) {va : Value} (hd : decode cc pc = .ok (.dup, 1)) (hva : va.category = 1) (k : YY p l e R s m args below meth c w cf n A Q nL σ (pc + 1) lv (va :: va :: rest)) : YY p l e R s m args below meth c w cf n A Q nL σ pc lv (va :: rest) := fun H locs ls hP hS hl => lv_dup E.1.1 E.1.2.1 hd hva (k H locs ls hP hS hl)
theorem y_dup2 (E : YE p m meth c cc nL s args own r w n A) {va vb : Value} (hd : decode cc pc = .ok (.dup2, 1)) (hva : va.category = 1) (hvb : vb.category = 1) (k : YY p l e R s m args below meth c w cf n A Q nL σ (pc + 1) lv (va :: vb :: va :: vb :: rest)) : YY p l e R s m args below meth c w cf n A Q nL σ pc lv (va :: vb :: rest) := fun H locs ls hP hS hl => lv_dup2_11 E.1.1 E.1.2.1 hd hva hvb (k H locs ls hP hS hl)
theorem y_pop (E : YE p m meth c cc nL s args own r w n A) {va : Value} (hd : decode cc pc = .ok (.pop, 1)) (hva : va.category = 1) (k : YY p l e R s m args below meth c w cf n A Q nL σ (pc + 1) lv rest) : YY p l e R s m args below meth c w cf n A Q nL σ pc lv (va :: rest) := fun H locs ls hP hS hl => lv_pop E.1.1 E.1.2.1 hd hva (k H locs ls hP hS hl)
theorem y_if_eq (E : YE p m meth c cc nL s args own r w n A) {x : Int32} {off : Int} {tgt : Nat} (hd : decode cc pc = .ok (.ifCond .eq off, 3)) (ht : (pc : Int) + off = (tgt : Int)) (kt : x = 0 → YY p l e R s m args below meth c w cf n A Q nL σ tgt lv rest) (kf : ¬ (x = 0) → YY p l e R s m args below meth c w cf n A Q nL σ (pc + 3) lv rest) : YY p l e R s m args below meth c w cf n A Q nL σ pc lv (.int x :: rest) := fun H locs ls hP hS hl => lv_if_eq E.1.1 E.1.2.1 hd ht (fun h => kt h H locs ls hP hS hl) (fun h => kf h H locs ls hP hS hl)
theorem y_icmp_eq (E : YE p m meth c cc nL s args own r w n A) {x y : Int32} {off : Int} {tgt : Nat} (hd : decode cc pc = .ok (.if_icmp .eq off, 3)) (ht : (pc : Int) + off = (tgt : Int)) (kt : x = y → YY p l e R s m args below meth c w cf n A Q nL σ tgt lv rest) (kf : ¬ (x = y) → YY p l e R s m args below meth c w cf n A Q nL σ (pc + 3) lv rest) : YY p l e R s m args below meth c w cf n A Q nL σ pc lv (.int y :: .int x :: rest) := fun H locs ls hP hS hl => lv_icmp_eq E.1.1 E.1.2.1 hd ht (fun h => kt h H locs ls hP hS hl) (fun h => kf h H locs ls hP hS hl)
theorem y_if_ne (E : YE p m meth c cc nL s args own r w n A) {x : Int32} {off : Int} {tgt : Nat} (hd : decode cc pc = .ok (.ifCond .ne off, 3)) (ht : (pc : Int) + off = (tgt : Int)) (kt : ¬ x = 0 → YY p l e R s m args below meth c w cf n A Q nL σ tgt lv rest) (kf : x = 0 → YY p l e R s m args below meth c w cf n A Q nL σ (pc + 3) lv rest) : YY p l e R s m args below meth c w cf n A Q nL σ pc lv (.int x :: rest) := fun H locs ls hP hS hl => lv_if_ne E.1.1 E.1.2.1 hd ht (fun h => kt h H locs ls hP hS hl) (fun h => kf h H locs ls hP hS hl)
theorem y_icmp_ne (E : YE p m meth c cc nL s args own r w n A) {x y : Int32} {off : Int} {tgt : Nat} (hd : decode cc pc = .ok (.if_icmp .ne off, 3)) (ht : (pc : Int) + off = (tgt : Int)) (kt : ¬ x = y → YY p l e R s m args below meth c w cf n A Q nL σ tgt lv rest) (kf : x = y → YY p l e R s m args below meth c w cf n A Q nL σ (pc + 3) lv rest) : YY p l e R s m args below meth c w cf n A Q nL σ pc lv (.int y :: .int x :: rest) := fun H locs ls hP hS hl => lv_icmp_ne E.1.1 E.1.2.1 hd ht (fun h => kt h H locs ls hP hS hl) (fun h => kf h H locs ls hP hS hl)
theorem y_if_lt (E : YE p m meth c cc nL s args own r w n A) {x : Int32} {off : Int} {tgt : Nat} (hd : decode cc pc = .ok (.ifCond .lt off, 3)) (ht : (pc : Int) + off = (tgt : Int)) (kt : x < 0 → YY p l e R s m args below meth c w cf n A Q nL σ tgt lv rest) (kf : ¬ (x < 0) → YY p l e R s m args below meth c w cf n A Q nL σ (pc + 3) lv rest) : YY p l e R s m args below meth c w cf n A Q nL σ pc lv (.int x :: rest) := fun H locs ls hP hS hl => lv_if_lt E.1.1 E.1.2.1 hd ht (fun h => kt h H locs ls hP hS hl) (fun h => kf h H locs ls hP hS hl)
theorem y_icmp_lt (E : YE p m meth c cc nL s args own r w n A) {x y : Int32} {off : Int} {tgt : Nat} (hd : decode cc pc = .ok (.if_icmp .lt off, 3)) (ht : (pc : Int) + off = (tgt : Int)) (kt : x < y → YY p l e R s m args below meth c w cf n A Q nL σ tgt lv rest) (kf : ¬ (x < y) → YY p l e R s m args below meth c w cf n A Q nL σ (pc + 3) lv rest) : YY p l e R s m args below meth c w cf n A Q nL σ pc lv (.int y :: .int x :: rest) := fun H locs ls hP hS hl => lv_icmp_lt E.1.1 E.1.2.1 hd ht (fun h => kt h H locs ls hP hS hl) (fun h => kf h H locs ls hP hS hl)
theorem y_if_ge (E : YE p m meth c cc nL s args own r w n A) {x : Int32} {off : Int} {tgt : Nat} (hd : decode cc pc = .ok (.ifCond .ge off, 3)) (ht : (pc : Int) + off = (tgt : Int)) (kt : 0 ≤ x → YY p l e R s m args below meth c w cf n A Q nL σ tgt lv rest) (kf : ¬ (0 ≤ x) → YY p l e R s m args below meth c w cf n A Q nL σ (pc + 3) lv rest) : YY p l e R s m args below meth c w cf n A Q nL σ pc lv (.int x :: rest) := fun H locs ls hP hS hl => lv_if_ge E.1.1 E.1.2.1 hd ht (fun h => kt h H locs ls hP hS hl) (fun h => kf h H locs ls hP hS hl)
theorem y_icmp_ge (E : YE p m meth c cc nL s args own r w n A) {x y : Int32} {off : Int} {tgt : Nat} (hd : decode cc pc = .ok (.if_icmp .ge off, 3)) (ht : (pc : Int) + off = (tgt : Int)) (kt : y ≤ x → YY p l e R s m args below meth c w cf n A Q nL σ tgt lv rest) (kf : ¬ (y ≤ x) → YY p l e R s m args below meth c w cf n A Q nL σ (pc + 3) lv rest) : YY p l e R s m args below meth c w cf n A Q nL σ pc lv (.int y :: .int x :: rest) := fun H locs ls hP hS hl => lv_icmp_ge E.1.1 E.1.2.1 hd ht (fun h => kt h H locs ls hP hS hl) (fun h => kf h H locs ls hP hS hl)
theorem y_if_gt (E : YE p m meth c cc nL s args own r w n A) {x : Int32} {off : Int} {tgt : Nat} (hd : decode cc pc = .ok (.ifCond .gt off, 3)) (ht : (pc : Int) + off = (tgt : Int)) (kt : 0 < x → YY p l e R s m args below meth c w cf n A Q nL σ tgt lv rest) (kf : ¬ (0 < x) → YY p l e R s m args below meth c w cf n A Q nL σ (pc + 3) lv rest) : YY p l e R s m args below meth c w cf n A Q nL σ pc lv (.int x :: rest) := fun H locs ls hP hS hl => lv_if_gt E.1.1 E.1.2.1 hd ht (fun h => kt h H locs ls hP hS hl) (fun h => kf h H locs ls hP hS hl)
theorem y_icmp_gt (E : YE p m meth c cc nL s args own r w n A) {x y : Int32} {off : Int} {tgt : Nat} (hd : decode cc pc = .ok (.if_icmp .gt off, 3)) (ht : (pc : Int) + off = (tgt : Int)) (kt : y < x → YY p l e R s m args below meth c w cf n A Q nL σ tgt lv rest) (kf : ¬ (y < x) → YY p l e R s m args below meth c w cf n A Q nL σ (pc + 3) lv rest) : YY p l e R s m args below meth c w cf n A Q nL σ pc lv (.int y :: .int x :: rest) := fun H locs ls hP hS hl => lv_icmp_gt E.1.1 E.1.2.1 hd ht (fun h => kt h H locs ls hP hS hl) (fun h => kf h H locs ls hP hS hl)
theorem y_if_le (E : YE p m meth c cc nL s args own r w n A) {x : Int32} {off : Int} {tgt : Nat} (hd : decode cc pc = .ok (.ifCond .le off, 3)) (ht : (pc : Int) + off = (tgt : Int)) (kt : x ≤ 0 → YY p l e R s m args below meth c w cf n A Q nL σ tgt lv rest) (kf : ¬ (x ≤ 0) → YY p l e R s m args below meth c w cf n A Q nL σ (pc + 3) lv rest) : YY p l e R s m args below meth c w cf n A Q nL σ pc lv (.int x :: rest) := fun H locs ls hP hS hl => lv_if_le E.1.1 E.1.2.1 hd ht (fun h => kt h H locs ls hP hS hl) (fun h => kf h H locs ls hP hS hl)
theorem y_icmp_le (E : YE p m meth c cc nL s args own r w n A) {x y : Int32} {off : Int} {tgt : Nat} (hd : decode cc pc = .ok (.if_icmp .le off, 3)) (ht : (pc : Int) + off = (tgt : Int)) (kt : x ≤ y → YY p l e R s m args below meth c w cf n A Q nL σ tgt lv rest) (kf : ¬ (x ≤ y) → YY p l e R s m args below meth c w cf n A Q nL σ (pc + 3) lv rest) : YY p l e R s m args below meth c w cf n A Q nL σ pc lv (.int y :: .int x :: rest) := fun H locs ls hP hS hl => lv_icmp_le E.1.1 E.1.2.1 hd ht (fun h => kt h H locs ls hP hS hl) (fun h => kf h H locs ls hP hS hl)
theorem y_goto (E : YE p m meth c cc nL s args own r w n A) {off : Int} {tgt : Nat} (hd : decode cc pc = .ok (.goto off, 3)) (ht : (pc : Int) + off = (tgt : Int)) (k : YY p l e R s m args below meth c w cf n A Q nL σ tgt lv st) : YY p l e R s m args below meth c w cf n A Q nL σ pc lv st := fun H locs ls hP hS hl => lv_goto E.1.1 E.1.2.1 hd ht (k H locs ls hP hS hl)
theorem y_ifnull (E : YE p m meth c cc nL s args own r w n A) {x : Nat} {off : Int} (hd : decode cc pc = .ok (.ifnull off, 3)) (k : YY p l e R s m args below meth c w cf n A Q nL σ (pc + 3) lv rest) : YY p l e R s m args below meth c w cf n A Q nL σ pc lv (.ref x :: rest) := fun H locs ls hP hS hl => lv_ifnull E.1.1 E.1.2.1 hd (k H locs ls hP hS hl)
theorem y_ifnonnull (E : YE p m meth c cc nL s args own r w n A) {x : Nat} {off : Int} {tgt : Nat} (hd : decode cc pc = .ok (.ifnonnull off, 3)) (ht : (pc : Int) + off = (tgt : Int)) (k : YY p l e R s m args below meth c w cf n A Q nL σ tgt lv rest) : YY p l e R s m args below meth c w cf n A Q nL σ pc lv (.ref x :: rest) := fun H locs ls hP hS hl => lv_ifnonnull E.1.1 E.1.2.1 hd ht (k H locs ls hP hS hl)
theorem y_tableIn (E : YE p m meth c cc nL s args own r w n A) {dflt lo hi : Int} {offs : Array Int} {len : Nat} {x : Int32} {off : Int} {tgt : Nat} (hd : decode cc pc = .ok (.tableswitch dflt lo hi offs, len)) (h1 : ¬ x.toInt < lo) (h2 : ¬ hi < x.toInt) (ho : offs[(x.toInt - lo).toNat]? = some off) (ht : (pc : Int) + off = (tgt : Int)) (k : YY p l e R s m args below meth c w cf n A Q nL σ tgt lv rest) : YY p l e R s m args below meth c w cf n A Q nL σ pc lv (.int x :: rest) := fun H locs ls hP hS hl => lv_tableIn E.1.1 E.1.2.1 hd h1 h2 ho ht (k H locs ls hP hS hl)
theorem y_tableOut (E : YE p m meth c cc nL s args own r w n A) {dflt lo hi : Int} {offs : Array Int} {len : Nat} {x : Int32} {tgt : Nat} (hd : decode cc pc = .ok (.tableswitch dflt lo hi offs, len)) (h : x.toInt < lo ∨ hi < x.toInt) (ht : (pc : Int) + dflt = (tgt : Int)) (k : YY p l e R s m args below meth c w cf n A Q nL σ tgt lv rest) : YY p l e R s m args below meth c w cf n A Q nL σ pc lv (.int x :: rest) := fun H locs ls hP hS hl => lv_tableOut E.1.1 E.1.2.1 hd h ht (k H locs ls hP hS hl)
theorem y_get (E : YE p m meth c cc nL s args own r w n A) {o ci index k N : Nat} {C : String} {T : u_T} {fs : List Value} {v : Value} (ho : o < n) (hcell : cf w o (σ o) = .inr (ci, fs)) (hc : vwCl[ci]? = some (C, T, N)) (hin : ∀ x ∈ u_ws C T N, x ∈ wG) (hk : k < N) (hlink : Cond.fieldLink own index (T k).1 (T k).2.1 (T k).2.2.1 ∈ wG) (hv : fs[k]? = some v) (hd : decode cc pc = .ok (.getfield index, 3)) (kk : YY p l e R s m args below meth c w cf n A Q nL σ (pc + 3) lv (v :: rest)) : YY p l e R s m args below meth c w cf n A Q nL σ pc lv (.ref (w.1 o) :: rest) := fun H locs ls hP hS hl =>
  va_get (tys := yTys w) E.1.1 E.1.2.1 E.1.2.2.2.2 hin E.1.2.2.2.1 E.2.1.1 hP o (by rw [yw_get ho, hcell]) hc k hk (E.1.2.2.2.2 _ hlink) (fun _ h => h) hv hd (kk H locs ls hP hS hl)
theorem y_put (E : YE p m meth c cc nL s args own r w n A) {o ci index k N : Nat} {C : String} {T : u_T} {fs : List Value} {v : Value} {ty : FieldType} {z : Int32} (ho : o < n) (hcell : cf w o (σ o) = .inr (ci, fs)) (hset' : cf w o (upd (σ o) k z) = .inr (ci, fs.set k v)) (hc : vwCl[ci]? = some (C, T, N)) (hin : ∀ x ∈ u_ws C T N, x ∈ wG) (ty0 : Nat → FieldType) (hty : ∀ k, k < N → parseFieldDescriptor (T k).2.2.1 = some (ty0 k)) (hnm : ∀ a, a < N → ∀ b, b < N → a ≠ b → (T a).2.1 ≠ (T b).2.1) (hk : k < N) (hlink : Cond.fieldLink own index (T k).1 (T k).2.1 (T k).2.2.1 ∈ wG) (hfin : (T k).2.2.2 = false) (hdd : parseFieldDescriptor (T k).2.2.1 = some ty) (hn : narrow ty v = v) (hfit : fits ty v = true) (hl0 : k < fs.length) (hd : decode cc pc = .ok (.putfield index, 3)) (kk : YY p l e R s m args below meth c w cf n A Q nL (hup σ o k z) (pc + 3) lv rest) : YY p l e R s m args below meth c w cf n A Q nL σ pc lv (v :: .ref (w.1 o) :: rest) := fun H locs ls hP hS hl =>
  va_put (tys := yTys w) E.1.1 E.1.2.1 E.1.2.2.2.2 hin ty0 hty hnm E.1.2.2.2.1 E.2.1.1 hP (y_D E.2.2.1 E.2.2.2.1) hS o (by rw [yw_get ho, hcell]) hc k hk (E.1.2.2.2.2 _ hlink) (fun _ h => h) hfin hdd hn hfit hl0 hd (fun H1 locs1 hP1 _ hS1 => kk H1 locs1 ls (by
    rw [← hset', yw_set ho] at hP1
    exact hP1) hS1 hl)
theorem y_iald (E : YE p m meth c cc nL s args own r w n A) {o N : Nat} {i : Int32} (ho : o < n) (hcell : cf w o (σ o) = .inl (w.2.1 1, N, .inl (σ o))) (hin : vp_in i N) (hd : decode cc pc = .ok (.iaload, 1)) (kk : YY p l e R s m args below meth c w cf n A Q nL σ (pc + 1) lv (.int (σ o i.toNatClampNeg) :: rest)) : YY p l e R s m args below meth c w cf n A Q nL σ pc lv (.int i :: .ref (w.1 o) :: rest) := fun H locs ls hP hS hl =>
  va_iald (tys := yTys w) E.1.1 E.1.2.1 E.2.1.1 hP o 1 (by rw [yw_get ho, hcell]) rfl hin hd (kk H locs ls hP hS hl)
theorem y_bald (E : YE p m meth c cc nL s args own r w n A) {o N : Nat} {i : Int32} (ho : o < n) (hcell : cf w o (σ o) = .inl (w.2.1 0, N, .inl (σ o))) (hin : vp_in i N) (hd : decode cc pc = .ok (.baload, 1)) (kk : YY p l e R s m args below meth c w cf n A Q nL σ (pc + 1) lv (.int (σ o i.toNatClampNeg) :: rest)) : YY p l e R s m args below meth c w cf n A Q nL σ pc lv (.int i :: .ref (w.1 o) :: rest) := fun H locs ls hP hS hl =>
  va_bald (tys := yTys w) E.1.1 E.1.2.1 E.2.1.1 hP o 0 (by rw [yw_get ho, hcell]) rfl hin hd (kk H locs ls hP hS hl)
theorem y_iast (E : YE p m meth c cc nL s args own r w n A) {o N : Nat} {i x : Int32} (ho : o < n) (hcell : ∀ f : Nat → Int32, cf w o f = .inl (w.2.1 1, N, .inl f)) (hin : vp_in i N) (hd : decode cc pc = .ok (.iastore, 1)) (kk : YY p l e R s m args below meth c w cf n A Q nL (hup σ o i.toNatClampNeg x) (pc + 1) lv rest) : YY p l e R s m args below meth c w cf n A Q nL σ pc lv (.int x :: .int i :: .ref (w.1 o) :: rest) := fun H locs ls hP hS hl =>
  va_iast (tys := yTys w) E.1.1 E.1.2.1 E.2.1.1 hP (y_D E.2.2.1 E.2.2.2.1) hS o 1 (by rw [yw_get ho, hcell]) rfl hin hd (fun H1 locs1 hP1 _ hS1 => kk H1 locs1 ls (by
    rw [← hcell, yw_set ho] at hP1
    exact hP1) hS1 hl)
theorem y_bast (E : YE p m meth c cc nL s args own r w n A) {o N : Nat} {i x : Int32} (ho : o < n) (hcell : ∀ f : Nat → Int32, cf w o f = .inl (w.2.1 0, N, .inl f)) (hin : vp_in i N) (hd : decode cc pc = .ok (.bastore, 1)) (kk : YY p l e R s m args below meth c w cf n A Q nL (hup σ o i.toNatClampNeg (vp_nar .byte x)) (pc + 1) lv rest) : YY p l e R s m args below meth c w cf n A Q nL σ pc lv (.int x :: .int i :: .ref (w.1 o) :: rest) := fun H locs ls hP hS hl =>
  va_bast (tys := yTys w) E.1.1 E.1.2.1 E.2.1.1 hP (y_D E.2.2.1 E.2.2.2.1) hS o 0 (by rw [yw_get ho, hcell]) rfl hin hd (fun H1 locs1 hP1 _ hS1 => kk H1 locs1 ls (by
    rw [← hcell, yw_set ho] at hP1
    exact hP1) hS1 hl)
theorem y_aald (E : YE p m meth c cc nL s args own r w n A) {o N t0 b : Nat} {cA : ClassId} {C : String} {i : Int32} (ho : o < n) (hcell : cf w o (σ o) = .inl (cA, N, .inr (.inr (.inr (.inr (fun j => some (w.1 (b + j)))))))) (ht : (yTys w)[t0]? = some (cA, .object C)) (hin : vp_in i N) (hd : decode cc pc = .ok (.aaload, 1)) (kk : YY p l e R s m args below meth c w cf n A Q nL σ (pc + 1) lv (.ref (w.1 (b + i.toNatClampNeg)) :: rest)) : YY p l e R s m args below meth c w cf n A Q nL σ pc lv (.int i :: .ref (w.1 o) :: rest) := fun H locs ls hP hS hl =>
  va_aldq (tys := yTys w) (f := fun j => some (w.1 (b + j))) E.1.1 E.1.2.1 E.2.1.1 hP o t0 (by rw [yw_get ho, hcell]) ht hin hd (kk H locs ls hP hS hl)
theorem y_copyi (E : YE p m meth c cc nL s args own r w n A) {o1 o2 N1 N2 index : Nat} {sp dp k : Int32} (ho1 : o1 < n) (ho2 : o2 < n) (hc1 : cf w o1 (σ o1) = .inl (w.2.1 1, N1, .inl (σ o1))) (hc2 : ∀ f : Nat → Int32, cf w o2 f = .inl (w.2.1 1, N2, .inl f)) (hlink : Cond.methodLink own index arraycopyName ∈ wG) (hnat : Cond.native arraycopyName ∈ wG) (hstat : Cond.static arraycopyName ∈ wG) (hini : Cond.initialized "java/lang/System" ∈ wG) (h1 : ¬ sp < 0) (h2 : ¬ dp < 0) (h3 : ¬ k < 0) (h4 : sp.toNatClampNeg + k.toNatClampNeg ≤ N1) (h5 : dp.toNatClampNeg + k.toNatClampNeg ≤ N2)
    (hf : 1 ≤ R.frames) (hlo : (rest.map fun v => v.category).sum + (nativeFrameWords "java/lang/System" "arraycopy" 5 + 11) ≤ R.locals) (hd : decode cc pc = .ok (.invokestatic index, 3)) (kk : YY p l e R s m args below meth c w cf n A Q nL (hset σ o2 (va_cpy (σ o1) (σ o2) sp.toNatClampNeg dp.toNatClampNeg k.toNatClampNeg)) (pc + 3) lv rest) : YY p l e R s m args below meth c w cf n A Q nL σ pc lv (.int k :: .int dp :: .ref (w.1 o2) :: .int sp :: .ref (w.1 o1) :: rest) := fun H locs ls hP hS hl =>
  va_copyi (tys := yTys w) E.1.1 E.1.2.1 (E.1.2.2.1.trans hl.1.symm) E.1.2.2.2.1 (E.1.2.2.2.2 _ hlink) (E.1.2.2.2.2 _ hnat) (E.1.2.2.2.2 _ hstat) (E.1.2.2.2.2 _ hini) E.2.1.1 hP (y_D E.2.2.1 E.2.2.2.1) hS o1 o2 1 1 (ty := .int) (by rw [yw_get ho1, hc1]) (by rw [yw_get ho2, hc2]) rfl rfl rfl h1 h2 h3 h4 h5 (fun _ _ => rfl) hf hlo hd (fun H1 locs1 hP1 _ hS1 => kk H1 locs1 ls (by
    rw [← hc2, yw_set ho2] at hP1
    exact hP1) hS1 hl)
theorem y_mmax (E : YE p m meth c cc nL s args own r w n A) {index : Nat} {x y : Int32} (hlink : Cond.methodLink own index Lib.Math.max.name ∈ wG) (hstat : Cond.static Lib.Math.max.name ∈ wG) (hini : Cond.initialized "java/lang/Math" ∈ wG) (hcode : Cond.code Lib.Math.max.name Lib.Math.max.code 2 (some .int) ∈ wG) (hf : 1 ≤ R.frames) (hlo : (rest.map fun v => v.category).sum + 13 ≤ R.locals) (hd : decode cc pc = .ok (.invokestatic index, 3)) (kk : YY p l e R s m args below meth c w cf n A Q nL σ (pc + 3) lv (.int (if x < y then y else x) :: rest)) : YY p l e R s m args below meth c w cf n A Q nL σ pc lv (.int y :: .int x :: rest) := fun H locs ls hP hS hl =>
  va_mmax E.1.1 E.1.2.1 (E.1.2.2.1.trans hl.1.symm) E.1.2.2.2.1 (E.1.2.2.2.2 _ hlink) (E.1.2.2.2.2 _ hstat) (E.1.2.2.2.2 _ hini) (E.1.2.2.2.2 _ hcode) hf hlo (Nat.zero_le _) (Nat.zero_le _) hd (kk H locs ls hP hS hl)
theorem y_mmin (E : YE p m meth c cc nL s args own r w n A) {index : Nat} {x y : Int32} (hlink : Cond.methodLink own index Lib.Math.min.name ∈ wG) (hstat : Cond.static Lib.Math.min.name ∈ wG) (hini : Cond.initialized "java/lang/Math" ∈ wG) (hcode : Cond.code Lib.Math.min.name Lib.Math.min.code 2 (some .int) ∈ wG) (hf : 1 ≤ R.frames) (hlo : (rest.map fun v => v.category).sum + 13 ≤ R.locals) (hd : decode cc pc = .ok (.invokestatic index, 3)) (kk : YY p l e R s m args below meth c w cf n A Q nL σ (pc + 3) lv (.int (if y < x then y else x) :: rest)) : YY p l e R s m args below meth c w cf n A Q nL σ pc lv (.int y :: .int x :: rest) := fun H locs ls hP hS hl =>
  va_mmin E.1.1 E.1.2.1 (E.1.2.2.1.trans hl.1.symm) E.1.2.2.2.1 (E.1.2.2.2.2 _ hlink) (E.1.2.2.2.2 _ hstat) (E.1.2.2.2.2 _ hini) (E.1.2.2.2.2 _ hcode) hf hlo (Nat.zero_le _) (Nat.zero_le _) hd (kk H locs ls hP hS hl)
theorem y_free (E : YE p m meth c cc nL s args own r w n A) {H : Heap} {locs : List Loc} (hS : va_S A s.heap H locs) : ∀ q, YA w n H.size q → A q := by
  rintro q (⟨k, hk, rfl⟩ | h)
  · exact E.2.2.2.1 k hk
  · exact E.2.2.2.2.1 q (Nat.le_trans hS.1 h)
theorem y_pre (E : YE p m meth c cc nL s args own r w n A) {H : Heap} {locs : List Loc} (hP : va_P w.2.2.1 vwCl (yw w cf n σ) H) (hS : va_S A s.heap H locs) {av : List Value} {a : Array Value} (ha : a = av.toArray) : ∀ U : State, U.heap = H → s.WarmedH U.vm → va_Pc av (yPre w cf n σ H.size) a U := by
  intro U hU hW
  refine ⟨ha, by rw [hU], by rw [hU]; exact hP, E.2.1.at hW ?_ (y_free E hS)⟩
  intro q h1 h2
  rw [hU]
  exact hS.2.1 q h1 h2
variable {y x0 : MethodName} {b : ByteArray} {nL' d k o ci N index : Nat} {r' : Option FieldType} {As : List Value} {C host owner : String} {T : u_T} {fs : List Value} {Qc : (Nat → Prop) → Array Value → State → Outcome → State → Prop} {a : Array Value}
theorem y_runV (E : YE p m meth c cc nL s args own r w n A) (hM : yMet l w cf n y b nL' r' d (.ref (w.1 o) :: As) σ Qc) (cw : CallW R s args own C index y b nL' r' (.code y b nL' r' :: wG) (yRm d) 0 0 k) (ho : o < n) (hcell : cf w o (σ o) = .inr (ci, fs)) (hc : vwCl[ci]? = some (C, T, N)) (hk : As.length = k) (hst : st = As.reverse ++ .ref (w.1 o) :: rest) (hr : (rest.map fun v => v.category).sum ≤ 8) (hd : decode cc pc = .ok (.invokevirtual index, 3)) : YR p l e R s m args below meth c w cf n A nL σ pc lv st rest (Value.ref (w.1 o) :: As).toArray Qc := fun H locs ls hP hS hl =>
  va_runV E.1 (hM H.size) cw ⟨yPre.blind, va_recv E.2.1.1 hP (ci := ci) (q0 := o) hc (by rw [yw_get ho, hcell]), y_pre E hP hS rfl⟩ rfl hk hl.1 hst (lv_room hr) hd ⟨Nat.zero_le _, Nat.zero_le _⟩
theorem y_runU (E : YE p m meth c cc nL s args own r w n A) (hM : yMet l w cf n y b nL' r' d (.ref (w.1 o) :: As) σ Qc) (cw : va_CU R s args own C owner index x0 y b nL' r' (.code y b nL' r' :: wG) (yRm d) 0 0 k) (ho : o < n) (hcell : cf w o (σ o) = .inr (ci, fs)) (hc : vwCl[ci]? = some (C, T, N)) (hk : As.length = k) (hst : st = As.reverse ++ .ref (w.1 o) :: rest) (hr : (rest.map fun v => v.category).sum ≤ 8) (hd : decode cc pc = .ok (.invokevirtual index, 3)) : YR p l e R s m args below meth c w cf n A nL σ pc lv st rest (Value.ref (w.1 o) :: As).toArray Qc := fun H locs ls hP hS hl =>
  va_runU E.1 (hM H.size) cw ⟨yPre.blind, va_recv E.2.1.1 hP (ci := ci) (q0 := o) hc (by rw [yw_get ho, hcell]), y_pre E hP hS rfl⟩ rfl hk hl.1 hst (lv_room hr) hd ⟨Nat.zero_le _, Nat.zero_le _⟩
theorem y_runSU (E : YE p m meth c cc nL s args own r w n A) (hM : yMet l w cf n y b nL' r' d (.ref (w.1 o) :: As) σ Qc) (cw : va_CS R s args own index y b nL' r' (.code y b nL' r' :: wG) (yRm d) 0 0 k) (ho : o < n) (hcell : cf w o (σ o) = .inr (ci, fs)) (hc : vwCl[ci]? = some (C, T, N)) (hk : As.length = k) (hst : st = As.reverse ++ .ref (w.1 o) :: rest) (hr : (rest.map fun v => v.category).sum ≤ 8) (hd : decode cc pc = .ok (.invokespecial index, 3)) : YR p l e R s m args below meth c w cf n A nL σ pc lv st rest (Value.ref (w.1 o) :: As).toArray Qc := fun H locs ls hP hS hl =>
  va_runSU (E.2.1.1.1 ci _ hc).2 E.1 (hM H.size) cw ⟨yPre.blind, va_recv E.2.1.1 hP (ci := ci) (q0 := o) hc (by rw [yw_get ho, hcell]), y_pre E hP hS rfl⟩ rfl hk hl.1 hst (lv_room hr) hd ⟨Nat.zero_le _, Nat.zero_le _⟩
theorem y_runS (E : YE p m meth c cc nL s args own r w n A) (hM : yMet l w cf n y b nL' r' d As σ Qc) (cw : CallB R s args own index y b nL' r' (.code y b nL' r' :: wG) (yRm d) 0 0 k ∧ (Cond.static y).before args s = true) (hk : As.length = k) (hst : st = As.reverse ++ rest) (hr : (rest.map fun v => v.category).sum ≤ 8) (hd : decode cc pc = .ok (.invokestatic index, 3)) : YR p l e R s m args below meth c w cf n A nL σ pc lv st rest As.toArray Qc := fun H locs ls hP hS hl =>
  va_runS E.1 (hM H.size) cw ⟨yPre.blind, y_pre E hP hS rfl⟩ rfl hk hl.1 hst (lv_room hr) hd ⟨Nat.zero_le _, Nat.zero_le _⟩
theorem y_runSN (E : YE p m meth c cc nL s args own r w n A) (hM : yMet l w cf n y b nL' r' d As σ Qc) (cw : va_CN R s args own index y host b nL' r' (.code y b nL' r' :: wG) (yRm d) 0 0 k ∧ (Cond.static y).before args s = true ∧ True) (hk : As.length = k) (hst : st = As.reverse ++ rest) (hr : (rest.map fun v => v.category).sum ≤ 8) (hd : decode cc pc = .ok (.invokestatic index, 3)) : YR p l e R s m args below meth c w cf n A nL σ pc lv st rest As.toArray Qc := fun H locs ls hP hS hl =>
  va_runSN E.1 (hM H.size) cw ⟨yPre.blind, y_pre E hP hS rfl⟩ rfl hk hl.1 hst (lv_room hr) hd ⟨Nat.zero_le _, Nat.zero_le _⟩
theorem y_calli {K : Int32 → Hp → Prop} (E : YE p m meth c cc nL s args own r w n A) (hR : YR p l e R s m args below meth c w cf n A nL σ pc lv st rest a (yQi w cf n K)) (kk : ∀ (v : Int32) (u : Hp), K v u → YY p l e R s m args below meth c w cf n A Q nL u (pc + 3) lv (.int v :: rest)) : YY p l e R s m args below meth c w cf n A Q nL σ pc lv st := fun H locs ls hP hS hl =>
  va_calli (S := Hp) (post := K) (B := yB w cf n) (A1 := YA w n H.size) (hR H locs ls hP hS hl) hS (fun q _ h => y_free E hS q h) (y_free E hS) (fun v u t H1 locs1 ht _ hk hB _ _ hS1 => kk v u hk H1 locs1 ls (by rw [← ht]; exact hB) hS1 hl)
theorem y_calll {K : Int64 → Hp → Prop} (E : YE p m meth c cc nL s args own r w n A) (hR : YR p l e R s m args below meth c w cf n A nL σ pc lv st rest a (yQl w cf n K)) (kk : ∀ (v : Int64) (u : Hp), K v u → YY p l e R s m args below meth c w cf n A Q nL u (pc + 3) lv (.long v :: rest)) : YY p l e R s m args below meth c w cf n A Q nL σ pc lv st := fun H locs ls hP hS hl =>
  va_calll (S := Hp) (post := K) (B := yB w cf n) (A1 := YA w n H.size) (hR H locs ls hP hS hl) hS (fun q _ h => y_free E hS q h) (y_free E hS) (fun v u t H1 locs1 ht _ hk hB _ _ hS1 => kk v u hk H1 locs1 ls (by rw [← ht]; exact hB) hS1 hl)
theorem y_callv {K : Hp → Prop} (E : YE p m meth c cc nL s args own r w n A) (hR : YR p l e R s m args below meth c w cf n A nL σ pc lv st rest a (yQv w cf n K)) (kk : ∀ (u : Hp), K u → YY p l e R s m args below meth c w cf n A Q nL u (pc + 3) lv rest) : YY p l e R s m args below meth c w cf n A Q nL σ pc lv st := fun H locs ls hP hS hl =>
  va_callv (S := Hp) (post := K) (B := yB w cf n) (A1 := YA w n H.size) (hR H locs ls hP hS hl) hS (fun q _ h => y_free E hS q h) (y_free E hS) (fun u t H1 locs1 ht _ hk hB _ _ hS1 => kk u hk H1 locs1 ls (by rw [← ht]; exact hB) hS1 hl)
theorem y_callr {K : Nat → Hp → Prop} (E : YE p m meth c cc nL s args own r w n A) (hR : YR p l e R s m args below meth c w cf n A nL σ pc lv st rest a (yQr w cf n K)) (kk : ∀ (v : Nat) (u : Hp), K v u → YY p l e R s m args below meth c w cf n A Q nL u (pc + 3) lv (.ref (w.1 v) :: rest)) : YY p l e R s m args below meth c w cf n A Q nL σ pc lv st := fun H locs ls hP hS hl =>
  va_callr (S := Nat × Hp) (post := fun u => K u.1 u.2) (B := fun u a t => a = w.1 u.1 ∧ yB w cf n u.2 t) (A1 := YA w n H.size) (hR H locs ls hP hS hl) hS (fun q _ h => y_free E hS q h) (y_free E hS) (fun u ra t H1 locs1 ht _ hk hB _ _ hS1 => by
    obtain ⟨rfl, hB⟩ := hB
    exact kk u.1 u.2 hk H1 locs1 ls (by rw [← ht]; exact hB) hS1 hl)
theorem y_iret {K : Int32 → Hp → Prop} {v : Int32} (E : YE p m meth c cc nL s args own (some .int) w n A) (hd : decode cc pc = .ok (.ireturn, 1)) (hv : K v σ) : YY p l e R s m args below meth c w cf n A (MQ below (yQi w cf n K A) args s 0 0 A) nL σ pc lv [.int v] := fun H locs ls hP hS hl =>
  W.iret E.1.1 E.1.2.1 E.2.2.2.2.2.1 (fun t ht hW => ⟨⟨v, σ, rfl, hv, by rw [yB, ht]; exact hP⟩, hS.F ht⟩) hS.2.2 hd E.2.2.2.2.2.2
theorem y_nret {ty : FieldType} {K : Int32 → Hp → Prop} {v : Int32} (E : YE p m meth c cc nL s args own (some ty) w n A) (hd : decode cc pc = .ok (.ireturn, 1)) (hn : narrow ty (.int v) = .int v) (hv : K v σ) : YY p l e R s m args below meth c w cf n A (MQ below (yQi w cf n K A) args s 0 0 A) nL σ pc lv [.int v] := fun H locs ls hP hS hl =>
  W.zret E.1.1 E.1.2.1 E.2.2.2.2.2.1 hn (fun t ht hW => ⟨⟨v, σ, rfl, hv, by rw [yB, ht]; exact hP⟩, hS.F ht⟩) hS.2.2 hd E.2.2.2.2.2.2
theorem y_lret {K : Int64 → Hp → Prop} {v : Int64} (E : YE p m meth c cc nL s args own (some .long) w n A) (hd : decode cc pc = .ok (.lreturn, 1)) (hv : K v σ) : YY p l e R s m args below meth c w cf n A (MQ below (yQl w cf n K A) args s 0 0 A) nL σ pc lv [.long v] := fun H locs ls hP hS hl =>
  W.lret E.1.1 E.1.2.1 E.2.2.2.2.2.1 (fun t ht hW => ⟨⟨v, σ, rfl, hv, by rw [yB, ht]; exact hP⟩, hS.F ht⟩) hS.2.2 hd E.2.2.2.2.2.2
theorem y_vret {K : Hp → Prop} (E : YE p m meth c cc nL s args own none w n A) (hd : decode cc pc = .ok (.return_, 1)) (hv : K σ) : YY p l e R s m args below meth c w cf n A (MQ below (yQv w cf n K A) args s 0 0 A) nL σ pc lv [] := fun H locs ls hP hS hl =>
  W.vret E.1.1 E.1.2.1 E.2.2.2.2.2.1 (fun t ht hW => ⟨⟨σ, rfl, hv, by rw [yB, ht]; exact hP⟩, hS.F ht⟩) hS.2.2 hd E.2.2.2.2.2.2
theorem y_aret {CC : String} {K : Nat → Hp → Prop} {v : Nat} (E : YE p m meth c cc nL s args own (some (.object CC)) w n A) (hd : decode cc pc = .ok (.areturn, 1)) (hv : K v σ) : YY p l e R s m args below meth c w cf n A (MQ below (yQr w cf n K A) args s 0 0 A) nL σ pc lv [.ref (w.1 v)] := fun H locs ls hP hS hl =>
  W.aret (rt := .object CC) E.1.1 E.1.2.1 E.2.2.2.2.2.1 (Or.inl ⟨CC, rfl⟩) (Or.inr ⟨_, rfl⟩) (fun t ht hW => ⟨⟨(v, σ), w.1 v, rfl, hv, rfl, by rw [yB, ht]; exact hP⟩, hS.F ht⟩) hS.2.2 hd E.2.2.2.2.2.2
end YROWS
theorem y_start {l : Launch} {w : wT} {cf : cT} {n : Nat} {y : MethodName} {b : ByteArray} {nL : Nat} {r : Option FieldType} {d : Nat} {av : List Value} {σ : Hp} {Qc : (Nat → Prop) → Array Value → State → Outcome → State → Prop} {own : String} {lv0 : List (Nat × Value)} (hy : plainName y.cls = true) (hown : y.cls = own) (hw : yOk w n) (hlen : (lg_sl av).length ≤ nL) (hlv : lv_args 0 av = lv0)
    (body : ∀ p e s m below meth c A, YE p m meth c b nL s av.toArray own r w n A → YY p l e (yRm d) s m av.toArray below meth c w cf n A (MQ below (Qc A) av.toArray s 0 0 A) nL σ 0 lv0 []) : yMet l w cf n y b nL r d av σ Qc := by
  intro sz
  refine Met.ofW (cc := b) (maxL := nL) (ret := r) hy rfl ?_
  intro p e s m args below meth c s₁ B hml hv
  obtain ⟨rfl, hsz, hP, hG⟩ := hv
  subst hsz
  have hts := atoms_spec (ws := .code y b nL r :: wG) B.pre
  have hown2 : s.vm.findClass own = some m.cls := by rw [← hown]; exact findClass_of_methodNamed B.named
  have h := body p e s m below meth c (YA w n s.heap.size) ⟨⟨B.exec, B.bytes, hml, hown2, fun w hw => hts w (List.mem_cons_of_mem _ hw)⟩, hG, hw, fun k hk => Or.inl ⟨k, hk, rfl⟩, fun q hq => Or.inr hq, B.returns, B.notSynchronized⟩
  have hl := lv_entry av (n := nL) hlen
  rw [hlv] at hl
  rw [lg_entry_eq]
  exact h s.heap [] _ hP va_S.rf hl
theorem gI {y : MethodName} {b : ByteArray} {nL : Nat} {r : Option FieldType} (h : .code y b nL r ∈ wG) : GoodIn wG (.code y b nL r :: wG) := by
  intro w hw
  have h1 : w ∈ wG := by
    rcases List.mem_cons.mp hw with rfl | h2
    · exact h
    · exact h2
  exact ⟨h1, good_of_word (wG_good w h1)⟩
theorem gApp {a : List Cond} {b : List Cond} (h1 : ∀ w ∈ a, w ∈ wG) (h2 : GoodIn wG b) : GoodIn wG (a ++ b) := by
  intro w hw
  rcases List.mem_append.mp hw with h | h
  · exact ⟨h1 w h, good_of_word (wG_good w (h1 w h))⟩
  · exact h2 w h
theorem gL0 : ∀ w ∈ ([] : List Cond), w ∈ wG := fun _ h => absurd h List.not_mem_nil
theorem gL1 {a : Cond} {l : List Cond} (h : a ∈ wG) (h2 : ∀ w ∈ l, w ∈ wG) : ∀ w ∈ a :: l, w ∈ wG := fun w hw => by
  rcases List.mem_cons.mp hw with rfl | h3
  · exact h
  · exact h2 w h3
section YCW
variable {s : State} {args : Array Value} {own C host owner : String} {index nL d d' : Nat} {y x0 : MethodName} {b : ByteArray} {r : Option FieldType} {R : Room}
theorem y_cwV (k : Nat) (hts : ∀ w ∈ wG, w.before args s = true) (h1 : .methodLink own index y ∈ wG) (h2 : .instanceMethod y ∈ wG) (h3 : .selects C y y ∈ wG) (h4 : .initialized C ∈ wG) (h5 : .code y b nL r ∈ wG) (hd : y.cls = C ∧ y.cls ≠ "java/lang/invoke/MethodHandle" ∧ y.cls ≠ "java/lang/invoke/VarHandle" ∧ (parseMethodDescriptor y.desc).map (fun d => d.parameters.length) = some k) (hR : (yRm d).frames + 1 ≤ R.frames ∧ 8 + (nL + 11) + (yRm d).locals ≤ R.locals) : CallW R s args own C index y b nL r (.code y b nL r :: wG) (yRm d) 0 0 k :=
  cwV k hts (gApp (gL1 h1 (gL1 h2 (gL1 h3 (gL1 h4 gL0)))) (gI h5)) rfl rfl rfl hd hR
theorem y_cwS (k : Nat) (hts : ∀ w ∈ wG, w.before args s = true) (h1 : .methodLink own index y ∈ wG) (h2 : .static y ∈ wG) (h4 : .initialized own ∈ wG) (h5 : .code y b nL r ∈ wG) (hd : y.cls = own ∧ y.cls ≠ "java/lang/invoke/MethodHandle" ∧ y.cls ≠ "java/lang/invoke/VarHandle" ∧ (parseMethodDescriptor y.desc).map (fun d => d.parameters.length) = some k) (hR : (yRm d).frames + 1 ≤ R.frames ∧ 8 + (nL + 11) + (yRm d).locals ≤ R.locals) : CallB R s args own index y b nL r (.code y b nL r :: wG) (yRm d) 0 0 k ∧ (Cond.static y).before args s = true :=
  cwS k hts (gApp (gL1 h1 (gL1 h2 (gL1 h4 gL0))) (gI h5)) rfl rfl rfl hd hR
theorem y_cwF (k : Nat) (hts : ∀ w ∈ wG, w.before args s = true) (h1 : .methodLink own index y ∈ wG) (h2 : .static y ∈ wG) (h4 : .initialized y.cls ∈ wG) (h5 : .code y b nL r ∈ wG) (hd : y.cls ≠ "java/lang/invoke/MethodHandle" ∧ y.cls ≠ "java/lang/invoke/VarHandle" ∧ (parseMethodDescriptor y.desc).map (fun d => d.parameters.length) = some k) (hR : (yRm d).frames + 1 ≤ R.frames ∧ 8 + (nL + 11) + (yRm d).locals ≤ R.locals) : CallB R s args own index y b nL r (.code y b nL r :: wG) (yRm d) 0 0 k ∧ (Cond.static y).before args s = true :=
  ⟨callB_of k hts (gI h5) rfl rfl rfl (hts _ h4) (hts _ h1) hd hR, hts _ h2⟩
theorem y_cwSN (k : Nat) (hts : ∀ w ∈ wG, w.before args s = true) (hn : va_Nw (.methodLinkNest own index y host) s) (h2 : .static y ∈ wG) (h4 : .initialized y.cls ∈ wG) (h5 : .code y b nL r ∈ wG) (hd : y.cls ≠ "java/lang/invoke/MethodHandle" ∧ y.cls ≠ "java/lang/invoke/VarHandle" ∧ (parseMethodDescriptor y.desc).map (fun d => d.parameters.length) = some k) (hR : (yRm d).frames + 1 ≤ R.frames ∧ 8 + (nL + 11) + (yRm d).locals ≤ R.locals) : va_CN R s args own index y host b nL r (.code y b nL r :: wG) (yRm d) 0 0 k ∧ (Cond.static y).before args s = true ∧ True :=
  ⟨va_cnB k hts (gI h5) rfl rfl rfl hn (hts _ h4) hd hR, hts _ h2, trivial⟩
theorem y_cwSU (k : Nat) (hts : ∀ w ∈ wG, w.before args s = true) (h1 : .methodLink own index y ∈ wG) (h2 : .sameMethod y.cls y.cls y.name y.desc ∈ wG) (h3 : .superclass own y.cls ∈ wG) (h4 : .instanceMethod y ∈ wG) (h6 : .initialized y.cls ∈ wG) (h5 : .code y b nL r ∈ wG) (hd : y.name ≠ "<init>" ∧ (parseMethodDescriptor y.desc).map (fun d => d.parameters.length) = some k) (hR : (yRm d).frames + 1 ≤ R.frames ∧ 8 + (nL + 11) + (yRm d).locals ≤ R.locals) : va_CS R s args own index y b nL r (.code y b nL r :: wG) (yRm d) 0 0 k :=
  va_cwSU k hts (gApp (gL1 h1 (gL1 h2 (gL1 h3 (gL1 h4 (gL1 h6 gL0))))) (gI h5)) rfl rfl rfl hd hR
theorem y_cwU (k : Nat) (hts : ∀ w ∈ wG, w.before args s = true) (h1 : .methodLink own index x0 ∈ wG) (h2 : .sameMethod x0.cls owner x0.name x0.desc ∈ wG) (h3 : .selects C x0 y ∈ wG) (h4 : .instanceMethod y ∈ wG) (h6 : .initialized y.cls ∈ wG) (h5 : .code y b nL r ∈ wG) (hyx : y = ⟨owner, x0.name, x0.desc⟩) (hd : owner ≠ "java/lang/invoke/MethodHandle" ∧ owner ≠ "java/lang/invoke/VarHandle" ∧ (parseMethodDescriptor x0.desc).map (fun d => d.parameters.length) = some k) (hR : (yRm d).frames + 1 ≤ R.frames ∧ 8 + (nL + 11) + (yRm d).locals ≤ R.locals) : va_CU R s args own C owner index x0 y b nL r (.code y b nL r :: wG) (yRm d) 0 0 k :=
  va_cwU k hts (gApp (gL1 h1 (gL1 h2 (gL1 h3 (gL1 h4 (gL1 h6 gL0))))) (gI h5)) rfl rfl rfl hyx hd hR
theorem y_cwO (k : Nat) (hts : ∀ w ∈ wG, w.before args s = true) (h1 : .methodLink own index x0 ∈ wG) (h2 : .sameMethod x0.cls owner x0.name x0.desc ∈ wG) (h7 : .instanceMethod ⟨owner, x0.name, x0.desc⟩ ∈ wG) (h3 : .selects C x0 y ∈ wG) (h4 : .instanceMethod y ∈ wG) (h6 : .initialized y.cls ∈ wG) (h5 : .code y b nL r ∈ wG) {b0 : ByteArray} {m0 : Nat} {r0 : Option FieldType} (h0 : Cond.code ⟨owner, x0.name, x0.desc⟩ b0 m0 r0 ∈ wG) (hd : owner ≠ "java/lang/invoke/MethodHandle" ∧ owner ≠ "java/lang/invoke/VarHandle" ∧ (parseMethodDescriptor x0.desc).map (fun d => d.parameters.length) = some k) (hR : (yRm d).frames + 1 ≤ R.frames ∧ 8 + (nL + 11) + (yRm d).locals ≤ R.locals) : va_CU R s args own C owner index x0 y b nL r (.code y b nL r :: wG) (yRm d) 0 0 k :=
  va_cwO k hts (gApp (gL1 h1 (gL1 h2 (gL1 h7 (gL1 h3 (gL1 h4 (gL1 h6 gL0)))))) (gI h5)) rfl rfl rfl h0 hd hR
end YCW
end
section
/-! ===== the layout of the two worlds: by program out of the classes' fields ===== -/
def rfv (w : wT) (v : Int32) : Value := if v = 0 then .null else .ref (w.1 (v.toNatClampNeg - 1))
theorem nI_sne0 {q : Nat} (hq : q < 1000) : ¬ nI (q + 1) = 0 := nI_ne0 (Nat.succ_pos q) (by omega)
theorem rfv_nI {w : wT} {q : Nat} (hq : q < 1000) : rfv w (nI (q + 1)) = .ref (w.1 q) := by
  unfold rfv
  rw [if_neg (nI_sne0 hq), nI_clamp (by omega)]
  rfl
def xcf : cT := fun w o r => if o < 1 then .inr (11, [.ref (w.1 1), .ref (w.1 2), .int (r 2), .ref (w.1 11), .ref (w.1 18), .int (r 5), .ref (w.1 38), .ref (w.1 40), .ref (w.1 49), .ref (w.1 50), .ref (w.1 51), .ref (w.1 52), .ref (w.1 53), .ref (w.1 54)]) else if o < 3 then .inr (3, [.int (r 0), .int (r 1), .int (r 2), .int (r 3), .int (r 4), .int (r 5), .ref (w.1 (3 + 4 * (o - 1))), .ref (w.1 (4 + 4 * (o - 1))), .ref (w.1 (5 + 4 * (o - 1))), .ref (w.1 (6 + 4 * (o - 1)))]) else if o < 11 then .inl (w.2.1 1, 5, .inl r) else if o < 12 then .inl (w.2.1 4, 6, .inr (.inr (.inr (.inr (fun j => some (w.1 (12 + j))))))) else if o < 13 then .inr (10, []) else if o < 14 then .inr (7, []) else if o < 15 then .inr (5, []) else if o < 16 then .inr (8, []) else if o < 17 then .inr (0, []) else if o < 18 then .inr (2, []) else if o < 19 then .inl (w.2.1 3, 6, .inr (.inr (.inr (.inr (fun j => some (w.1 (19 + j))))))) else if o < 25 then .inr (9, [.ref (w.1 (25 + 1 * (o - 19))), .ref (w.1 (31 + 1 * (o - 19))), .ref (w.1 37), .int (r 3), .int (r 4)]) else if o < 31 then .inl (w.2.1 1, 160, .inl r) else if o < 37 then .inl (w.2.1 1, 4, .inl r) else if o < 38 then .inl (w.2.1 1, 160, .inl r) else if o < 39 then .inr (4, [.ref (w.1 39), .int (r 1), .int (r 2), .int (r 3), .int (r 4), .int (r 5), rfv w (r 6)]) else if o < 40 then .inl (w.2.1 0, 160, .inl r) else if o < 41 then .inl (w.2.1 2, 4, .inr (.inr (.inr (.inr (fun j => some (w.1 (41 + j))))))) else if o < 45 then .inr (6, [.ref (w.1 (45 + 1 * (o - 41))), .int (r 1), .int (r 2)]) else if o < 49 then .inl (w.2.1 1, 40, .inl r) else if o < 50 then .inr (1, [.ref (w.1 1), rfv w (r 1), rfv w (r 2), .int (r 3), .int (r 4), .int (r 5), .int (r 6), .int (r 7)]) else if o < 51 then .inl (w.2.1 1, 41, .inl r) else if o < 52 then .inl (w.2.1 1, 30, .inl r) else if o < 53 then .inl (w.2.1 1, 30, .inl r) else if o < 54 then .inl (w.2.1 1, 25, .inl r) else .inl (w.2.1 1, 30, .inl r)
theorem xc_X11 {w : wT} {o : Nat} {r : Nat → Int32} (h1 : 0 ≤ o) (h2 : o < 1) : xcf w o r = .inr (11, [.ref (w.1 1), .ref (w.1 2), .int (r 2), .ref (w.1 11), .ref (w.1 18), .int (r 5), .ref (w.1 38), .ref (w.1 40), .ref (w.1 49), .ref (w.1 50), .ref (w.1 51), .ref (w.1 52), .ref (w.1 53), .ref (w.1 54)]) := by
  unfold xcf
  rw [if_pos h2]
theorem xc_X3 {w : wT} {o : Nat} {r : Nat → Int32} (h1 : 1 ≤ o) (h2 : o < 3) : xcf w o r = .inr (3, [.int (r 0), .int (r 1), .int (r 2), .int (r 3), .int (r 4), .int (r 5), .ref (w.1 (3 + 4 * (o - 1))), .ref (w.1 (4 + 4 * (o - 1))), .ref (w.1 (5 + 4 * (o - 1))), .ref (w.1 (6 + 4 * (o - 1)))]) := by
  unfold xcf
  rw [if_neg (show ¬ o < 1 by omega), if_pos h2]
theorem xc_harr {w : wT} {o : Nat} {r : Nat → Int32} (h1 : 3 ≤ o) (h2 : o < 11) : xcf w o r = .inl (w.2.1 1, 5, .inl r) := by
  unfold xcf
  rw [if_neg (show ¬ o < 1 by omega), if_neg (show ¬ o < 3 by omega), if_pos h2]
theorem xc_rkinds {w : wT} {o : Nat} {r : Nat → Int32} (h1 : 11 ≤ o) (h2 : o < 12) : xcf w o r = .inl (w.2.1 4, 6, .inr (.inr (.inr (.inr (fun j => some (w.1 (12 + j))))))) := by
  unfold xcf
  rw [if_neg (show ¬ o < 1 by omega), if_neg (show ¬ o < 3 by omega), if_neg (show ¬ o < 11 by omega), if_pos h2]
theorem xc_t0 {w : wT} {o : Nat} {r : Nat → Int32} (h1 : 12 ≤ o) (h2 : o < 13) : xcf w o r = .inr (10, []) := by
  unfold xcf
  rw [if_neg (show ¬ o < 1 by omega), if_neg (show ¬ o < 3 by omega), if_neg (show ¬ o < 11 by omega), if_neg (show ¬ o < 12 by omega), if_pos h2]
theorem xc_t1 {w : wT} {o : Nat} {r : Nat → Int32} (h1 : 13 ≤ o) (h2 : o < 14) : xcf w o r = .inr (7, []) := by
  unfold xcf
  rw [if_neg (show ¬ o < 1 by omega), if_neg (show ¬ o < 3 by omega), if_neg (show ¬ o < 11 by omega), if_neg (show ¬ o < 12 by omega), if_neg (show ¬ o < 13 by omega), if_pos h2]
theorem xc_t2 {w : wT} {o : Nat} {r : Nat → Int32} (h1 : 14 ≤ o) (h2 : o < 15) : xcf w o r = .inr (5, []) := by
  unfold xcf
  rw [if_neg (show ¬ o < 1 by omega), if_neg (show ¬ o < 3 by omega), if_neg (show ¬ o < 11 by omega), if_neg (show ¬ o < 12 by omega), if_neg (show ¬ o < 13 by omega), if_neg (show ¬ o < 14 by omega), if_pos h2]
theorem xc_t3 {w : wT} {o : Nat} {r : Nat → Int32} (h1 : 15 ≤ o) (h2 : o < 16) : xcf w o r = .inr (8, []) := by
  unfold xcf
  rw [if_neg (show ¬ o < 1 by omega), if_neg (show ¬ o < 3 by omega), if_neg (show ¬ o < 11 by omega), if_neg (show ¬ o < 12 by omega), if_neg (show ¬ o < 13 by omega), if_neg (show ¬ o < 14 by omega), if_neg (show ¬ o < 15 by omega), if_pos h2]
theorem xc_t4 {w : wT} {o : Nat} {r : Nat → Int32} (h1 : 16 ≤ o) (h2 : o < 17) : xcf w o r = .inr (0, []) := by
  unfold xcf
  rw [if_neg (show ¬ o < 1 by omega), if_neg (show ¬ o < 3 by omega), if_neg (show ¬ o < 11 by omega), if_neg (show ¬ o < 12 by omega), if_neg (show ¬ o < 13 by omega), if_neg (show ¬ o < 14 by omega), if_neg (show ¬ o < 15 by omega), if_neg (show ¬ o < 16 by omega), if_pos h2]
theorem xc_t5 {w : wT} {o : Nat} {r : Nat → Int32} (h1 : 17 ≤ o) (h2 : o < 18) : xcf w o r = .inr (2, []) := by
  unfold xcf
  rw [if_neg (show ¬ o < 1 by omega), if_neg (show ¬ o < 3 by omega), if_neg (show ¬ o < 11 by omega), if_neg (show ¬ o < 12 by omega), if_neg (show ¬ o < 13 by omega), if_neg (show ¬ o < 14 by omega), if_neg (show ¬ o < 15 by omega), if_neg (show ¬ o < 16 by omega), if_neg (show ¬ o < 17 by omega), if_pos h2]
theorem xc_rtexts {w : wT} {o : Nat} {r : Nat → Int32} (h1 : 18 ≤ o) (h2 : o < 19) : xcf w o r = .inl (w.2.1 3, 6, .inr (.inr (.inr (.inr (fun j => some (w.1 (19 + j))))))) := by
  unfold xcf
  rw [if_neg (show ¬ o < 1 by omega), if_neg (show ¬ o < 3 by omega), if_neg (show ¬ o < 11 by omega), if_neg (show ¬ o < 12 by omega), if_neg (show ¬ o < 13 by omega), if_neg (show ¬ o < 14 by omega), if_neg (show ¬ o < 15 by omega), if_neg (show ¬ o < 16 by omega), if_neg (show ¬ o < 17 by omega), if_neg (show ¬ o < 18 by omega), if_pos h2]
theorem xc_X9 {w : wT} {o : Nat} {r : Nat → Int32} (h1 : 19 ≤ o) (h2 : o < 25) : xcf w o r = .inr (9, [.ref (w.1 (25 + 1 * (o - 19))), .ref (w.1 (31 + 1 * (o - 19))), .ref (w.1 37), .int (r 3), .int (r 4)]) := by
  unfold xcf
  rw [if_neg (show ¬ o < 1 by omega), if_neg (show ¬ o < 3 by omega), if_neg (show ¬ o < 11 by omega), if_neg (show ¬ o < 12 by omega), if_neg (show ¬ o < 13 by omega), if_neg (show ¬ o < 14 by omega), if_neg (show ¬ o < 15 by omega), if_neg (show ¬ o < 16 by omega), if_neg (show ¬ o < 17 by omega), if_neg (show ¬ o < 18 by omega), if_neg (show ¬ o < 19 by omega), if_pos h2]
theorem xc_codes {w : wT} {o : Nat} {r : Nat → Int32} (h1 : 25 ≤ o) (h2 : o < 31) : xcf w o r = .inl (w.2.1 1, 160, .inl r) := by
  unfold xcf
  rw [if_neg (show ¬ o < 1 by omega), if_neg (show ¬ o < 3 by omega), if_neg (show ¬ o < 11 by omega), if_neg (show ¬ o < 12 by omega), if_neg (show ¬ o < 13 by omega), if_neg (show ¬ o < 14 by omega), if_neg (show ¬ o < 15 by omega), if_neg (show ¬ o < 16 by omega), if_neg (show ¬ o < 17 by omega), if_neg (show ¬ o < 18 by omega), if_neg (show ¬ o < 19 by omega), if_neg (show ¬ o < 25 by omega), if_pos h2]
theorem xc_starts {w : wT} {o : Nat} {r : Nat → Int32} (h1 : 31 ≤ o) (h2 : o < 37) : xcf w o r = .inl (w.2.1 1, 4, .inl r) := by
  unfold xcf
  rw [if_neg (show ¬ o < 1 by omega), if_neg (show ¬ o < 3 by omega), if_neg (show ¬ o < 11 by omega), if_neg (show ¬ o < 12 by omega), if_neg (show ¬ o < 13 by omega), if_neg (show ¬ o < 14 by omega), if_neg (show ¬ o < 15 by omega), if_neg (show ¬ o < 16 by omega), if_neg (show ¬ o < 17 by omega), if_neg (show ¬ o < 18 by omega), if_neg (show ¬ o < 19 by omega), if_neg (show ¬ o < 25 by omega), if_neg (show ¬ o < 31 by omega), if_pos h2]
theorem xc_stack {w : wT} {o : Nat} {r : Nat → Int32} (h1 : 37 ≤ o) (h2 : o < 38) : xcf w o r = .inl (w.2.1 1, 160, .inl r) := by
  unfold xcf
  rw [if_neg (show ¬ o < 1 by omega), if_neg (show ¬ o < 3 by omega), if_neg (show ¬ o < 11 by omega), if_neg (show ¬ o < 12 by omega), if_neg (show ¬ o < 13 by omega), if_neg (show ¬ o < 14 by omega), if_neg (show ¬ o < 15 by omega), if_neg (show ¬ o < 16 by omega), if_neg (show ¬ o < 17 by omega), if_neg (show ¬ o < 18 by omega), if_neg (show ¬ o < 19 by omega), if_neg (show ¬ o < 25 by omega), if_neg (show ¬ o < 31 by omega), if_neg (show ¬ o < 37 by omega), if_pos h2]
theorem xc_X4 {w : wT} {o : Nat} {r : Nat → Int32} (h1 : 38 ≤ o) (h2 : o < 39) : xcf w o r = .inr (4, [.ref (w.1 39), .int (r 1), .int (r 2), .int (r 3), .int (r 4), .int (r 5), rfv w (r 6)]) := by
  unfold xcf
  rw [if_neg (show ¬ o < 1 by omega), if_neg (show ¬ o < 3 by omega), if_neg (show ¬ o < 11 by omega), if_neg (show ¬ o < 12 by omega), if_neg (show ¬ o < 13 by omega), if_neg (show ¬ o < 14 by omega), if_neg (show ¬ o < 15 by omega), if_neg (show ¬ o < 16 by omega), if_neg (show ¬ o < 17 by omega), if_neg (show ¬ o < 18 by omega), if_neg (show ¬ o < 19 by omega), if_neg (show ¬ o < 25 by omega), if_neg (show ¬ o < 31 by omega), if_neg (show ¬ o < 37 by omega), if_neg (show ¬ o < 38 by omega), if_pos h2]
theorem xc_bytes {w : wT} {o : Nat} {r : Nat → Int32} (h1 : 39 ≤ o) (h2 : o < 40) : xcf w o r = .inl (w.2.1 0, 160, .inl r) := by
  unfold xcf
  rw [if_neg (show ¬ o < 1 by omega), if_neg (show ¬ o < 3 by omega), if_neg (show ¬ o < 11 by omega), if_neg (show ¬ o < 12 by omega), if_neg (show ¬ o < 13 by omega), if_neg (show ¬ o < 14 by omega), if_neg (show ¬ o < 15 by omega), if_neg (show ¬ o < 16 by omega), if_neg (show ¬ o < 17 by omega), if_neg (show ¬ o < 18 by omega), if_neg (show ¬ o < 19 by omega), if_neg (show ¬ o < 25 by omega), if_neg (show ¬ o < 31 by omega), if_neg (show ¬ o < 37 by omega), if_neg (show ¬ o < 38 by omega), if_neg (show ¬ o < 39 by omega), if_pos h2]
theorem xc_rsheets {w : wT} {o : Nat} {r : Nat → Int32} (h1 : 40 ≤ o) (h2 : o < 41) : xcf w o r = .inl (w.2.1 2, 4, .inr (.inr (.inr (.inr (fun j => some (w.1 (41 + j))))))) := by
  unfold xcf
  rw [if_neg (show ¬ o < 1 by omega), if_neg (show ¬ o < 3 by omega), if_neg (show ¬ o < 11 by omega), if_neg (show ¬ o < 12 by omega), if_neg (show ¬ o < 13 by omega), if_neg (show ¬ o < 14 by omega), if_neg (show ¬ o < 15 by omega), if_neg (show ¬ o < 16 by omega), if_neg (show ¬ o < 17 by omega), if_neg (show ¬ o < 18 by omega), if_neg (show ¬ o < 19 by omega), if_neg (show ¬ o < 25 by omega), if_neg (show ¬ o < 31 by omega), if_neg (show ¬ o < 37 by omega), if_neg (show ¬ o < 38 by omega), if_neg (show ¬ o < 39 by omega), if_neg (show ¬ o < 40 by omega), if_pos h2]
theorem xc_X6 {w : wT} {o : Nat} {r : Nat → Int32} (h1 : 41 ≤ o) (h2 : o < 45) : xcf w o r = .inr (6, [.ref (w.1 (45 + 1 * (o - 41))), .int (r 1), .int (r 2)]) := by
  unfold xcf
  rw [if_neg (show ¬ o < 1 by omega), if_neg (show ¬ o < 3 by omega), if_neg (show ¬ o < 11 by omega), if_neg (show ¬ o < 12 by omega), if_neg (show ¬ o < 13 by omega), if_neg (show ¬ o < 14 by omega), if_neg (show ¬ o < 15 by omega), if_neg (show ¬ o < 16 by omega), if_neg (show ¬ o < 17 by omega), if_neg (show ¬ o < 18 by omega), if_neg (show ¬ o < 19 by omega), if_neg (show ¬ o < 25 by omega), if_neg (show ¬ o < 31 by omega), if_neg (show ¬ o < 37 by omega), if_neg (show ¬ o < 38 by omega), if_neg (show ¬ o < 39 by omega), if_neg (show ¬ o < 40 by omega), if_neg (show ¬ o < 41 by omega), if_pos h2]
theorem xc_numbers {w : wT} {o : Nat} {r : Nat → Int32} (h1 : 45 ≤ o) (h2 : o < 49) : xcf w o r = .inl (w.2.1 1, 40, .inl r) := by
  unfold xcf
  rw [if_neg (show ¬ o < 1 by omega), if_neg (show ¬ o < 3 by omega), if_neg (show ¬ o < 11 by omega), if_neg (show ¬ o < 12 by omega), if_neg (show ¬ o < 13 by omega), if_neg (show ¬ o < 14 by omega), if_neg (show ¬ o < 15 by omega), if_neg (show ¬ o < 16 by omega), if_neg (show ¬ o < 17 by omega), if_neg (show ¬ o < 18 by omega), if_neg (show ¬ o < 19 by omega), if_neg (show ¬ o < 25 by omega), if_neg (show ¬ o < 31 by omega), if_neg (show ¬ o < 37 by omega), if_neg (show ¬ o < 38 by omega), if_neg (show ¬ o < 39 by omega), if_neg (show ¬ o < 40 by omega), if_neg (show ¬ o < 41 by omega), if_neg (show ¬ o < 45 by omega), if_pos h2]
theorem xc_X1 {w : wT} {o : Nat} {r : Nat → Int32} (h1 : 49 ≤ o) (h2 : o < 50) : xcf w o r = .inr (1, [.ref (w.1 1), rfv w (r 1), rfv w (r 2), .int (r 3), .int (r 4), .int (r 5), .int (r 6), .int (r 7)]) := by
  unfold xcf
  rw [if_neg (show ¬ o < 1 by omega), if_neg (show ¬ o < 3 by omega), if_neg (show ¬ o < 11 by omega), if_neg (show ¬ o < 12 by omega), if_neg (show ¬ o < 13 by omega), if_neg (show ¬ o < 14 by omega), if_neg (show ¬ o < 15 by omega), if_neg (show ¬ o < 16 by omega), if_neg (show ¬ o < 17 by omega), if_neg (show ¬ o < 18 by omega), if_neg (show ¬ o < 19 by omega), if_neg (show ¬ o < 25 by omega), if_neg (show ¬ o < 31 by omega), if_neg (show ¬ o < 37 by omega), if_neg (show ¬ o < 38 by omega), if_neg (show ¬ o < 39 by omega), if_neg (show ¬ o < 40 by omega), if_neg (show ¬ o < 41 by omega), if_neg (show ¬ o < 45 by omega), if_neg (show ¬ o < 49 by omega), if_pos h2]
theorem xc_path {w : wT} {o : Nat} {r : Nat → Int32} (h1 : 50 ≤ o) (h2 : o < 51) : xcf w o r = .inl (w.2.1 1, 41, .inl r) := by
  unfold xcf
  rw [if_neg (show ¬ o < 1 by omega), if_neg (show ¬ o < 3 by omega), if_neg (show ¬ o < 11 by omega), if_neg (show ¬ o < 12 by omega), if_neg (show ¬ o < 13 by omega), if_neg (show ¬ o < 14 by omega), if_neg (show ¬ o < 15 by omega), if_neg (show ¬ o < 16 by omega), if_neg (show ¬ o < 17 by omega), if_neg (show ¬ o < 18 by omega), if_neg (show ¬ o < 19 by omega), if_neg (show ¬ o < 25 by omega), if_neg (show ¬ o < 31 by omega), if_neg (show ¬ o < 37 by omega), if_neg (show ¬ o < 38 by omega), if_neg (show ¬ o < 39 by omega), if_neg (show ¬ o < 40 by omega), if_neg (show ¬ o < 41 by omega), if_neg (show ¬ o < 45 by omega), if_neg (show ¬ o < 49 by omega), if_neg (show ¬ o < 50 by omega), if_pos h2]
theorem xc_far {w : wT} {o : Nat} {r : Nat → Int32} (h1 : 51 ≤ o) (h2 : o < 52) : xcf w o r = .inl (w.2.1 1, 30, .inl r) := by
  unfold xcf
  rw [if_neg (show ¬ o < 1 by omega), if_neg (show ¬ o < 3 by omega), if_neg (show ¬ o < 11 by omega), if_neg (show ¬ o < 12 by omega), if_neg (show ¬ o < 13 by omega), if_neg (show ¬ o < 14 by omega), if_neg (show ¬ o < 15 by omega), if_neg (show ¬ o < 16 by omega), if_neg (show ¬ o < 17 by omega), if_neg (show ¬ o < 18 by omega), if_neg (show ¬ o < 19 by omega), if_neg (show ¬ o < 25 by omega), if_neg (show ¬ o < 31 by omega), if_neg (show ¬ o < 37 by omega), if_neg (show ¬ o < 38 by omega), if_neg (show ¬ o < 39 by omega), if_neg (show ¬ o < 40 by omega), if_neg (show ¬ o < 41 by omega), if_neg (show ¬ o < 45 by omega), if_neg (show ¬ o < 49 by omega), if_neg (show ¬ o < 50 by omega), if_neg (show ¬ o < 51 by omega), if_pos h2]
theorem xc_queue {w : wT} {o : Nat} {r : Nat → Int32} (h1 : 52 ≤ o) (h2 : o < 53) : xcf w o r = .inl (w.2.1 1, 30, .inl r) := by
  unfold xcf
  rw [if_neg (show ¬ o < 1 by omega), if_neg (show ¬ o < 3 by omega), if_neg (show ¬ o < 11 by omega), if_neg (show ¬ o < 12 by omega), if_neg (show ¬ o < 13 by omega), if_neg (show ¬ o < 14 by omega), if_neg (show ¬ o < 15 by omega), if_neg (show ¬ o < 16 by omega), if_neg (show ¬ o < 17 by omega), if_neg (show ¬ o < 18 by omega), if_neg (show ¬ o < 19 by omega), if_neg (show ¬ o < 25 by omega), if_neg (show ¬ o < 31 by omega), if_neg (show ¬ o < 37 by omega), if_neg (show ¬ o < 38 by omega), if_neg (show ¬ o < 39 by omega), if_neg (show ¬ o < 40 by omega), if_neg (show ¬ o < 41 by omega), if_neg (show ¬ o < 45 by omega), if_neg (show ¬ o < 49 by omega), if_neg (show ¬ o < 50 by omega), if_neg (show ¬ o < 51 by omega), if_neg (show ¬ o < 52 by omega), if_pos h2]
theorem xc_ends {w : wT} {o : Nat} {r : Nat → Int32} (h1 : 53 ≤ o) (h2 : o < 54) : xcf w o r = .inl (w.2.1 1, 25, .inl r) := by
  unfold xcf
  rw [if_neg (show ¬ o < 1 by omega), if_neg (show ¬ o < 3 by omega), if_neg (show ¬ o < 11 by omega), if_neg (show ¬ o < 12 by omega), if_neg (show ¬ o < 13 by omega), if_neg (show ¬ o < 14 by omega), if_neg (show ¬ o < 15 by omega), if_neg (show ¬ o < 16 by omega), if_neg (show ¬ o < 17 by omega), if_neg (show ¬ o < 18 by omega), if_neg (show ¬ o < 19 by omega), if_neg (show ¬ o < 25 by omega), if_neg (show ¬ o < 31 by omega), if_neg (show ¬ o < 37 by omega), if_neg (show ¬ o < 38 by omega), if_neg (show ¬ o < 39 by omega), if_neg (show ¬ o < 40 by omega), if_neg (show ¬ o < 41 by omega), if_neg (show ¬ o < 45 by omega), if_neg (show ¬ o < 49 by omega), if_neg (show ¬ o < 50 by omega), if_neg (show ¬ o < 51 by omega), if_neg (show ¬ o < 52 by omega), if_neg (show ¬ o < 53 by omega), if_pos h2]
theorem xc_tally {w : wT} {o : Nat} {r : Nat → Int32} (h1 : 54 ≤ o) (h2 : o < 55) : xcf w o r = .inl (w.2.1 1, 30, .inl r) := by
  unfold xcf
  rw [if_neg (show ¬ o < 1 by omega), if_neg (show ¬ o < 3 by omega), if_neg (show ¬ o < 11 by omega), if_neg (show ¬ o < 12 by omega), if_neg (show ¬ o < 13 by omega), if_neg (show ¬ o < 14 by omega), if_neg (show ¬ o < 15 by omega), if_neg (show ¬ o < 16 by omega), if_neg (show ¬ o < 17 by omega), if_neg (show ¬ o < 18 by omega), if_neg (show ¬ o < 19 by omega), if_neg (show ¬ o < 25 by omega), if_neg (show ¬ o < 31 by omega), if_neg (show ¬ o < 37 by omega), if_neg (show ¬ o < 38 by omega), if_neg (show ¬ o < 39 by omega), if_neg (show ¬ o < 40 by omega), if_neg (show ¬ o < 41 by omega), if_neg (show ¬ o < 45 by omega), if_neg (show ¬ o < 49 by omega), if_neg (show ¬ o < 50 by omega), if_neg (show ¬ o < 51 by omega), if_neg (show ¬ o < 52 by omega), if_neg (show ¬ o < 53 by omega), if_neg (show ¬ o < 54 by omega)]
def mcf : cT := fun w o r => if o < 1 then .inr (12, [.ref (w.1 1), .int (r 1), .int (r 2), .ref (w.1 2), .ref (w.1 3), .ref (w.1 4), .ref (w.1 5), .ref (w.1 6), .int (r 8), .ref (w.1 7), .ref (w.1 8), .int (r 11), .int (r 12), .int (r 13), .int (r 14), .int (r 15), .ref (w.1 9), .ref (w.1 10), .ref (w.1 11), .ref (w.1 12), .ref (w.1 13), .int (r 21), .int (r 22), .int (r 23), .int (r 24), .ref (w.1 14), .ref (w.1 15), .int (r 27), .int (r 28), .int (r 29), .ref (w.1 16), .ref (w.1 17), .int (r 32), .int (r 33), .ref (w.1 18), .ref (w.1 19)]) else if o < 2 then .inl (w.2.1 1, 3, .inl r) else if o < 3 then .inl (w.2.1 1, 5, .inl r) else if o < 4 then .inl (w.2.1 1, 5, .inl r) else if o < 5 then .inl (w.2.1 1, 5, .inl r) else if o < 6 then .inl (w.2.1 1, 5, .inl r) else if o < 7 then .inl (w.2.1 1, 160, .inl r) else if o < 8 then .inl (w.2.1 1, 1200, .inl r) else if o < 9 then .inl (w.2.1 1, 24, .inl r) else if o < 10 then .inl (w.2.1 1, 14, .inl r) else if o < 11 then .inl (w.2.1 1, 4, .inl r) else if o < 12 then .inl (w.2.1 1, 4, .inl r) else if o < 13 then .inl (w.2.1 1, 160, .inl r) else if o < 14 then .inl (w.2.1 1, 29, .inl r) else if o < 15 then .inl (w.2.1 1, 96, .inl r) else if o < 16 then .inl (w.2.1 1, 200, .inl r) else if o < 17 then .inl (w.2.1 1, 200, .inl r) else if o < 18 then .inl (w.2.1 1, 6, .inl r) else if o < 19 then .inl (w.2.1 1, 30, .inl r) else .inl (w.2.1 1, 5, .inl r)
theorem mc_X12 {w : wT} {o : Nat} {r : Nat → Int32} (h1 : 0 ≤ o) (h2 : o < 1) : mcf w o r = .inr (12, [.ref (w.1 1), .int (r 1), .int (r 2), .ref (w.1 2), .ref (w.1 3), .ref (w.1 4), .ref (w.1 5), .ref (w.1 6), .int (r 8), .ref (w.1 7), .ref (w.1 8), .int (r 11), .int (r 12), .int (r 13), .int (r 14), .int (r 15), .ref (w.1 9), .ref (w.1 10), .ref (w.1 11), .ref (w.1 12), .ref (w.1 13), .int (r 21), .int (r 22), .int (r 23), .int (r 24), .ref (w.1 14), .ref (w.1 15), .int (r 27), .int (r 28), .int (r 29), .ref (w.1 16), .ref (w.1 17), .int (r 32), .int (r 33), .ref (w.1 18), .ref (w.1 19)]) := by
  unfold mcf
  rw [if_pos h2]
theorem mc_m_sets {w : wT} {o : Nat} {r : Nat → Int32} (h1 : 1 ≤ o) (h2 : o < 2) : mcf w o r = .inl (w.2.1 1, 3, .inl r) := by
  unfold mcf
  rw [if_neg (show ¬ o < 1 by omega), if_pos h2]
theorem mc_m_kind {w : wT} {o : Nat} {r : Nat → Int32} (h1 : 2 ≤ o) (h2 : o < 3) : mcf w o r = .inl (w.2.1 1, 5, .inl r) := by
  unfold mcf
  rw [if_neg (show ¬ o < 1 by omega), if_neg (show ¬ o < 2 by omega), if_pos h2]
theorem mc_m_moreOf {w : wT} {o : Nat} {r : Nat → Int32} (h1 : 3 ≤ o) (h2 : o < 4) : mcf w o r = .inl (w.2.1 1, 5, .inl r) := by
  unfold mcf
  rw [if_neg (show ¬ o < 1 by omega), if_neg (show ¬ o < 2 by omega), if_neg (show ¬ o < 3 by omega), if_pos h2]
theorem mc_m_cellOf {w : wT} {o : Nat} {r : Nat → Int32} (h1 : 4 ≤ o) (h2 : o < 5) : mcf w o r = .inl (w.2.1 1, 5, .inl r) := by
  unfold mcf
  rw [if_neg (show ¬ o < 1 by omega), if_neg (show ¬ o < 2 by omega), if_neg (show ¬ o < 3 by omega), if_neg (show ¬ o < 4 by omega), if_pos h2]
theorem mc_m_wayOf {w : wT} {o : Nat} {r : Nat → Int32} (h1 : 5 ≤ o) (h2 : o < 6) : mcf w o r = .inl (w.2.1 1, 5, .inl r) := by
  unfold mcf
  rw [if_neg (show ¬ o < 1 by omega), if_neg (show ¬ o < 2 by omega), if_neg (show ¬ o < 3 by omega), if_neg (show ¬ o < 4 by omega), if_neg (show ¬ o < 5 by omega), if_pos h2]
theorem mc_m_tape {w : wT} {o : Nat} {r : Nat → Int32} (h1 : 6 ≤ o) (h2 : o < 7) : mcf w o r = .inl (w.2.1 1, 160, .inl r) := by
  unfold mcf
  rw [if_neg (show ¬ o < 1 by omega), if_neg (show ¬ o < 2 by omega), if_neg (show ¬ o < 3 by omega), if_neg (show ¬ o < 4 by omega), if_neg (show ¬ o < 5 by omega), if_neg (show ¬ o < 6 by omega), if_pos h2]
theorem mc_m_codes {w : wT} {o : Nat} {r : Nat → Int32} (h1 : 7 ≤ o) (h2 : o < 8) : mcf w o r = .inl (w.2.1 1, 1200, .inl r) := by
  unfold mcf
  rw [if_neg (show ¬ o < 1 by omega), if_neg (show ¬ o < 2 by omega), if_neg (show ¬ o < 3 by omega), if_neg (show ¬ o < 4 by omega), if_neg (show ¬ o < 5 by omega), if_neg (show ¬ o < 6 by omega), if_neg (show ¬ o < 7 by omega), if_pos h2]
theorem mc_m_starts {w : wT} {o : Nat} {r : Nat → Int32} (h1 : 8 ≤ o) (h2 : o < 9) : mcf w o r = .inl (w.2.1 1, 24, .inl r) := by
  unfold mcf
  rw [if_neg (show ¬ o < 1 by omega), if_neg (show ¬ o < 2 by omega), if_neg (show ¬ o < 3 by omega), if_neg (show ¬ o < 4 by omega), if_neg (show ¬ o < 5 by omega), if_neg (show ¬ o < 6 by omega), if_neg (show ¬ o < 7 by omega), if_neg (show ¬ o < 8 by omega), if_pos h2]
theorem mc_m_imageRows {w : wT} {o : Nat} {r : Nat → Int32} (h1 : 9 ≤ o) (h2 : o < 10) : mcf w o r = .inl (w.2.1 1, 14, .inl r) := by
  unfold mcf
  rw [if_neg (show ¬ o < 1 by omega), if_neg (show ¬ o < 2 by omega), if_neg (show ¬ o < 3 by omega), if_neg (show ¬ o < 4 by omega), if_neg (show ¬ o < 5 by omega), if_neg (show ¬ o < 6 by omega), if_neg (show ¬ o < 7 by omega), if_neg (show ¬ o < 8 by omega), if_neg (show ¬ o < 9 by omega), if_pos h2]
theorem mc_m_sheetSort {w : wT} {o : Nat} {r : Nat → Int32} (h1 : 10 ≤ o) (h2 : o < 11) : mcf w o r = .inl (w.2.1 1, 4, .inl r) := by
  unfold mcf
  rw [if_neg (show ¬ o < 1 by omega), if_neg (show ¬ o < 2 by omega), if_neg (show ¬ o < 3 by omega), if_neg (show ¬ o < 4 by omega), if_neg (show ¬ o < 5 by omega), if_neg (show ¬ o < 6 by omega), if_neg (show ¬ o < 7 by omega), if_neg (show ¬ o < 8 by omega), if_neg (show ¬ o < 9 by omega), if_neg (show ¬ o < 10 by omega), if_pos h2]
theorem mc_m_sheetSize {w : wT} {o : Nat} {r : Nat → Int32} (h1 : 11 ≤ o) (h2 : o < 12) : mcf w o r = .inl (w.2.1 1, 4, .inl r) := by
  unfold mcf
  rw [if_neg (show ¬ o < 1 by omega), if_neg (show ¬ o < 2 by omega), if_neg (show ¬ o < 3 by omega), if_neg (show ¬ o < 4 by omega), if_neg (show ¬ o < 5 by omega), if_neg (show ¬ o < 6 by omega), if_neg (show ¬ o < 7 by omega), if_neg (show ¬ o < 8 by omega), if_neg (show ¬ o < 9 by omega), if_neg (show ¬ o < 10 by omega), if_neg (show ¬ o < 11 by omega), if_pos h2]
theorem mc_m_cells {w : wT} {o : Nat} {r : Nat → Int32} (h1 : 12 ≤ o) (h2 : o < 13) : mcf w o r = .inl (w.2.1 1, 160, .inl r) := by
  unfold mcf
  rw [if_neg (show ¬ o < 1 by omega), if_neg (show ¬ o < 2 by omega), if_neg (show ¬ o < 3 by omega), if_neg (show ¬ o < 4 by omega), if_neg (show ¬ o < 5 by omega), if_neg (show ¬ o < 6 by omega), if_neg (show ¬ o < 7 by omega), if_neg (show ¬ o < 8 by omega), if_neg (show ¬ o < 9 by omega), if_neg (show ¬ o < 10 by omega), if_neg (show ¬ o < 11 by omega), if_neg (show ¬ o < 12 by omega), if_pos h2]
theorem mc_m_law {w : wT} {o : Nat} {r : Nat → Int32} (h1 : 13 ≤ o) (h2 : o < 14) : mcf w o r = .inl (w.2.1 1, 29, .inl r) := by
  unfold mcf
  rw [if_neg (show ¬ o < 1 by omega), if_neg (show ¬ o < 2 by omega), if_neg (show ¬ o < 3 by omega), if_neg (show ¬ o < 4 by omega), if_neg (show ¬ o < 5 by omega), if_neg (show ¬ o < 6 by omega), if_neg (show ¬ o < 7 by omega), if_neg (show ¬ o < 8 by omega), if_neg (show ¬ o < 9 by omega), if_neg (show ¬ o < 10 by omega), if_neg (show ¬ o < 11 by omega), if_neg (show ¬ o < 12 by omega), if_neg (show ¬ o < 13 by omega), if_pos h2]
theorem mc_m_words {w : wT} {o : Nat} {r : Nat → Int32} (h1 : 14 ≤ o) (h2 : o < 15) : mcf w o r = .inl (w.2.1 1, 96, .inl r) := by
  unfold mcf
  rw [if_neg (show ¬ o < 1 by omega), if_neg (show ¬ o < 2 by omega), if_neg (show ¬ o < 3 by omega), if_neg (show ¬ o < 4 by omega), if_neg (show ¬ o < 5 by omega), if_neg (show ¬ o < 6 by omega), if_neg (show ¬ o < 7 by omega), if_neg (show ¬ o < 8 by omega), if_neg (show ¬ o < 9 by omega), if_neg (show ¬ o < 10 by omega), if_neg (show ¬ o < 11 by omega), if_neg (show ¬ o < 12 by omega), if_neg (show ¬ o < 13 by omega), if_neg (show ¬ o < 14 by omega), if_pos h2]
theorem mc_m_held {w : wT} {o : Nat} {r : Nat → Int32} (h1 : 15 ≤ o) (h2 : o < 16) : mcf w o r = .inl (w.2.1 1, 200, .inl r) := by
  unfold mcf
  rw [if_neg (show ¬ o < 1 by omega), if_neg (show ¬ o < 2 by omega), if_neg (show ¬ o < 3 by omega), if_neg (show ¬ o < 4 by omega), if_neg (show ¬ o < 5 by omega), if_neg (show ¬ o < 6 by omega), if_neg (show ¬ o < 7 by omega), if_neg (show ¬ o < 8 by omega), if_neg (show ¬ o < 9 by omega), if_neg (show ¬ o < 10 by omega), if_neg (show ¬ o < 11 by omega), if_neg (show ¬ o < 12 by omega), if_neg (show ¬ o < 13 by omega), if_neg (show ¬ o < 14 by omega), if_neg (show ¬ o < 15 by omega), if_pos h2]
theorem mc_m_stack {w : wT} {o : Nat} {r : Nat → Int32} (h1 : 16 ≤ o) (h2 : o < 17) : mcf w o r = .inl (w.2.1 1, 200, .inl r) := by
  unfold mcf
  rw [if_neg (show ¬ o < 1 by omega), if_neg (show ¬ o < 2 by omega), if_neg (show ¬ o < 3 by omega), if_neg (show ¬ o < 4 by omega), if_neg (show ¬ o < 5 by omega), if_neg (show ¬ o < 6 by omega), if_neg (show ¬ o < 7 by omega), if_neg (show ¬ o < 8 by omega), if_neg (show ¬ o < 9 by omega), if_neg (show ¬ o < 10 by omega), if_neg (show ¬ o < 11 by omega), if_neg (show ¬ o < 12 by omega), if_neg (show ¬ o < 13 by omega), if_neg (show ¬ o < 14 by omega), if_neg (show ¬ o < 15 by omega), if_neg (show ¬ o < 16 by omega), if_pos h2]
theorem mc_m_named {w : wT} {o : Nat} {r : Nat → Int32} (h1 : 17 ≤ o) (h2 : o < 18) : mcf w o r = .inl (w.2.1 1, 6, .inl r) := by
  unfold mcf
  rw [if_neg (show ¬ o < 1 by omega), if_neg (show ¬ o < 2 by omega), if_neg (show ¬ o < 3 by omega), if_neg (show ¬ o < 4 by omega), if_neg (show ¬ o < 5 by omega), if_neg (show ¬ o < 6 by omega), if_neg (show ¬ o < 7 by omega), if_neg (show ¬ o < 8 by omega), if_neg (show ¬ o < 9 by omega), if_neg (show ¬ o < 10 by omega), if_neg (show ¬ o < 11 by omega), if_neg (show ¬ o < 12 by omega), if_neg (show ¬ o < 13 by omega), if_neg (show ¬ o < 14 by omega), if_neg (show ¬ o < 15 by omega), if_neg (show ¬ o < 16 by omega), if_neg (show ¬ o < 17 by omega), if_pos h2]
theorem mc_m_far {w : wT} {o : Nat} {r : Nat → Int32} (h1 : 18 ≤ o) (h2 : o < 19) : mcf w o r = .inl (w.2.1 1, 30, .inl r) := by
  unfold mcf
  rw [if_neg (show ¬ o < 1 by omega), if_neg (show ¬ o < 2 by omega), if_neg (show ¬ o < 3 by omega), if_neg (show ¬ o < 4 by omega), if_neg (show ¬ o < 5 by omega), if_neg (show ¬ o < 6 by omega), if_neg (show ¬ o < 7 by omega), if_neg (show ¬ o < 8 by omega), if_neg (show ¬ o < 9 by omega), if_neg (show ¬ o < 10 by omega), if_neg (show ¬ o < 11 by omega), if_neg (show ¬ o < 12 by omega), if_neg (show ¬ o < 13 by omega), if_neg (show ¬ o < 14 by omega), if_neg (show ¬ o < 15 by omega), if_neg (show ¬ o < 16 by omega), if_neg (show ¬ o < 17 by omega), if_neg (show ¬ o < 18 by omega), if_pos h2]
theorem mc_m_wentTo {w : wT} {o : Nat} {r : Nat → Int32} (h1 : 19 ≤ o) (h2 : o < 20) : mcf w o r = .inl (w.2.1 1, 5, .inl r) := by
  unfold mcf
  rw [if_neg (show ¬ o < 1 by omega), if_neg (show ¬ o < 2 by omega), if_neg (show ¬ o < 3 by omega), if_neg (show ¬ o < 4 by omega), if_neg (show ¬ o < 5 by omega), if_neg (show ¬ o < 6 by omega), if_neg (show ¬ o < 7 by omega), if_neg (show ¬ o < 8 by omega), if_neg (show ¬ o < 9 by omega), if_neg (show ¬ o < 10 by omega), if_neg (show ¬ o < 11 by omega), if_neg (show ¬ o < 12 by omega), if_neg (show ¬ o < 13 by omega), if_neg (show ¬ o < 14 by omega), if_neg (show ¬ o < 15 by omega), if_neg (show ¬ o < 16 by omega), if_neg (show ¬ o < 17 by omega), if_neg (show ¬ o < 18 by omega), if_neg (show ¬ o < 19 by omega)]
theorem wm_0 : Cond.laysFinal "WhereTheSpoonWent" "WhereTheSpoonWent" "now" "LWhereTheSpoonWent$House;" ∈ wG := List.mem_filter.mpr ⟨wT_2 _ (List.mem_of_getElem? (i := 21) rfl), rfl⟩
theorem wm_1 : Cond.laysFinal "WhereTheSpoonWent" "WhereTheSpoonWent" "kept" "LWhereTheSpoonWent$House;" ∈ wG := List.mem_filter.mpr ⟨wT_2 _ (List.mem_of_getElem? (i := 23) rfl), rfl⟩
theorem wm_2 : Cond.lays "WhereTheSpoonWent" "WhereTheSpoonWent" "isKept" "Z" ∈ wG := List.mem_filter.mpr ⟨wT_2 _ (List.mem_of_getElem? (i := 25) rfl), rfl⟩
theorem wm_3 : Cond.laysFinal "WhereTheSpoonWent" "WhereTheSpoonWent" "kinds" "[LWhereTheSpoonWent$Thing;" ∈ wG := List.mem_filter.mpr ⟨wT_2 _ (List.mem_of_getElem? (i := 27) rfl), rfl⟩
theorem wm_4 : Cond.laysFinal "WhereTheSpoonWent" "WhereTheSpoonWent" "texts" "[LWhereTheSpoonWent$Text;" ∈ wG := List.mem_filter.mpr ⟨wT_2 _ (List.mem_of_getElem? (i := 29) rfl), rfl⟩
theorem wm_5 : Cond.lays "WhereTheSpoonWent" "WhereTheSpoonWent" "textCount" "I" ∈ wG := List.mem_filter.mpr ⟨wT_2 _ (List.mem_of_getElem? (i := 31) rfl), rfl⟩
theorem wm_6 : Cond.laysFinal "WhereTheSpoonWent" "WhereTheSpoonWent" "reader" "LWhereTheSpoonWent$Reader;" ∈ wG := List.mem_filter.mpr ⟨wT_2 _ (List.mem_of_getElem? (i := 33) rfl), rfl⟩
theorem wm_7 : Cond.laysFinal "WhereTheSpoonWent" "WhereTheSpoonWent" "sheets" "[LWhereTheSpoonWent$Sheet;" ∈ wG := List.mem_filter.mpr ⟨wT_2 _ (List.mem_of_getElem? (i := 35) rfl), rfl⟩
theorem wm_8 : Cond.laysFinal "WhereTheSpoonWent" "WhereTheSpoonWent" "flight" "LWhereTheSpoonWent$Flight;" ∈ wG := List.mem_filter.mpr ⟨wT_2 _ (List.mem_of_getElem? (i := 37) rfl), rfl⟩
theorem wm_9 : Cond.laysFinal "WhereTheSpoonWent" "WhereTheSpoonWent" "path" "[I" ∈ wG := List.mem_filter.mpr ⟨wT_2 _ (List.mem_of_getElem? (i := 39) rfl), rfl⟩
theorem wm_10 : Cond.laysFinal "WhereTheSpoonWent" "WhereTheSpoonWent" "far" "[I" ∈ wG := List.mem_filter.mpr ⟨wT_2 _ (List.mem_of_getElem? (i := 41) rfl), rfl⟩
theorem wm_11 : Cond.laysFinal "WhereTheSpoonWent" "WhereTheSpoonWent" "queue" "[I" ∈ wG := List.mem_filter.mpr ⟨wT_2 _ (List.mem_of_getElem? (i := 43) rfl), rfl⟩
theorem wm_12 : Cond.laysFinal "WhereTheSpoonWent" "WhereTheSpoonWent" "ends" "[I" ∈ wG := List.mem_filter.mpr ⟨wT_2 _ (List.mem_of_getElem? (i := 45) rfl), rfl⟩
theorem wm_13 : Cond.laysFinal "WhereTheSpoonWent" "WhereTheSpoonWent" "tally" "[I" ∈ wG := List.mem_filter.mpr ⟨wT_2 _ (List.mem_of_getElem? (i := 47) rfl), rfl⟩
theorem wm_14 : Cond.lays "WhereTheSpoonWent$House" "WhereTheSpoonWent$House" "walls" "I" ∈ wG := List.mem_filter.mpr ⟨wT_1 _ (List.mem_of_getElem? (i := 55) rfl), rfl⟩
theorem wm_15 : Cond.lays "WhereTheSpoonWent$House" "WhereTheSpoonWent$House" "nets" "I" ∈ wG := List.mem_filter.mpr ⟨wT_1 _ (List.mem_of_getElem? (i := 57) rfl), rfl⟩
theorem wm_16 : Cond.lays "WhereTheSpoonWent$House" "WhereTheSpoonWent$House" "fans" "I" ∈ wG := List.mem_filter.mpr ⟨wT_1 _ (List.mem_of_getElem? (i := 59) rfl), rfl⟩
theorem wm_17 : Cond.lays "WhereTheSpoonWent$House" "WhereTheSpoonWent$House" "step" "I" ∈ wG := List.mem_filter.mpr ⟨wT_1 _ (List.mem_of_getElem? (i := 61) rfl), rfl⟩
theorem wm_18 : Cond.lays "WhereTheSpoonWent$House" "WhereTheSpoonWent$House" "law" "I" ∈ wG := List.mem_filter.mpr ⟨wT_1 _ (List.mem_of_getElem? (i := 63) rfl), rfl⟩
theorem wm_19 : Cond.lays "WhereTheSpoonWent$House" "WhereTheSpoonWent$House" "things" "I" ∈ wG := List.mem_filter.mpr ⟨wT_1 _ (List.mem_of_getElem? (i := 65) rfl), rfl⟩
theorem wm_20 : Cond.laysFinal "WhereTheSpoonWent$House" "WhereTheSpoonWent$House" "kinds" "[I" ∈ wG := List.mem_filter.mpr ⟨wT_1 _ (List.mem_of_getElem? (i := 67) rfl), rfl⟩
theorem wm_21 : Cond.laysFinal "WhereTheSpoonWent$House" "WhereTheSpoonWent$House" "mores" "[I" ∈ wG := List.mem_filter.mpr ⟨wT_1 _ (List.mem_of_getElem? (i := 69) rfl), rfl⟩
theorem wm_22 : Cond.laysFinal "WhereTheSpoonWent$House" "WhereTheSpoonWent$House" "cells" "[I" ∈ wG := List.mem_filter.mpr ⟨wT_1 _ (List.mem_of_getElem? (i := 71) rfl), rfl⟩
theorem wm_23 : Cond.laysFinal "WhereTheSpoonWent$House" "WhereTheSpoonWent$House" "ways" "[I" ∈ wG := List.mem_filter.mpr ⟨wT_1 _ (List.mem_of_getElem? (i := 73) rfl), rfl⟩
theorem wm_24 : Cond.laysFinal "WhereTheSpoonWent$Text" "WhereTheSpoonWent$Text" "codes" "[I" ∈ wG := List.mem_filter.mpr ⟨wT_1 _ (List.mem_of_getElem? (i := 202) rfl), rfl⟩
theorem wm_25 : Cond.laysFinal "WhereTheSpoonWent$Text" "WhereTheSpoonWent$Text" "starts" "[I" ∈ wG := List.mem_filter.mpr ⟨wT_1 _ (List.mem_of_getElem? (i := 204) rfl), rfl⟩
theorem wm_26 : Cond.laysFinal "WhereTheSpoonWent$Text" "WhereTheSpoonWent$Text" "stack" "[I" ∈ wG := List.mem_filter.mpr ⟨wT_1 _ (List.mem_of_getElem? (i := 206) rfl), rfl⟩
theorem wm_27 : Cond.lays "WhereTheSpoonWent$Text" "WhereTheSpoonWent$Text" "used" "I" ∈ wG := List.mem_filter.mpr ⟨wT_1 _ (List.mem_of_getElem? (i := 208) rfl), rfl⟩
theorem wm_28 : Cond.lays "WhereTheSpoonWent$Text" "WhereTheSpoonWent$Text" "parts" "I" ∈ wG := List.mem_filter.mpr ⟨wT_1 _ (List.mem_of_getElem? (i := 210) rfl), rfl⟩
theorem wm_29 : Cond.laysFinal "WhereTheSpoonWent$Reader" "WhereTheSpoonWent$Reader" "bytes" "[B" ∈ wG := List.mem_filter.mpr ⟨wT_1 _ (List.mem_of_getElem? (i := 95) rfl), rfl⟩
theorem wm_30 : Cond.lays "WhereTheSpoonWent$Reader" "WhereTheSpoonWent$Reader" "size" "I" ∈ wG := List.mem_filter.mpr ⟨wT_1 _ (List.mem_of_getElem? (i := 97) rfl), rfl⟩
theorem wm_31 : Cond.lays "WhereTheSpoonWent$Reader" "WhereTheSpoonWent$Reader" "token" "I" ∈ wG := List.mem_filter.mpr ⟨wT_1 _ (List.mem_of_getElem? (i := 99) rfl), rfl⟩
theorem wm_32 : Cond.lays "WhereTheSpoonWent$Reader" "WhereTheSpoonWent$Reader" "start" "I" ∈ wG := List.mem_filter.mpr ⟨wT_1 _ (List.mem_of_getElem? (i := 101) rfl), rfl⟩
theorem wm_33 : Cond.lays "WhereTheSpoonWent$Reader" "WhereTheSpoonWent$Reader" "next" "I" ∈ wG := List.mem_filter.mpr ⟨wT_1 _ (List.mem_of_getElem? (i := 103) rfl), rfl⟩
theorem wm_34 : Cond.lays "WhereTheSpoonWent$Reader" "WhereTheSpoonWent$Reader" "fault" "I" ∈ wG := List.mem_filter.mpr ⟨wT_1 _ (List.mem_of_getElem? (i := 105) rfl), rfl⟩
theorem wm_35 : Cond.lays "WhereTheSpoonWent$Reader" "WhereTheSpoonWent$Reader" "out" "LWhereTheSpoonWent$Text;" ∈ wG := List.mem_filter.mpr ⟨wT_1 _ (List.mem_of_getElem? (i := 107) rfl), rfl⟩
theorem wm_36 : Cond.laysFinal "WhereTheSpoonWent$Sheet" "WhereTheSpoonWent$Sheet" "numbers" "[I" ∈ wG := List.mem_filter.mpr ⟨wT_2 _ (List.mem_of_getElem? (i := 0) rfl), rfl⟩
theorem wm_37 : Cond.lays "WhereTheSpoonWent$Sheet" "WhereTheSpoonWent$Sheet" "sort" "I" ∈ wG := List.mem_filter.mpr ⟨wT_2 _ (List.mem_of_getElem? (i := 2) rfl), rfl⟩
theorem wm_38 : Cond.lays "WhereTheSpoonWent$Sheet" "WhereTheSpoonWent$Sheet" "size" "I" ∈ wG := List.mem_filter.mpr ⟨wT_2 _ (List.mem_of_getElem? (i := 4) rfl), rfl⟩
theorem wm_39 : Cond.laysFinal "WhereTheSpoonWent$Flight" "WhereTheSpoonWent$Flight" "house" "LWhereTheSpoonWent$House;" ∈ wG := List.mem_filter.mpr ⟨wT_1 _ (List.mem_of_getElem? (i := 134) rfl), rfl⟩
theorem wm_40 : Cond.lays "WhereTheSpoonWent$Flight" "WhereTheSpoonWent$Flight" "law" "LWhereTheSpoonWent$Text;" ∈ wG := List.mem_filter.mpr ⟨wT_1 _ (List.mem_of_getElem? (i := 136) rfl), rfl⟩
theorem wm_41 : Cond.lays "WhereTheSpoonWent$Flight" "WhereTheSpoonWent$Flight" "kind" "LWhereTheSpoonWent$Thing;" ∈ wG := List.mem_filter.mpr ⟨wT_1 _ (List.mem_of_getElem? (i := 138) rfl), rfl⟩
theorem wm_42 : Cond.lays "WhereTheSpoonWent$Flight" "WhereTheSpoonWent$Flight" "nets" "I" ∈ wG := List.mem_filter.mpr ⟨wT_1 _ (List.mem_of_getElem? (i := 140) rfl), rfl⟩
theorem wm_43 : Cond.lays "WhereTheSpoonWent$Flight" "WhereTheSpoonWent$Flight" "number" "I" ∈ wG := List.mem_filter.mpr ⟨wT_1 _ (List.mem_of_getElem? (i := 142) rfl), rfl⟩
theorem wm_44 : Cond.lays "WhereTheSpoonWent$Flight" "WhereTheSpoonWent$Flight" "more" "I" ∈ wG := List.mem_filter.mpr ⟨wT_1 _ (List.mem_of_getElem? (i := 144) rfl), rfl⟩
theorem wm_45 : Cond.lays "WhereTheSpoonWent$Flight" "WhereTheSpoonWent$Flight" "cell" "I" ∈ wG := List.mem_filter.mpr ⟨wT_1 _ (List.mem_of_getElem? (i := 146) rfl), rfl⟩
theorem wm_46 : Cond.lays "WhereTheSpoonWent$Flight" "WhereTheSpoonWent$Flight" "way" "I" ∈ wG := List.mem_filter.mpr ⟨wT_1 _ (List.mem_of_getElem? (i := 148) rfl), rfl⟩
theorem wm_47 : Cond.laysFinal "WhereTheSpoonWentModel" "WhereTheSpoonWentModel" "sets" "[I" ∈ wG := List.mem_filter.mpr ⟨wT_4 _ (List.mem_of_getElem? (i := 214) rfl), rfl⟩
theorem wm_48 : Cond.lays "WhereTheSpoonWentModel" "WhereTheSpoonWentModel" "step" "I" ∈ wG := List.mem_filter.mpr ⟨wT_4 _ (List.mem_of_getElem? (i := 216) rfl), rfl⟩
theorem wm_49 : Cond.lays "WhereTheSpoonWentModel" "WhereTheSpoonWentModel" "things" "I" ∈ wG := List.mem_filter.mpr ⟨wT_4 _ (List.mem_of_getElem? (i := 218) rfl), rfl⟩
theorem wm_50 : Cond.laysFinal "WhereTheSpoonWentModel" "WhereTheSpoonWentModel" "kind" "[I" ∈ wG := List.mem_filter.mpr ⟨wT_4 _ (List.mem_of_getElem? (i := 220) rfl), rfl⟩
theorem wm_51 : Cond.laysFinal "WhereTheSpoonWentModel" "WhereTheSpoonWentModel" "moreOf" "[I" ∈ wG := List.mem_filter.mpr ⟨wT_4 _ (List.mem_of_getElem? (i := 222) rfl), rfl⟩
theorem wm_52 : Cond.laysFinal "WhereTheSpoonWentModel" "WhereTheSpoonWentModel" "cellOf" "[I" ∈ wG := List.mem_filter.mpr ⟨wT_4 _ (List.mem_of_getElem? (i := 224) rfl), rfl⟩
theorem wm_53 : Cond.laysFinal "WhereTheSpoonWentModel" "WhereTheSpoonWentModel" "wayOf" "[I" ∈ wG := List.mem_filter.mpr ⟨wT_4 _ (List.mem_of_getElem? (i := 226) rfl), rfl⟩
theorem wm_54 : Cond.laysFinal "WhereTheSpoonWentModel" "WhereTheSpoonWentModel" "tape" "[I" ∈ wG := List.mem_filter.mpr ⟨wT_4 _ (List.mem_of_getElem? (i := 228) rfl), rfl⟩
theorem wm_55 : Cond.lays "WhereTheSpoonWentModel" "WhereTheSpoonWentModel" "taped" "I" ∈ wG := List.mem_filter.mpr ⟨wT_4 _ (List.mem_of_getElem? (i := 230) rfl), rfl⟩
theorem wm_56 : Cond.laysFinal "WhereTheSpoonWentModel" "WhereTheSpoonWentModel" "codes" "[I" ∈ wG := List.mem_filter.mpr ⟨wT_4 _ (List.mem_of_getElem? (i := 232) rfl), rfl⟩
theorem wm_57 : Cond.laysFinal "WhereTheSpoonWentModel" "WhereTheSpoonWentModel" "starts" "[I" ∈ wG := List.mem_filter.mpr ⟨wT_4 _ (List.mem_of_getElem? (i := 234) rfl), rfl⟩
theorem wm_58 : Cond.lays "WhereTheSpoonWentModel" "WhereTheSpoonWentModel" "texts" "I" ∈ wG := List.mem_filter.mpr ⟨wT_4 _ (List.mem_of_getElem? (i := 236) rfl), rfl⟩
theorem wm_59 : Cond.lays "WhereTheSpoonWentModel" "WhereTheSpoonWentModel" "rule" "I" ∈ wG := List.mem_filter.mpr ⟨wT_4 _ (List.mem_of_getElem? (i := 238) rfl), rfl⟩
theorem wm_60 : Cond.lays "WhereTheSpoonWentModel" "WhereTheSpoonWentModel" "hasImage" "Z" ∈ wG := List.mem_filter.mpr ⟨wT_5 _ (List.mem_of_getElem? (i := 0) rfl), rfl⟩
theorem wm_61 : Cond.lays "WhereTheSpoonWentModel" "WhereTheSpoonWentModel" "imageThings" "I" ∈ wG := List.mem_filter.mpr ⟨wT_5 _ (List.mem_of_getElem? (i := 2) rfl), rfl⟩
theorem wm_62 : Cond.lays "WhereTheSpoonWentModel" "WhereTheSpoonWentModel" "imageRule" "I" ∈ wG := List.mem_filter.mpr ⟨wT_5 _ (List.mem_of_getElem? (i := 4) rfl), rfl⟩
theorem wm_63 : Cond.laysFinal "WhereTheSpoonWentModel" "WhereTheSpoonWentModel" "imageRows" "[I" ∈ wG := List.mem_filter.mpr ⟨wT_5 _ (List.mem_of_getElem? (i := 6) rfl), rfl⟩
theorem wm_64 : Cond.laysFinal "WhereTheSpoonWentModel" "WhereTheSpoonWentModel" "sheetSort" "[I" ∈ wG := List.mem_filter.mpr ⟨wT_5 _ (List.mem_of_getElem? (i := 8) rfl), rfl⟩
theorem wm_65 : Cond.laysFinal "WhereTheSpoonWentModel" "WhereTheSpoonWentModel" "sheetSize" "[I" ∈ wG := List.mem_filter.mpr ⟨wT_5 _ (List.mem_of_getElem? (i := 10) rfl), rfl⟩
theorem wm_66 : Cond.laysFinal "WhereTheSpoonWentModel" "WhereTheSpoonWentModel" "cells" "[I" ∈ wG := List.mem_filter.mpr ⟨wT_5 _ (List.mem_of_getElem? (i := 12) rfl), rfl⟩
theorem wm_67 : Cond.laysFinal "WhereTheSpoonWentModel" "WhereTheSpoonWentModel" "law" "[I" ∈ wG := List.mem_filter.mpr ⟨wT_5 _ (List.mem_of_getElem? (i := 14) rfl), rfl⟩
theorem wm_68 : Cond.lays "WhereTheSpoonWentModel" "WhereTheSpoonWentModel" "at" "I" ∈ wG := List.mem_filter.mpr ⟨wT_5 _ (List.mem_of_getElem? (i := 16) rfl), rfl⟩
theorem wm_69 : Cond.lays "WhereTheSpoonWentModel" "WhereTheSpoonWentModel" "begun" "I" ∈ wG := List.mem_filter.mpr ⟨wT_5 _ (List.mem_of_getElem? (i := 18) rfl), rfl⟩
theorem wm_70 : Cond.lays "WhereTheSpoonWentModel" "WhereTheSpoonWentModel" "token" "I" ∈ wG := List.mem_filter.mpr ⟨wT_5 _ (List.mem_of_getElem? (i := 20) rfl), rfl⟩
theorem wm_71 : Cond.lays "WhereTheSpoonWentModel" "WhereTheSpoonWentModel" "value" "I" ∈ wG := List.mem_filter.mpr ⟨wT_5 _ (List.mem_of_getElem? (i := 22) rfl), rfl⟩
theorem wm_72 : Cond.laysFinal "WhereTheSpoonWentModel" "WhereTheSpoonWentModel" "words" "[I" ∈ wG := List.mem_filter.mpr ⟨wT_5 _ (List.mem_of_getElem? (i := 24) rfl), rfl⟩
theorem wm_73 : Cond.laysFinal "WhereTheSpoonWentModel" "WhereTheSpoonWentModel" "held" "[I" ∈ wG := List.mem_filter.mpr ⟨wT_5 _ (List.mem_of_getElem? (i := 26) rfl), rfl⟩
theorem wm_74 : Cond.lays "WhereTheSpoonWentModel" "WhereTheSpoonWentModel" "heldMany" "I" ∈ wG := List.mem_filter.mpr ⟨wT_5 _ (List.mem_of_getElem? (i := 28) rfl), rfl⟩
theorem wm_75 : Cond.lays "WhereTheSpoonWentModel" "WhereTheSpoonWentModel" "opens" "I" ∈ wG := List.mem_filter.mpr ⟨wT_5 _ (List.mem_of_getElem? (i := 30) rfl), rfl⟩
theorem wm_76 : Cond.lays "WhereTheSpoonWentModel" "WhereTheSpoonWentModel" "out" "I" ∈ wG := List.mem_filter.mpr ⟨wT_5 _ (List.mem_of_getElem? (i := 32) rfl), rfl⟩
theorem wm_77 : Cond.laysFinal "WhereTheSpoonWentModel" "WhereTheSpoonWentModel" "stack" "[I" ∈ wG := List.mem_filter.mpr ⟨wT_5 _ (List.mem_of_getElem? (i := 34) rfl), rfl⟩
theorem wm_78 : Cond.laysFinal "WhereTheSpoonWentModel" "WhereTheSpoonWentModel" "named" "[I" ∈ wG := List.mem_filter.mpr ⟨wT_5 _ (List.mem_of_getElem? (i := 36) rfl), rfl⟩
theorem wm_79 : Cond.lays "WhereTheSpoonWentModel" "WhereTheSpoonWentModel" "now" "I" ∈ wG := List.mem_filter.mpr ⟨wT_5 _ (List.mem_of_getElem? (i := 38) rfl), rfl⟩
theorem wm_80 : Cond.lays "WhereTheSpoonWentModel" "WhereTheSpoonWentModel" "way" "I" ∈ wG := List.mem_filter.mpr ⟨wT_5 _ (List.mem_of_getElem? (i := 40) rfl), rfl⟩
theorem wm_81 : Cond.laysFinal "WhereTheSpoonWentModel" "WhereTheSpoonWentModel" "far" "[I" ∈ wG := List.mem_filter.mpr ⟨wT_5 _ (List.mem_of_getElem? (i := 42) rfl), rfl⟩
theorem wm_82 : Cond.laysFinal "WhereTheSpoonWentModel" "WhereTheSpoonWentModel" "wentTo" "[I" ∈ wG := List.mem_filter.mpr ⟨wT_5 _ (List.mem_of_getElem? (i := 44) rfl), rfl⟩
theorem wu_X11 : ∀ x ∈ u_ws RX11 TX11 14, x ∈ wG := fun x h => by
  obtain ⟨k, hk, rfl⟩ := List.mem_map.mp h
  have hk := List.mem_range.mp hk
  match k, hk with
  | 0, _ => exact wm_0
  | 1, _ => exact wm_1
  | 2, _ => exact wm_2
  | 3, _ => exact wm_3
  | 4, _ => exact wm_4
  | 5, _ => exact wm_5
  | 6, _ => exact wm_6
  | 7, _ => exact wm_7
  | 8, _ => exact wm_8
  | 9, _ => exact wm_9
  | 10, _ => exact wm_10
  | 11, _ => exact wm_11
  | 12, _ => exact wm_12
  | 13, _ => exact wm_13
  | k + 14, hk => exact absurd hk (by omega)
theorem gf_X11_0 {p : Program} {l : Launch} {e : Env} {R : Room} {s : State} {m : MethodId} {args : Array Value} {below : List Frame} {meth : Method} {c : Code} {w : wT} {A : Nat → Prop} {Q : State → Prop} {nL : Nat} {σ : Hp} {pc : Nat} {lv : List (Nat × Value)} {st rest : List Value} {cc : ByteArray} {own : String} {r : Option FieldType} (E : YE p m meth c cc nL s args own r w 55 A) {o index : Nat} (h1 : 0 ≤ o) (h2 : o < 1) (hlink : Cond.fieldLink own index "WhereTheSpoonWent" "now" "LWhereTheSpoonWent$House;" ∈ wG) (hd : decode cc pc = .ok (.getfield index, 3)) (kk : YY p l e R s m args below meth c w xcf 55 A Q nL σ (pc + 3) lv (.ref (w.1 1) :: rest)) : YY p l e R s m args below meth c w xcf 55 A Q nL σ pc lv (.ref (w.1 o) :: rest) :=
  y_get E (ci := 11) (k := 0) (N := 14) (C := RX11) (T := TX11) (Nat.lt_of_lt_of_le h2 (by decide)) (xc_X11 h1 h2) rfl wu_X11 (by decide) hlink rfl hd kk
theorem gf_X11_1 {p : Program} {l : Launch} {e : Env} {R : Room} {s : State} {m : MethodId} {args : Array Value} {below : List Frame} {meth : Method} {c : Code} {w : wT} {A : Nat → Prop} {Q : State → Prop} {nL : Nat} {σ : Hp} {pc : Nat} {lv : List (Nat × Value)} {st rest : List Value} {cc : ByteArray} {own : String} {r : Option FieldType} (E : YE p m meth c cc nL s args own r w 55 A) {o index : Nat} (h1 : 0 ≤ o) (h2 : o < 1) (hlink : Cond.fieldLink own index "WhereTheSpoonWent" "kept" "LWhereTheSpoonWent$House;" ∈ wG) (hd : decode cc pc = .ok (.getfield index, 3)) (kk : YY p l e R s m args below meth c w xcf 55 A Q nL σ (pc + 3) lv (.ref (w.1 2) :: rest)) : YY p l e R s m args below meth c w xcf 55 A Q nL σ pc lv (.ref (w.1 o) :: rest) :=
  y_get E (ci := 11) (k := 1) (N := 14) (C := RX11) (T := TX11) (Nat.lt_of_lt_of_le h2 (by decide)) (xc_X11 h1 h2) rfl wu_X11 (by decide) hlink rfl hd kk
theorem gf_X11_2 {p : Program} {l : Launch} {e : Env} {R : Room} {s : State} {m : MethodId} {args : Array Value} {below : List Frame} {meth : Method} {c : Code} {w : wT} {A : Nat → Prop} {Q : State → Prop} {nL : Nat} {σ : Hp} {pc : Nat} {lv : List (Nat × Value)} {st rest : List Value} {cc : ByteArray} {own : String} {r : Option FieldType} (E : YE p m meth c cc nL s args own r w 55 A) {o index : Nat} (h1 : 0 ≤ o) (h2 : o < 1) (hlink : Cond.fieldLink own index "WhereTheSpoonWent" "isKept" "Z" ∈ wG) (hd : decode cc pc = .ok (.getfield index, 3)) (kk : YY p l e R s m args below meth c w xcf 55 A Q nL σ (pc + 3) lv (.int (σ o 2) :: rest)) : YY p l e R s m args below meth c w xcf 55 A Q nL σ pc lv (.ref (w.1 o) :: rest) :=
  y_get E (ci := 11) (k := 2) (N := 14) (C := RX11) (T := TX11) (Nat.lt_of_lt_of_le h2 (by decide)) (xc_X11 h1 h2) rfl wu_X11 (by decide) hlink rfl hd kk
theorem pf_X11_2 {p : Program} {l : Launch} {e : Env} {R : Room} {s : State} {m : MethodId} {args : Array Value} {below : List Frame} {meth : Method} {c : Code} {w : wT} {A : Nat → Prop} {Q : State → Prop} {nL : Nat} {σ : Hp} {pc : Nat} {lv : List (Nat × Value)} {st rest : List Value} {cc : ByteArray} {own : String} {r : Option FieldType} (E : YE p m meth c cc nL s args own r w 55 A) {o index : Nat} {z : Int32} (h1 : 0 ≤ o) (h2 : o < 1) (hz : narrow .boolean (.int z) = .int z) (hf : fits .boolean (.int z) = true) (hlink : Cond.fieldLink own index "WhereTheSpoonWent" "isKept" "Z" ∈ wG) (hd : decode cc pc = .ok (.putfield index, 3)) (kk : YY p l e R s m args below meth c w xcf 55 A Q nL (hup σ o 2 z) (pc + 3) lv rest) : YY p l e R s m args below meth c w xcf 55 A Q nL σ pc lv (.int z :: .ref (w.1 o) :: rest) :=
  y_put E (ci := 11) (k := 2) (N := 14) (C := RX11) (T := TX11) (v := .int z) (ty := .boolean) (Nat.lt_of_lt_of_le h2 (by decide)) (xc_X11 h1 h2) (by rw [xc_X11 h1 h2]; simp [upd]) rfl wu_X11 tyX11 tyX11_ok nmX11 (by decide) hlink rfl (by decide +kernel) hz hf (by simp) hd kk
theorem gf_X11_3 {p : Program} {l : Launch} {e : Env} {R : Room} {s : State} {m : MethodId} {args : Array Value} {below : List Frame} {meth : Method} {c : Code} {w : wT} {A : Nat → Prop} {Q : State → Prop} {nL : Nat} {σ : Hp} {pc : Nat} {lv : List (Nat × Value)} {st rest : List Value} {cc : ByteArray} {own : String} {r : Option FieldType} (E : YE p m meth c cc nL s args own r w 55 A) {o index : Nat} (h1 : 0 ≤ o) (h2 : o < 1) (hlink : Cond.fieldLink own index "WhereTheSpoonWent" "kinds" "[LWhereTheSpoonWent$Thing;" ∈ wG) (hd : decode cc pc = .ok (.getfield index, 3)) (kk : YY p l e R s m args below meth c w xcf 55 A Q nL σ (pc + 3) lv (.ref (w.1 11) :: rest)) : YY p l e R s m args below meth c w xcf 55 A Q nL σ pc lv (.ref (w.1 o) :: rest) :=
  y_get E (ci := 11) (k := 3) (N := 14) (C := RX11) (T := TX11) (Nat.lt_of_lt_of_le h2 (by decide)) (xc_X11 h1 h2) rfl wu_X11 (by decide) hlink rfl hd kk
theorem gf_X11_4 {p : Program} {l : Launch} {e : Env} {R : Room} {s : State} {m : MethodId} {args : Array Value} {below : List Frame} {meth : Method} {c : Code} {w : wT} {A : Nat → Prop} {Q : State → Prop} {nL : Nat} {σ : Hp} {pc : Nat} {lv : List (Nat × Value)} {st rest : List Value} {cc : ByteArray} {own : String} {r : Option FieldType} (E : YE p m meth c cc nL s args own r w 55 A) {o index : Nat} (h1 : 0 ≤ o) (h2 : o < 1) (hlink : Cond.fieldLink own index "WhereTheSpoonWent" "texts" "[LWhereTheSpoonWent$Text;" ∈ wG) (hd : decode cc pc = .ok (.getfield index, 3)) (kk : YY p l e R s m args below meth c w xcf 55 A Q nL σ (pc + 3) lv (.ref (w.1 18) :: rest)) : YY p l e R s m args below meth c w xcf 55 A Q nL σ pc lv (.ref (w.1 o) :: rest) :=
  y_get E (ci := 11) (k := 4) (N := 14) (C := RX11) (T := TX11) (Nat.lt_of_lt_of_le h2 (by decide)) (xc_X11 h1 h2) rfl wu_X11 (by decide) hlink rfl hd kk
theorem gf_X11_5 {p : Program} {l : Launch} {e : Env} {R : Room} {s : State} {m : MethodId} {args : Array Value} {below : List Frame} {meth : Method} {c : Code} {w : wT} {A : Nat → Prop} {Q : State → Prop} {nL : Nat} {σ : Hp} {pc : Nat} {lv : List (Nat × Value)} {st rest : List Value} {cc : ByteArray} {own : String} {r : Option FieldType} (E : YE p m meth c cc nL s args own r w 55 A) {o index : Nat} (h1 : 0 ≤ o) (h2 : o < 1) (hlink : Cond.fieldLink own index "WhereTheSpoonWent" "textCount" "I" ∈ wG) (hd : decode cc pc = .ok (.getfield index, 3)) (kk : YY p l e R s m args below meth c w xcf 55 A Q nL σ (pc + 3) lv (.int (σ o 5) :: rest)) : YY p l e R s m args below meth c w xcf 55 A Q nL σ pc lv (.ref (w.1 o) :: rest) :=
  y_get E (ci := 11) (k := 5) (N := 14) (C := RX11) (T := TX11) (Nat.lt_of_lt_of_le h2 (by decide)) (xc_X11 h1 h2) rfl wu_X11 (by decide) hlink rfl hd kk
theorem pf_X11_5 {p : Program} {l : Launch} {e : Env} {R : Room} {s : State} {m : MethodId} {args : Array Value} {below : List Frame} {meth : Method} {c : Code} {w : wT} {A : Nat → Prop} {Q : State → Prop} {nL : Nat} {σ : Hp} {pc : Nat} {lv : List (Nat × Value)} {st rest : List Value} {cc : ByteArray} {own : String} {r : Option FieldType} (E : YE p m meth c cc nL s args own r w 55 A) {o index : Nat} {z : Int32} (h1 : 0 ≤ o) (h2 : o < 1) (hlink : Cond.fieldLink own index "WhereTheSpoonWent" "textCount" "I" ∈ wG) (hd : decode cc pc = .ok (.putfield index, 3)) (kk : YY p l e R s m args below meth c w xcf 55 A Q nL (hup σ o 5 z) (pc + 3) lv rest) : YY p l e R s m args below meth c w xcf 55 A Q nL σ pc lv (.int z :: .ref (w.1 o) :: rest) :=
  y_put E (ci := 11) (k := 5) (N := 14) (C := RX11) (T := TX11) (v := .int z) (ty := .int) (Nat.lt_of_lt_of_le h2 (by decide)) (xc_X11 h1 h2) (by rw [xc_X11 h1 h2]; simp [upd]) rfl wu_X11 tyX11 tyX11_ok nmX11 (by decide) hlink rfl (by decide +kernel) rfl rfl (by simp) hd kk
theorem gf_X11_6 {p : Program} {l : Launch} {e : Env} {R : Room} {s : State} {m : MethodId} {args : Array Value} {below : List Frame} {meth : Method} {c : Code} {w : wT} {A : Nat → Prop} {Q : State → Prop} {nL : Nat} {σ : Hp} {pc : Nat} {lv : List (Nat × Value)} {st rest : List Value} {cc : ByteArray} {own : String} {r : Option FieldType} (E : YE p m meth c cc nL s args own r w 55 A) {o index : Nat} (h1 : 0 ≤ o) (h2 : o < 1) (hlink : Cond.fieldLink own index "WhereTheSpoonWent" "reader" "LWhereTheSpoonWent$Reader;" ∈ wG) (hd : decode cc pc = .ok (.getfield index, 3)) (kk : YY p l e R s m args below meth c w xcf 55 A Q nL σ (pc + 3) lv (.ref (w.1 38) :: rest)) : YY p l e R s m args below meth c w xcf 55 A Q nL σ pc lv (.ref (w.1 o) :: rest) :=
  y_get E (ci := 11) (k := 6) (N := 14) (C := RX11) (T := TX11) (Nat.lt_of_lt_of_le h2 (by decide)) (xc_X11 h1 h2) rfl wu_X11 (by decide) hlink rfl hd kk
theorem gf_X11_7 {p : Program} {l : Launch} {e : Env} {R : Room} {s : State} {m : MethodId} {args : Array Value} {below : List Frame} {meth : Method} {c : Code} {w : wT} {A : Nat → Prop} {Q : State → Prop} {nL : Nat} {σ : Hp} {pc : Nat} {lv : List (Nat × Value)} {st rest : List Value} {cc : ByteArray} {own : String} {r : Option FieldType} (E : YE p m meth c cc nL s args own r w 55 A) {o index : Nat} (h1 : 0 ≤ o) (h2 : o < 1) (hlink : Cond.fieldLink own index "WhereTheSpoonWent" "sheets" "[LWhereTheSpoonWent$Sheet;" ∈ wG) (hd : decode cc pc = .ok (.getfield index, 3)) (kk : YY p l e R s m args below meth c w xcf 55 A Q nL σ (pc + 3) lv (.ref (w.1 40) :: rest)) : YY p l e R s m args below meth c w xcf 55 A Q nL σ pc lv (.ref (w.1 o) :: rest) :=
  y_get E (ci := 11) (k := 7) (N := 14) (C := RX11) (T := TX11) (Nat.lt_of_lt_of_le h2 (by decide)) (xc_X11 h1 h2) rfl wu_X11 (by decide) hlink rfl hd kk
theorem gf_X11_8 {p : Program} {l : Launch} {e : Env} {R : Room} {s : State} {m : MethodId} {args : Array Value} {below : List Frame} {meth : Method} {c : Code} {w : wT} {A : Nat → Prop} {Q : State → Prop} {nL : Nat} {σ : Hp} {pc : Nat} {lv : List (Nat × Value)} {st rest : List Value} {cc : ByteArray} {own : String} {r : Option FieldType} (E : YE p m meth c cc nL s args own r w 55 A) {o index : Nat} (h1 : 0 ≤ o) (h2 : o < 1) (hlink : Cond.fieldLink own index "WhereTheSpoonWent" "flight" "LWhereTheSpoonWent$Flight;" ∈ wG) (hd : decode cc pc = .ok (.getfield index, 3)) (kk : YY p l e R s m args below meth c w xcf 55 A Q nL σ (pc + 3) lv (.ref (w.1 49) :: rest)) : YY p l e R s m args below meth c w xcf 55 A Q nL σ pc lv (.ref (w.1 o) :: rest) :=
  y_get E (ci := 11) (k := 8) (N := 14) (C := RX11) (T := TX11) (Nat.lt_of_lt_of_le h2 (by decide)) (xc_X11 h1 h2) rfl wu_X11 (by decide) hlink rfl hd kk
theorem gf_X11_9 {p : Program} {l : Launch} {e : Env} {R : Room} {s : State} {m : MethodId} {args : Array Value} {below : List Frame} {meth : Method} {c : Code} {w : wT} {A : Nat → Prop} {Q : State → Prop} {nL : Nat} {σ : Hp} {pc : Nat} {lv : List (Nat × Value)} {st rest : List Value} {cc : ByteArray} {own : String} {r : Option FieldType} (E : YE p m meth c cc nL s args own r w 55 A) {o index : Nat} (h1 : 0 ≤ o) (h2 : o < 1) (hlink : Cond.fieldLink own index "WhereTheSpoonWent" "path" "[I" ∈ wG) (hd : decode cc pc = .ok (.getfield index, 3)) (kk : YY p l e R s m args below meth c w xcf 55 A Q nL σ (pc + 3) lv (.ref (w.1 50) :: rest)) : YY p l e R s m args below meth c w xcf 55 A Q nL σ pc lv (.ref (w.1 o) :: rest) :=
  y_get E (ci := 11) (k := 9) (N := 14) (C := RX11) (T := TX11) (Nat.lt_of_lt_of_le h2 (by decide)) (xc_X11 h1 h2) rfl wu_X11 (by decide) hlink rfl hd kk
theorem gf_X11_10 {p : Program} {l : Launch} {e : Env} {R : Room} {s : State} {m : MethodId} {args : Array Value} {below : List Frame} {meth : Method} {c : Code} {w : wT} {A : Nat → Prop} {Q : State → Prop} {nL : Nat} {σ : Hp} {pc : Nat} {lv : List (Nat × Value)} {st rest : List Value} {cc : ByteArray} {own : String} {r : Option FieldType} (E : YE p m meth c cc nL s args own r w 55 A) {o index : Nat} (h1 : 0 ≤ o) (h2 : o < 1) (hlink : Cond.fieldLink own index "WhereTheSpoonWent" "far" "[I" ∈ wG) (hd : decode cc pc = .ok (.getfield index, 3)) (kk : YY p l e R s m args below meth c w xcf 55 A Q nL σ (pc + 3) lv (.ref (w.1 51) :: rest)) : YY p l e R s m args below meth c w xcf 55 A Q nL σ pc lv (.ref (w.1 o) :: rest) :=
  y_get E (ci := 11) (k := 10) (N := 14) (C := RX11) (T := TX11) (Nat.lt_of_lt_of_le h2 (by decide)) (xc_X11 h1 h2) rfl wu_X11 (by decide) hlink rfl hd kk
theorem gf_X11_11 {p : Program} {l : Launch} {e : Env} {R : Room} {s : State} {m : MethodId} {args : Array Value} {below : List Frame} {meth : Method} {c : Code} {w : wT} {A : Nat → Prop} {Q : State → Prop} {nL : Nat} {σ : Hp} {pc : Nat} {lv : List (Nat × Value)} {st rest : List Value} {cc : ByteArray} {own : String} {r : Option FieldType} (E : YE p m meth c cc nL s args own r w 55 A) {o index : Nat} (h1 : 0 ≤ o) (h2 : o < 1) (hlink : Cond.fieldLink own index "WhereTheSpoonWent" "queue" "[I" ∈ wG) (hd : decode cc pc = .ok (.getfield index, 3)) (kk : YY p l e R s m args below meth c w xcf 55 A Q nL σ (pc + 3) lv (.ref (w.1 52) :: rest)) : YY p l e R s m args below meth c w xcf 55 A Q nL σ pc lv (.ref (w.1 o) :: rest) :=
  y_get E (ci := 11) (k := 11) (N := 14) (C := RX11) (T := TX11) (Nat.lt_of_lt_of_le h2 (by decide)) (xc_X11 h1 h2) rfl wu_X11 (by decide) hlink rfl hd kk
theorem gf_X11_12 {p : Program} {l : Launch} {e : Env} {R : Room} {s : State} {m : MethodId} {args : Array Value} {below : List Frame} {meth : Method} {c : Code} {w : wT} {A : Nat → Prop} {Q : State → Prop} {nL : Nat} {σ : Hp} {pc : Nat} {lv : List (Nat × Value)} {st rest : List Value} {cc : ByteArray} {own : String} {r : Option FieldType} (E : YE p m meth c cc nL s args own r w 55 A) {o index : Nat} (h1 : 0 ≤ o) (h2 : o < 1) (hlink : Cond.fieldLink own index "WhereTheSpoonWent" "ends" "[I" ∈ wG) (hd : decode cc pc = .ok (.getfield index, 3)) (kk : YY p l e R s m args below meth c w xcf 55 A Q nL σ (pc + 3) lv (.ref (w.1 53) :: rest)) : YY p l e R s m args below meth c w xcf 55 A Q nL σ pc lv (.ref (w.1 o) :: rest) :=
  y_get E (ci := 11) (k := 12) (N := 14) (C := RX11) (T := TX11) (Nat.lt_of_lt_of_le h2 (by decide)) (xc_X11 h1 h2) rfl wu_X11 (by decide) hlink rfl hd kk
theorem gf_X11_13 {p : Program} {l : Launch} {e : Env} {R : Room} {s : State} {m : MethodId} {args : Array Value} {below : List Frame} {meth : Method} {c : Code} {w : wT} {A : Nat → Prop} {Q : State → Prop} {nL : Nat} {σ : Hp} {pc : Nat} {lv : List (Nat × Value)} {st rest : List Value} {cc : ByteArray} {own : String} {r : Option FieldType} (E : YE p m meth c cc nL s args own r w 55 A) {o index : Nat} (h1 : 0 ≤ o) (h2 : o < 1) (hlink : Cond.fieldLink own index "WhereTheSpoonWent" "tally" "[I" ∈ wG) (hd : decode cc pc = .ok (.getfield index, 3)) (kk : YY p l e R s m args below meth c w xcf 55 A Q nL σ (pc + 3) lv (.ref (w.1 54) :: rest)) : YY p l e R s m args below meth c w xcf 55 A Q nL σ pc lv (.ref (w.1 o) :: rest) :=
  y_get E (ci := 11) (k := 13) (N := 14) (C := RX11) (T := TX11) (Nat.lt_of_lt_of_le h2 (by decide)) (xc_X11 h1 h2) rfl wu_X11 (by decide) hlink rfl hd kk
theorem wu_X3 : ∀ x ∈ u_ws RX3 TX3 10, x ∈ wG := fun x h => by
  obtain ⟨k, hk, rfl⟩ := List.mem_map.mp h
  have hk := List.mem_range.mp hk
  match k, hk with
  | 0, _ => exact wm_14
  | 1, _ => exact wm_15
  | 2, _ => exact wm_16
  | 3, _ => exact wm_17
  | 4, _ => exact wm_18
  | 5, _ => exact wm_19
  | 6, _ => exact wm_20
  | 7, _ => exact wm_21
  | 8, _ => exact wm_22
  | 9, _ => exact wm_23
  | k + 10, hk => exact absurd hk (by omega)
theorem gf_X3_0 {p : Program} {l : Launch} {e : Env} {R : Room} {s : State} {m : MethodId} {args : Array Value} {below : List Frame} {meth : Method} {c : Code} {w : wT} {A : Nat → Prop} {Q : State → Prop} {nL : Nat} {σ : Hp} {pc : Nat} {lv : List (Nat × Value)} {st rest : List Value} {cc : ByteArray} {own : String} {r : Option FieldType} (E : YE p m meth c cc nL s args own r w 55 A) {o index : Nat} (h1 : 1 ≤ o) (h2 : o < 3) (hlink : Cond.fieldLink own index "WhereTheSpoonWent$House" "walls" "I" ∈ wG) (hd : decode cc pc = .ok (.getfield index, 3)) (kk : YY p l e R s m args below meth c w xcf 55 A Q nL σ (pc + 3) lv (.int (σ o 0) :: rest)) : YY p l e R s m args below meth c w xcf 55 A Q nL σ pc lv (.ref (w.1 o) :: rest) :=
  y_get E (ci := 3) (k := 0) (N := 10) (C := RX3) (T := TX3) (Nat.lt_of_lt_of_le h2 (by decide)) (xc_X3 h1 h2) rfl wu_X3 (by decide) hlink rfl hd kk
theorem pf_X3_0 {p : Program} {l : Launch} {e : Env} {R : Room} {s : State} {m : MethodId} {args : Array Value} {below : List Frame} {meth : Method} {c : Code} {w : wT} {A : Nat → Prop} {Q : State → Prop} {nL : Nat} {σ : Hp} {pc : Nat} {lv : List (Nat × Value)} {st rest : List Value} {cc : ByteArray} {own : String} {r : Option FieldType} (E : YE p m meth c cc nL s args own r w 55 A) {o index : Nat} {z : Int32} (h1 : 1 ≤ o) (h2 : o < 3) (hlink : Cond.fieldLink own index "WhereTheSpoonWent$House" "walls" "I" ∈ wG) (hd : decode cc pc = .ok (.putfield index, 3)) (kk : YY p l e R s m args below meth c w xcf 55 A Q nL (hup σ o 0 z) (pc + 3) lv rest) : YY p l e R s m args below meth c w xcf 55 A Q nL σ pc lv (.int z :: .ref (w.1 o) :: rest) :=
  y_put E (ci := 3) (k := 0) (N := 10) (C := RX3) (T := TX3) (v := .int z) (ty := .int) (Nat.lt_of_lt_of_le h2 (by decide)) (xc_X3 h1 h2) (by rw [xc_X3 h1 h2]; simp [upd]) rfl wu_X3 tyX3 tyX3_ok nmX3 (by decide) hlink rfl (by decide +kernel) rfl rfl (by simp) hd kk
theorem gf_X3_1 {p : Program} {l : Launch} {e : Env} {R : Room} {s : State} {m : MethodId} {args : Array Value} {below : List Frame} {meth : Method} {c : Code} {w : wT} {A : Nat → Prop} {Q : State → Prop} {nL : Nat} {σ : Hp} {pc : Nat} {lv : List (Nat × Value)} {st rest : List Value} {cc : ByteArray} {own : String} {r : Option FieldType} (E : YE p m meth c cc nL s args own r w 55 A) {o index : Nat} (h1 : 1 ≤ o) (h2 : o < 3) (hlink : Cond.fieldLink own index "WhereTheSpoonWent$House" "nets" "I" ∈ wG) (hd : decode cc pc = .ok (.getfield index, 3)) (kk : YY p l e R s m args below meth c w xcf 55 A Q nL σ (pc + 3) lv (.int (σ o 1) :: rest)) : YY p l e R s m args below meth c w xcf 55 A Q nL σ pc lv (.ref (w.1 o) :: rest) :=
  y_get E (ci := 3) (k := 1) (N := 10) (C := RX3) (T := TX3) (Nat.lt_of_lt_of_le h2 (by decide)) (xc_X3 h1 h2) rfl wu_X3 (by decide) hlink rfl hd kk
theorem pf_X3_1 {p : Program} {l : Launch} {e : Env} {R : Room} {s : State} {m : MethodId} {args : Array Value} {below : List Frame} {meth : Method} {c : Code} {w : wT} {A : Nat → Prop} {Q : State → Prop} {nL : Nat} {σ : Hp} {pc : Nat} {lv : List (Nat × Value)} {st rest : List Value} {cc : ByteArray} {own : String} {r : Option FieldType} (E : YE p m meth c cc nL s args own r w 55 A) {o index : Nat} {z : Int32} (h1 : 1 ≤ o) (h2 : o < 3) (hlink : Cond.fieldLink own index "WhereTheSpoonWent$House" "nets" "I" ∈ wG) (hd : decode cc pc = .ok (.putfield index, 3)) (kk : YY p l e R s m args below meth c w xcf 55 A Q nL (hup σ o 1 z) (pc + 3) lv rest) : YY p l e R s m args below meth c w xcf 55 A Q nL σ pc lv (.int z :: .ref (w.1 o) :: rest) :=
  y_put E (ci := 3) (k := 1) (N := 10) (C := RX3) (T := TX3) (v := .int z) (ty := .int) (Nat.lt_of_lt_of_le h2 (by decide)) (xc_X3 h1 h2) (by rw [xc_X3 h1 h2]; simp [upd]) rfl wu_X3 tyX3 tyX3_ok nmX3 (by decide) hlink rfl (by decide +kernel) rfl rfl (by simp) hd kk
theorem gf_X3_2 {p : Program} {l : Launch} {e : Env} {R : Room} {s : State} {m : MethodId} {args : Array Value} {below : List Frame} {meth : Method} {c : Code} {w : wT} {A : Nat → Prop} {Q : State → Prop} {nL : Nat} {σ : Hp} {pc : Nat} {lv : List (Nat × Value)} {st rest : List Value} {cc : ByteArray} {own : String} {r : Option FieldType} (E : YE p m meth c cc nL s args own r w 55 A) {o index : Nat} (h1 : 1 ≤ o) (h2 : o < 3) (hlink : Cond.fieldLink own index "WhereTheSpoonWent$House" "fans" "I" ∈ wG) (hd : decode cc pc = .ok (.getfield index, 3)) (kk : YY p l e R s m args below meth c w xcf 55 A Q nL σ (pc + 3) lv (.int (σ o 2) :: rest)) : YY p l e R s m args below meth c w xcf 55 A Q nL σ pc lv (.ref (w.1 o) :: rest) :=
  y_get E (ci := 3) (k := 2) (N := 10) (C := RX3) (T := TX3) (Nat.lt_of_lt_of_le h2 (by decide)) (xc_X3 h1 h2) rfl wu_X3 (by decide) hlink rfl hd kk
theorem pf_X3_2 {p : Program} {l : Launch} {e : Env} {R : Room} {s : State} {m : MethodId} {args : Array Value} {below : List Frame} {meth : Method} {c : Code} {w : wT} {A : Nat → Prop} {Q : State → Prop} {nL : Nat} {σ : Hp} {pc : Nat} {lv : List (Nat × Value)} {st rest : List Value} {cc : ByteArray} {own : String} {r : Option FieldType} (E : YE p m meth c cc nL s args own r w 55 A) {o index : Nat} {z : Int32} (h1 : 1 ≤ o) (h2 : o < 3) (hlink : Cond.fieldLink own index "WhereTheSpoonWent$House" "fans" "I" ∈ wG) (hd : decode cc pc = .ok (.putfield index, 3)) (kk : YY p l e R s m args below meth c w xcf 55 A Q nL (hup σ o 2 z) (pc + 3) lv rest) : YY p l e R s m args below meth c w xcf 55 A Q nL σ pc lv (.int z :: .ref (w.1 o) :: rest) :=
  y_put E (ci := 3) (k := 2) (N := 10) (C := RX3) (T := TX3) (v := .int z) (ty := .int) (Nat.lt_of_lt_of_le h2 (by decide)) (xc_X3 h1 h2) (by rw [xc_X3 h1 h2]; simp [upd]) rfl wu_X3 tyX3 tyX3_ok nmX3 (by decide) hlink rfl (by decide +kernel) rfl rfl (by simp) hd kk
theorem gf_X3_3 {p : Program} {l : Launch} {e : Env} {R : Room} {s : State} {m : MethodId} {args : Array Value} {below : List Frame} {meth : Method} {c : Code} {w : wT} {A : Nat → Prop} {Q : State → Prop} {nL : Nat} {σ : Hp} {pc : Nat} {lv : List (Nat × Value)} {st rest : List Value} {cc : ByteArray} {own : String} {r : Option FieldType} (E : YE p m meth c cc nL s args own r w 55 A) {o index : Nat} (h1 : 1 ≤ o) (h2 : o < 3) (hlink : Cond.fieldLink own index "WhereTheSpoonWent$House" "step" "I" ∈ wG) (hd : decode cc pc = .ok (.getfield index, 3)) (kk : YY p l e R s m args below meth c w xcf 55 A Q nL σ (pc + 3) lv (.int (σ o 3) :: rest)) : YY p l e R s m args below meth c w xcf 55 A Q nL σ pc lv (.ref (w.1 o) :: rest) :=
  y_get E (ci := 3) (k := 3) (N := 10) (C := RX3) (T := TX3) (Nat.lt_of_lt_of_le h2 (by decide)) (xc_X3 h1 h2) rfl wu_X3 (by decide) hlink rfl hd kk
theorem pf_X3_3 {p : Program} {l : Launch} {e : Env} {R : Room} {s : State} {m : MethodId} {args : Array Value} {below : List Frame} {meth : Method} {c : Code} {w : wT} {A : Nat → Prop} {Q : State → Prop} {nL : Nat} {σ : Hp} {pc : Nat} {lv : List (Nat × Value)} {st rest : List Value} {cc : ByteArray} {own : String} {r : Option FieldType} (E : YE p m meth c cc nL s args own r w 55 A) {o index : Nat} {z : Int32} (h1 : 1 ≤ o) (h2 : o < 3) (hlink : Cond.fieldLink own index "WhereTheSpoonWent$House" "step" "I" ∈ wG) (hd : decode cc pc = .ok (.putfield index, 3)) (kk : YY p l e R s m args below meth c w xcf 55 A Q nL (hup σ o 3 z) (pc + 3) lv rest) : YY p l e R s m args below meth c w xcf 55 A Q nL σ pc lv (.int z :: .ref (w.1 o) :: rest) :=
  y_put E (ci := 3) (k := 3) (N := 10) (C := RX3) (T := TX3) (v := .int z) (ty := .int) (Nat.lt_of_lt_of_le h2 (by decide)) (xc_X3 h1 h2) (by rw [xc_X3 h1 h2]; simp [upd]) rfl wu_X3 tyX3 tyX3_ok nmX3 (by decide) hlink rfl (by decide +kernel) rfl rfl (by simp) hd kk
theorem gf_X3_4 {p : Program} {l : Launch} {e : Env} {R : Room} {s : State} {m : MethodId} {args : Array Value} {below : List Frame} {meth : Method} {c : Code} {w : wT} {A : Nat → Prop} {Q : State → Prop} {nL : Nat} {σ : Hp} {pc : Nat} {lv : List (Nat × Value)} {st rest : List Value} {cc : ByteArray} {own : String} {r : Option FieldType} (E : YE p m meth c cc nL s args own r w 55 A) {o index : Nat} (h1 : 1 ≤ o) (h2 : o < 3) (hlink : Cond.fieldLink own index "WhereTheSpoonWent$House" "law" "I" ∈ wG) (hd : decode cc pc = .ok (.getfield index, 3)) (kk : YY p l e R s m args below meth c w xcf 55 A Q nL σ (pc + 3) lv (.int (σ o 4) :: rest)) : YY p l e R s m args below meth c w xcf 55 A Q nL σ pc lv (.ref (w.1 o) :: rest) :=
  y_get E (ci := 3) (k := 4) (N := 10) (C := RX3) (T := TX3) (Nat.lt_of_lt_of_le h2 (by decide)) (xc_X3 h1 h2) rfl wu_X3 (by decide) hlink rfl hd kk
theorem pf_X3_4 {p : Program} {l : Launch} {e : Env} {R : Room} {s : State} {m : MethodId} {args : Array Value} {below : List Frame} {meth : Method} {c : Code} {w : wT} {A : Nat → Prop} {Q : State → Prop} {nL : Nat} {σ : Hp} {pc : Nat} {lv : List (Nat × Value)} {st rest : List Value} {cc : ByteArray} {own : String} {r : Option FieldType} (E : YE p m meth c cc nL s args own r w 55 A) {o index : Nat} {z : Int32} (h1 : 1 ≤ o) (h2 : o < 3) (hlink : Cond.fieldLink own index "WhereTheSpoonWent$House" "law" "I" ∈ wG) (hd : decode cc pc = .ok (.putfield index, 3)) (kk : YY p l e R s m args below meth c w xcf 55 A Q nL (hup σ o 4 z) (pc + 3) lv rest) : YY p l e R s m args below meth c w xcf 55 A Q nL σ pc lv (.int z :: .ref (w.1 o) :: rest) :=
  y_put E (ci := 3) (k := 4) (N := 10) (C := RX3) (T := TX3) (v := .int z) (ty := .int) (Nat.lt_of_lt_of_le h2 (by decide)) (xc_X3 h1 h2) (by rw [xc_X3 h1 h2]; simp [upd]) rfl wu_X3 tyX3 tyX3_ok nmX3 (by decide) hlink rfl (by decide +kernel) rfl rfl (by simp) hd kk
theorem gf_X3_5 {p : Program} {l : Launch} {e : Env} {R : Room} {s : State} {m : MethodId} {args : Array Value} {below : List Frame} {meth : Method} {c : Code} {w : wT} {A : Nat → Prop} {Q : State → Prop} {nL : Nat} {σ : Hp} {pc : Nat} {lv : List (Nat × Value)} {st rest : List Value} {cc : ByteArray} {own : String} {r : Option FieldType} (E : YE p m meth c cc nL s args own r w 55 A) {o index : Nat} (h1 : 1 ≤ o) (h2 : o < 3) (hlink : Cond.fieldLink own index "WhereTheSpoonWent$House" "things" "I" ∈ wG) (hd : decode cc pc = .ok (.getfield index, 3)) (kk : YY p l e R s m args below meth c w xcf 55 A Q nL σ (pc + 3) lv (.int (σ o 5) :: rest)) : YY p l e R s m args below meth c w xcf 55 A Q nL σ pc lv (.ref (w.1 o) :: rest) :=
  y_get E (ci := 3) (k := 5) (N := 10) (C := RX3) (T := TX3) (Nat.lt_of_lt_of_le h2 (by decide)) (xc_X3 h1 h2) rfl wu_X3 (by decide) hlink rfl hd kk
theorem pf_X3_5 {p : Program} {l : Launch} {e : Env} {R : Room} {s : State} {m : MethodId} {args : Array Value} {below : List Frame} {meth : Method} {c : Code} {w : wT} {A : Nat → Prop} {Q : State → Prop} {nL : Nat} {σ : Hp} {pc : Nat} {lv : List (Nat × Value)} {st rest : List Value} {cc : ByteArray} {own : String} {r : Option FieldType} (E : YE p m meth c cc nL s args own r w 55 A) {o index : Nat} {z : Int32} (h1 : 1 ≤ o) (h2 : o < 3) (hlink : Cond.fieldLink own index "WhereTheSpoonWent$House" "things" "I" ∈ wG) (hd : decode cc pc = .ok (.putfield index, 3)) (kk : YY p l e R s m args below meth c w xcf 55 A Q nL (hup σ o 5 z) (pc + 3) lv rest) : YY p l e R s m args below meth c w xcf 55 A Q nL σ pc lv (.int z :: .ref (w.1 o) :: rest) :=
  y_put E (ci := 3) (k := 5) (N := 10) (C := RX3) (T := TX3) (v := .int z) (ty := .int) (Nat.lt_of_lt_of_le h2 (by decide)) (xc_X3 h1 h2) (by rw [xc_X3 h1 h2]; simp [upd]) rfl wu_X3 tyX3 tyX3_ok nmX3 (by decide) hlink rfl (by decide +kernel) rfl rfl (by simp) hd kk
theorem gf_X3_6 {p : Program} {l : Launch} {e : Env} {R : Room} {s : State} {m : MethodId} {args : Array Value} {below : List Frame} {meth : Method} {c : Code} {w : wT} {A : Nat → Prop} {Q : State → Prop} {nL : Nat} {σ : Hp} {pc : Nat} {lv : List (Nat × Value)} {st rest : List Value} {cc : ByteArray} {own : String} {r : Option FieldType} (E : YE p m meth c cc nL s args own r w 55 A) {o index : Nat} (h1 : 1 ≤ o) (h2 : o < 3) (hlink : Cond.fieldLink own index "WhereTheSpoonWent$House" "kinds" "[I" ∈ wG) (hd : decode cc pc = .ok (.getfield index, 3)) (kk : YY p l e R s m args below meth c w xcf 55 A Q nL σ (pc + 3) lv (.ref (w.1 (3 + 4 * (o - 1))) :: rest)) : YY p l e R s m args below meth c w xcf 55 A Q nL σ pc lv (.ref (w.1 o) :: rest) :=
  y_get E (ci := 3) (k := 6) (N := 10) (C := RX3) (T := TX3) (Nat.lt_of_lt_of_le h2 (by decide)) (xc_X3 h1 h2) rfl wu_X3 (by decide) hlink rfl hd kk
theorem gf_X3_7 {p : Program} {l : Launch} {e : Env} {R : Room} {s : State} {m : MethodId} {args : Array Value} {below : List Frame} {meth : Method} {c : Code} {w : wT} {A : Nat → Prop} {Q : State → Prop} {nL : Nat} {σ : Hp} {pc : Nat} {lv : List (Nat × Value)} {st rest : List Value} {cc : ByteArray} {own : String} {r : Option FieldType} (E : YE p m meth c cc nL s args own r w 55 A) {o index : Nat} (h1 : 1 ≤ o) (h2 : o < 3) (hlink : Cond.fieldLink own index "WhereTheSpoonWent$House" "mores" "[I" ∈ wG) (hd : decode cc pc = .ok (.getfield index, 3)) (kk : YY p l e R s m args below meth c w xcf 55 A Q nL σ (pc + 3) lv (.ref (w.1 (4 + 4 * (o - 1))) :: rest)) : YY p l e R s m args below meth c w xcf 55 A Q nL σ pc lv (.ref (w.1 o) :: rest) :=
  y_get E (ci := 3) (k := 7) (N := 10) (C := RX3) (T := TX3) (Nat.lt_of_lt_of_le h2 (by decide)) (xc_X3 h1 h2) rfl wu_X3 (by decide) hlink rfl hd kk
theorem gf_X3_8 {p : Program} {l : Launch} {e : Env} {R : Room} {s : State} {m : MethodId} {args : Array Value} {below : List Frame} {meth : Method} {c : Code} {w : wT} {A : Nat → Prop} {Q : State → Prop} {nL : Nat} {σ : Hp} {pc : Nat} {lv : List (Nat × Value)} {st rest : List Value} {cc : ByteArray} {own : String} {r : Option FieldType} (E : YE p m meth c cc nL s args own r w 55 A) {o index : Nat} (h1 : 1 ≤ o) (h2 : o < 3) (hlink : Cond.fieldLink own index "WhereTheSpoonWent$House" "cells" "[I" ∈ wG) (hd : decode cc pc = .ok (.getfield index, 3)) (kk : YY p l e R s m args below meth c w xcf 55 A Q nL σ (pc + 3) lv (.ref (w.1 (5 + 4 * (o - 1))) :: rest)) : YY p l e R s m args below meth c w xcf 55 A Q nL σ pc lv (.ref (w.1 o) :: rest) :=
  y_get E (ci := 3) (k := 8) (N := 10) (C := RX3) (T := TX3) (Nat.lt_of_lt_of_le h2 (by decide)) (xc_X3 h1 h2) rfl wu_X3 (by decide) hlink rfl hd kk
theorem gf_X3_9 {p : Program} {l : Launch} {e : Env} {R : Room} {s : State} {m : MethodId} {args : Array Value} {below : List Frame} {meth : Method} {c : Code} {w : wT} {A : Nat → Prop} {Q : State → Prop} {nL : Nat} {σ : Hp} {pc : Nat} {lv : List (Nat × Value)} {st rest : List Value} {cc : ByteArray} {own : String} {r : Option FieldType} (E : YE p m meth c cc nL s args own r w 55 A) {o index : Nat} (h1 : 1 ≤ o) (h2 : o < 3) (hlink : Cond.fieldLink own index "WhereTheSpoonWent$House" "ways" "[I" ∈ wG) (hd : decode cc pc = .ok (.getfield index, 3)) (kk : YY p l e R s m args below meth c w xcf 55 A Q nL σ (pc + 3) lv (.ref (w.1 (6 + 4 * (o - 1))) :: rest)) : YY p l e R s m args below meth c w xcf 55 A Q nL σ pc lv (.ref (w.1 o) :: rest) :=
  y_get E (ci := 3) (k := 9) (N := 10) (C := RX3) (T := TX3) (Nat.lt_of_lt_of_le h2 (by decide)) (xc_X3 h1 h2) rfl wu_X3 (by decide) hlink rfl hd kk
theorem wu_X9 : ∀ x ∈ u_ws RX9 TX9 5, x ∈ wG := fun x h => by
  obtain ⟨k, hk, rfl⟩ := List.mem_map.mp h
  have hk := List.mem_range.mp hk
  match k, hk with
  | 0, _ => exact wm_24
  | 1, _ => exact wm_25
  | 2, _ => exact wm_26
  | 3, _ => exact wm_27
  | 4, _ => exact wm_28
  | k + 5, hk => exact absurd hk (by omega)
theorem gf_X9_0 {p : Program} {l : Launch} {e : Env} {R : Room} {s : State} {m : MethodId} {args : Array Value} {below : List Frame} {meth : Method} {c : Code} {w : wT} {A : Nat → Prop} {Q : State → Prop} {nL : Nat} {σ : Hp} {pc : Nat} {lv : List (Nat × Value)} {st rest : List Value} {cc : ByteArray} {own : String} {r : Option FieldType} (E : YE p m meth c cc nL s args own r w 55 A) {o index : Nat} (h1 : 19 ≤ o) (h2 : o < 25) (hlink : Cond.fieldLink own index "WhereTheSpoonWent$Text" "codes" "[I" ∈ wG) (hd : decode cc pc = .ok (.getfield index, 3)) (kk : YY p l e R s m args below meth c w xcf 55 A Q nL σ (pc + 3) lv (.ref (w.1 (25 + 1 * (o - 19))) :: rest)) : YY p l e R s m args below meth c w xcf 55 A Q nL σ pc lv (.ref (w.1 o) :: rest) :=
  y_get E (ci := 9) (k := 0) (N := 5) (C := RX9) (T := TX9) (Nat.lt_of_lt_of_le h2 (by decide)) (xc_X9 h1 h2) rfl wu_X9 (by decide) hlink rfl hd kk
theorem gf_X9_1 {p : Program} {l : Launch} {e : Env} {R : Room} {s : State} {m : MethodId} {args : Array Value} {below : List Frame} {meth : Method} {c : Code} {w : wT} {A : Nat → Prop} {Q : State → Prop} {nL : Nat} {σ : Hp} {pc : Nat} {lv : List (Nat × Value)} {st rest : List Value} {cc : ByteArray} {own : String} {r : Option FieldType} (E : YE p m meth c cc nL s args own r w 55 A) {o index : Nat} (h1 : 19 ≤ o) (h2 : o < 25) (hlink : Cond.fieldLink own index "WhereTheSpoonWent$Text" "starts" "[I" ∈ wG) (hd : decode cc pc = .ok (.getfield index, 3)) (kk : YY p l e R s m args below meth c w xcf 55 A Q nL σ (pc + 3) lv (.ref (w.1 (31 + 1 * (o - 19))) :: rest)) : YY p l e R s m args below meth c w xcf 55 A Q nL σ pc lv (.ref (w.1 o) :: rest) :=
  y_get E (ci := 9) (k := 1) (N := 5) (C := RX9) (T := TX9) (Nat.lt_of_lt_of_le h2 (by decide)) (xc_X9 h1 h2) rfl wu_X9 (by decide) hlink rfl hd kk
theorem gf_X9_2 {p : Program} {l : Launch} {e : Env} {R : Room} {s : State} {m : MethodId} {args : Array Value} {below : List Frame} {meth : Method} {c : Code} {w : wT} {A : Nat → Prop} {Q : State → Prop} {nL : Nat} {σ : Hp} {pc : Nat} {lv : List (Nat × Value)} {st rest : List Value} {cc : ByteArray} {own : String} {r : Option FieldType} (E : YE p m meth c cc nL s args own r w 55 A) {o index : Nat} (h1 : 19 ≤ o) (h2 : o < 25) (hlink : Cond.fieldLink own index "WhereTheSpoonWent$Text" "stack" "[I" ∈ wG) (hd : decode cc pc = .ok (.getfield index, 3)) (kk : YY p l e R s m args below meth c w xcf 55 A Q nL σ (pc + 3) lv (.ref (w.1 37) :: rest)) : YY p l e R s m args below meth c w xcf 55 A Q nL σ pc lv (.ref (w.1 o) :: rest) :=
  y_get E (ci := 9) (k := 2) (N := 5) (C := RX9) (T := TX9) (Nat.lt_of_lt_of_le h2 (by decide)) (xc_X9 h1 h2) rfl wu_X9 (by decide) hlink rfl hd kk
theorem gf_X9_3 {p : Program} {l : Launch} {e : Env} {R : Room} {s : State} {m : MethodId} {args : Array Value} {below : List Frame} {meth : Method} {c : Code} {w : wT} {A : Nat → Prop} {Q : State → Prop} {nL : Nat} {σ : Hp} {pc : Nat} {lv : List (Nat × Value)} {st rest : List Value} {cc : ByteArray} {own : String} {r : Option FieldType} (E : YE p m meth c cc nL s args own r w 55 A) {o index : Nat} (h1 : 19 ≤ o) (h2 : o < 25) (hlink : Cond.fieldLink own index "WhereTheSpoonWent$Text" "used" "I" ∈ wG) (hd : decode cc pc = .ok (.getfield index, 3)) (kk : YY p l e R s m args below meth c w xcf 55 A Q nL σ (pc + 3) lv (.int (σ o 3) :: rest)) : YY p l e R s m args below meth c w xcf 55 A Q nL σ pc lv (.ref (w.1 o) :: rest) :=
  y_get E (ci := 9) (k := 3) (N := 5) (C := RX9) (T := TX9) (Nat.lt_of_lt_of_le h2 (by decide)) (xc_X9 h1 h2) rfl wu_X9 (by decide) hlink rfl hd kk
theorem pf_X9_3 {p : Program} {l : Launch} {e : Env} {R : Room} {s : State} {m : MethodId} {args : Array Value} {below : List Frame} {meth : Method} {c : Code} {w : wT} {A : Nat → Prop} {Q : State → Prop} {nL : Nat} {σ : Hp} {pc : Nat} {lv : List (Nat × Value)} {st rest : List Value} {cc : ByteArray} {own : String} {r : Option FieldType} (E : YE p m meth c cc nL s args own r w 55 A) {o index : Nat} {z : Int32} (h1 : 19 ≤ o) (h2 : o < 25) (hlink : Cond.fieldLink own index "WhereTheSpoonWent$Text" "used" "I" ∈ wG) (hd : decode cc pc = .ok (.putfield index, 3)) (kk : YY p l e R s m args below meth c w xcf 55 A Q nL (hup σ o 3 z) (pc + 3) lv rest) : YY p l e R s m args below meth c w xcf 55 A Q nL σ pc lv (.int z :: .ref (w.1 o) :: rest) :=
  y_put E (ci := 9) (k := 3) (N := 5) (C := RX9) (T := TX9) (v := .int z) (ty := .int) (Nat.lt_of_lt_of_le h2 (by decide)) (xc_X9 h1 h2) (by rw [xc_X9 h1 h2]; simp [upd]) rfl wu_X9 tyX9 tyX9_ok nmX9 (by decide) hlink rfl (by decide +kernel) rfl rfl (by simp) hd kk
theorem gf_X9_4 {p : Program} {l : Launch} {e : Env} {R : Room} {s : State} {m : MethodId} {args : Array Value} {below : List Frame} {meth : Method} {c : Code} {w : wT} {A : Nat → Prop} {Q : State → Prop} {nL : Nat} {σ : Hp} {pc : Nat} {lv : List (Nat × Value)} {st rest : List Value} {cc : ByteArray} {own : String} {r : Option FieldType} (E : YE p m meth c cc nL s args own r w 55 A) {o index : Nat} (h1 : 19 ≤ o) (h2 : o < 25) (hlink : Cond.fieldLink own index "WhereTheSpoonWent$Text" "parts" "I" ∈ wG) (hd : decode cc pc = .ok (.getfield index, 3)) (kk : YY p l e R s m args below meth c w xcf 55 A Q nL σ (pc + 3) lv (.int (σ o 4) :: rest)) : YY p l e R s m args below meth c w xcf 55 A Q nL σ pc lv (.ref (w.1 o) :: rest) :=
  y_get E (ci := 9) (k := 4) (N := 5) (C := RX9) (T := TX9) (Nat.lt_of_lt_of_le h2 (by decide)) (xc_X9 h1 h2) rfl wu_X9 (by decide) hlink rfl hd kk
theorem pf_X9_4 {p : Program} {l : Launch} {e : Env} {R : Room} {s : State} {m : MethodId} {args : Array Value} {below : List Frame} {meth : Method} {c : Code} {w : wT} {A : Nat → Prop} {Q : State → Prop} {nL : Nat} {σ : Hp} {pc : Nat} {lv : List (Nat × Value)} {st rest : List Value} {cc : ByteArray} {own : String} {r : Option FieldType} (E : YE p m meth c cc nL s args own r w 55 A) {o index : Nat} {z : Int32} (h1 : 19 ≤ o) (h2 : o < 25) (hlink : Cond.fieldLink own index "WhereTheSpoonWent$Text" "parts" "I" ∈ wG) (hd : decode cc pc = .ok (.putfield index, 3)) (kk : YY p l e R s m args below meth c w xcf 55 A Q nL (hup σ o 4 z) (pc + 3) lv rest) : YY p l e R s m args below meth c w xcf 55 A Q nL σ pc lv (.int z :: .ref (w.1 o) :: rest) :=
  y_put E (ci := 9) (k := 4) (N := 5) (C := RX9) (T := TX9) (v := .int z) (ty := .int) (Nat.lt_of_lt_of_le h2 (by decide)) (xc_X9 h1 h2) (by rw [xc_X9 h1 h2]; simp [upd]) rfl wu_X9 tyX9 tyX9_ok nmX9 (by decide) hlink rfl (by decide +kernel) rfl rfl (by simp) hd kk
theorem wu_X4 : ∀ x ∈ u_ws RX4 TX4 7, x ∈ wG := fun x h => by
  obtain ⟨k, hk, rfl⟩ := List.mem_map.mp h
  have hk := List.mem_range.mp hk
  match k, hk with
  | 0, _ => exact wm_29
  | 1, _ => exact wm_30
  | 2, _ => exact wm_31
  | 3, _ => exact wm_32
  | 4, _ => exact wm_33
  | 5, _ => exact wm_34
  | 6, _ => exact wm_35
  | k + 7, hk => exact absurd hk (by omega)
theorem gf_X4_0 {p : Program} {l : Launch} {e : Env} {R : Room} {s : State} {m : MethodId} {args : Array Value} {below : List Frame} {meth : Method} {c : Code} {w : wT} {A : Nat → Prop} {Q : State → Prop} {nL : Nat} {σ : Hp} {pc : Nat} {lv : List (Nat × Value)} {st rest : List Value} {cc : ByteArray} {own : String} {r : Option FieldType} (E : YE p m meth c cc nL s args own r w 55 A) {o index : Nat} (h1 : 38 ≤ o) (h2 : o < 39) (hlink : Cond.fieldLink own index "WhereTheSpoonWent$Reader" "bytes" "[B" ∈ wG) (hd : decode cc pc = .ok (.getfield index, 3)) (kk : YY p l e R s m args below meth c w xcf 55 A Q nL σ (pc + 3) lv (.ref (w.1 39) :: rest)) : YY p l e R s m args below meth c w xcf 55 A Q nL σ pc lv (.ref (w.1 o) :: rest) :=
  y_get E (ci := 4) (k := 0) (N := 7) (C := RX4) (T := TX4) (Nat.lt_of_lt_of_le h2 (by decide)) (xc_X4 h1 h2) rfl wu_X4 (by decide) hlink rfl hd kk
theorem gf_X4_1 {p : Program} {l : Launch} {e : Env} {R : Room} {s : State} {m : MethodId} {args : Array Value} {below : List Frame} {meth : Method} {c : Code} {w : wT} {A : Nat → Prop} {Q : State → Prop} {nL : Nat} {σ : Hp} {pc : Nat} {lv : List (Nat × Value)} {st rest : List Value} {cc : ByteArray} {own : String} {r : Option FieldType} (E : YE p m meth c cc nL s args own r w 55 A) {o index : Nat} (h1 : 38 ≤ o) (h2 : o < 39) (hlink : Cond.fieldLink own index "WhereTheSpoonWent$Reader" "size" "I" ∈ wG) (hd : decode cc pc = .ok (.getfield index, 3)) (kk : YY p l e R s m args below meth c w xcf 55 A Q nL σ (pc + 3) lv (.int (σ o 1) :: rest)) : YY p l e R s m args below meth c w xcf 55 A Q nL σ pc lv (.ref (w.1 o) :: rest) :=
  y_get E (ci := 4) (k := 1) (N := 7) (C := RX4) (T := TX4) (Nat.lt_of_lt_of_le h2 (by decide)) (xc_X4 h1 h2) rfl wu_X4 (by decide) hlink rfl hd kk
theorem pf_X4_1 {p : Program} {l : Launch} {e : Env} {R : Room} {s : State} {m : MethodId} {args : Array Value} {below : List Frame} {meth : Method} {c : Code} {w : wT} {A : Nat → Prop} {Q : State → Prop} {nL : Nat} {σ : Hp} {pc : Nat} {lv : List (Nat × Value)} {st rest : List Value} {cc : ByteArray} {own : String} {r : Option FieldType} (E : YE p m meth c cc nL s args own r w 55 A) {o index : Nat} {z : Int32} (h1 : 38 ≤ o) (h2 : o < 39) (hlink : Cond.fieldLink own index "WhereTheSpoonWent$Reader" "size" "I" ∈ wG) (hd : decode cc pc = .ok (.putfield index, 3)) (kk : YY p l e R s m args below meth c w xcf 55 A Q nL (hup σ o 1 z) (pc + 3) lv rest) : YY p l e R s m args below meth c w xcf 55 A Q nL σ pc lv (.int z :: .ref (w.1 o) :: rest) :=
  y_put E (ci := 4) (k := 1) (N := 7) (C := RX4) (T := TX4) (v := .int z) (ty := .int) (Nat.lt_of_lt_of_le h2 (by decide)) (xc_X4 h1 h2) (by rw [xc_X4 h1 h2]; simp [upd]) rfl wu_X4 tyX4 tyX4_ok nmX4 (by decide) hlink rfl (by decide +kernel) rfl rfl (by simp) hd kk
theorem gf_X4_2 {p : Program} {l : Launch} {e : Env} {R : Room} {s : State} {m : MethodId} {args : Array Value} {below : List Frame} {meth : Method} {c : Code} {w : wT} {A : Nat → Prop} {Q : State → Prop} {nL : Nat} {σ : Hp} {pc : Nat} {lv : List (Nat × Value)} {st rest : List Value} {cc : ByteArray} {own : String} {r : Option FieldType} (E : YE p m meth c cc nL s args own r w 55 A) {o index : Nat} (h1 : 38 ≤ o) (h2 : o < 39) (hlink : Cond.fieldLink own index "WhereTheSpoonWent$Reader" "token" "I" ∈ wG) (hd : decode cc pc = .ok (.getfield index, 3)) (kk : YY p l e R s m args below meth c w xcf 55 A Q nL σ (pc + 3) lv (.int (σ o 2) :: rest)) : YY p l e R s m args below meth c w xcf 55 A Q nL σ pc lv (.ref (w.1 o) :: rest) :=
  y_get E (ci := 4) (k := 2) (N := 7) (C := RX4) (T := TX4) (Nat.lt_of_lt_of_le h2 (by decide)) (xc_X4 h1 h2) rfl wu_X4 (by decide) hlink rfl hd kk
theorem pf_X4_2 {p : Program} {l : Launch} {e : Env} {R : Room} {s : State} {m : MethodId} {args : Array Value} {below : List Frame} {meth : Method} {c : Code} {w : wT} {A : Nat → Prop} {Q : State → Prop} {nL : Nat} {σ : Hp} {pc : Nat} {lv : List (Nat × Value)} {st rest : List Value} {cc : ByteArray} {own : String} {r : Option FieldType} (E : YE p m meth c cc nL s args own r w 55 A) {o index : Nat} {z : Int32} (h1 : 38 ≤ o) (h2 : o < 39) (hlink : Cond.fieldLink own index "WhereTheSpoonWent$Reader" "token" "I" ∈ wG) (hd : decode cc pc = .ok (.putfield index, 3)) (kk : YY p l e R s m args below meth c w xcf 55 A Q nL (hup σ o 2 z) (pc + 3) lv rest) : YY p l e R s m args below meth c w xcf 55 A Q nL σ pc lv (.int z :: .ref (w.1 o) :: rest) :=
  y_put E (ci := 4) (k := 2) (N := 7) (C := RX4) (T := TX4) (v := .int z) (ty := .int) (Nat.lt_of_lt_of_le h2 (by decide)) (xc_X4 h1 h2) (by rw [xc_X4 h1 h2]; simp [upd]) rfl wu_X4 tyX4 tyX4_ok nmX4 (by decide) hlink rfl (by decide +kernel) rfl rfl (by simp) hd kk
theorem gf_X4_3 {p : Program} {l : Launch} {e : Env} {R : Room} {s : State} {m : MethodId} {args : Array Value} {below : List Frame} {meth : Method} {c : Code} {w : wT} {A : Nat → Prop} {Q : State → Prop} {nL : Nat} {σ : Hp} {pc : Nat} {lv : List (Nat × Value)} {st rest : List Value} {cc : ByteArray} {own : String} {r : Option FieldType} (E : YE p m meth c cc nL s args own r w 55 A) {o index : Nat} (h1 : 38 ≤ o) (h2 : o < 39) (hlink : Cond.fieldLink own index "WhereTheSpoonWent$Reader" "start" "I" ∈ wG) (hd : decode cc pc = .ok (.getfield index, 3)) (kk : YY p l e R s m args below meth c w xcf 55 A Q nL σ (pc + 3) lv (.int (σ o 3) :: rest)) : YY p l e R s m args below meth c w xcf 55 A Q nL σ pc lv (.ref (w.1 o) :: rest) :=
  y_get E (ci := 4) (k := 3) (N := 7) (C := RX4) (T := TX4) (Nat.lt_of_lt_of_le h2 (by decide)) (xc_X4 h1 h2) rfl wu_X4 (by decide) hlink rfl hd kk
theorem pf_X4_3 {p : Program} {l : Launch} {e : Env} {R : Room} {s : State} {m : MethodId} {args : Array Value} {below : List Frame} {meth : Method} {c : Code} {w : wT} {A : Nat → Prop} {Q : State → Prop} {nL : Nat} {σ : Hp} {pc : Nat} {lv : List (Nat × Value)} {st rest : List Value} {cc : ByteArray} {own : String} {r : Option FieldType} (E : YE p m meth c cc nL s args own r w 55 A) {o index : Nat} {z : Int32} (h1 : 38 ≤ o) (h2 : o < 39) (hlink : Cond.fieldLink own index "WhereTheSpoonWent$Reader" "start" "I" ∈ wG) (hd : decode cc pc = .ok (.putfield index, 3)) (kk : YY p l e R s m args below meth c w xcf 55 A Q nL (hup σ o 3 z) (pc + 3) lv rest) : YY p l e R s m args below meth c w xcf 55 A Q nL σ pc lv (.int z :: .ref (w.1 o) :: rest) :=
  y_put E (ci := 4) (k := 3) (N := 7) (C := RX4) (T := TX4) (v := .int z) (ty := .int) (Nat.lt_of_lt_of_le h2 (by decide)) (xc_X4 h1 h2) (by rw [xc_X4 h1 h2]; simp [upd]) rfl wu_X4 tyX4 tyX4_ok nmX4 (by decide) hlink rfl (by decide +kernel) rfl rfl (by simp) hd kk
theorem gf_X4_4 {p : Program} {l : Launch} {e : Env} {R : Room} {s : State} {m : MethodId} {args : Array Value} {below : List Frame} {meth : Method} {c : Code} {w : wT} {A : Nat → Prop} {Q : State → Prop} {nL : Nat} {σ : Hp} {pc : Nat} {lv : List (Nat × Value)} {st rest : List Value} {cc : ByteArray} {own : String} {r : Option FieldType} (E : YE p m meth c cc nL s args own r w 55 A) {o index : Nat} (h1 : 38 ≤ o) (h2 : o < 39) (hlink : Cond.fieldLink own index "WhereTheSpoonWent$Reader" "next" "I" ∈ wG) (hd : decode cc pc = .ok (.getfield index, 3)) (kk : YY p l e R s m args below meth c w xcf 55 A Q nL σ (pc + 3) lv (.int (σ o 4) :: rest)) : YY p l e R s m args below meth c w xcf 55 A Q nL σ pc lv (.ref (w.1 o) :: rest) :=
  y_get E (ci := 4) (k := 4) (N := 7) (C := RX4) (T := TX4) (Nat.lt_of_lt_of_le h2 (by decide)) (xc_X4 h1 h2) rfl wu_X4 (by decide) hlink rfl hd kk
theorem pf_X4_4 {p : Program} {l : Launch} {e : Env} {R : Room} {s : State} {m : MethodId} {args : Array Value} {below : List Frame} {meth : Method} {c : Code} {w : wT} {A : Nat → Prop} {Q : State → Prop} {nL : Nat} {σ : Hp} {pc : Nat} {lv : List (Nat × Value)} {st rest : List Value} {cc : ByteArray} {own : String} {r : Option FieldType} (E : YE p m meth c cc nL s args own r w 55 A) {o index : Nat} {z : Int32} (h1 : 38 ≤ o) (h2 : o < 39) (hlink : Cond.fieldLink own index "WhereTheSpoonWent$Reader" "next" "I" ∈ wG) (hd : decode cc pc = .ok (.putfield index, 3)) (kk : YY p l e R s m args below meth c w xcf 55 A Q nL (hup σ o 4 z) (pc + 3) lv rest) : YY p l e R s m args below meth c w xcf 55 A Q nL σ pc lv (.int z :: .ref (w.1 o) :: rest) :=
  y_put E (ci := 4) (k := 4) (N := 7) (C := RX4) (T := TX4) (v := .int z) (ty := .int) (Nat.lt_of_lt_of_le h2 (by decide)) (xc_X4 h1 h2) (by rw [xc_X4 h1 h2]; simp [upd]) rfl wu_X4 tyX4 tyX4_ok nmX4 (by decide) hlink rfl (by decide +kernel) rfl rfl (by simp) hd kk
theorem gf_X4_5 {p : Program} {l : Launch} {e : Env} {R : Room} {s : State} {m : MethodId} {args : Array Value} {below : List Frame} {meth : Method} {c : Code} {w : wT} {A : Nat → Prop} {Q : State → Prop} {nL : Nat} {σ : Hp} {pc : Nat} {lv : List (Nat × Value)} {st rest : List Value} {cc : ByteArray} {own : String} {r : Option FieldType} (E : YE p m meth c cc nL s args own r w 55 A) {o index : Nat} (h1 : 38 ≤ o) (h2 : o < 39) (hlink : Cond.fieldLink own index "WhereTheSpoonWent$Reader" "fault" "I" ∈ wG) (hd : decode cc pc = .ok (.getfield index, 3)) (kk : YY p l e R s m args below meth c w xcf 55 A Q nL σ (pc + 3) lv (.int (σ o 5) :: rest)) : YY p l e R s m args below meth c w xcf 55 A Q nL σ pc lv (.ref (w.1 o) :: rest) :=
  y_get E (ci := 4) (k := 5) (N := 7) (C := RX4) (T := TX4) (Nat.lt_of_lt_of_le h2 (by decide)) (xc_X4 h1 h2) rfl wu_X4 (by decide) hlink rfl hd kk
theorem pf_X4_5 {p : Program} {l : Launch} {e : Env} {R : Room} {s : State} {m : MethodId} {args : Array Value} {below : List Frame} {meth : Method} {c : Code} {w : wT} {A : Nat → Prop} {Q : State → Prop} {nL : Nat} {σ : Hp} {pc : Nat} {lv : List (Nat × Value)} {st rest : List Value} {cc : ByteArray} {own : String} {r : Option FieldType} (E : YE p m meth c cc nL s args own r w 55 A) {o index : Nat} {z : Int32} (h1 : 38 ≤ o) (h2 : o < 39) (hlink : Cond.fieldLink own index "WhereTheSpoonWent$Reader" "fault" "I" ∈ wG) (hd : decode cc pc = .ok (.putfield index, 3)) (kk : YY p l e R s m args below meth c w xcf 55 A Q nL (hup σ o 5 z) (pc + 3) lv rest) : YY p l e R s m args below meth c w xcf 55 A Q nL σ pc lv (.int z :: .ref (w.1 o) :: rest) :=
  y_put E (ci := 4) (k := 5) (N := 7) (C := RX4) (T := TX4) (v := .int z) (ty := .int) (Nat.lt_of_lt_of_le h2 (by decide)) (xc_X4 h1 h2) (by rw [xc_X4 h1 h2]; simp [upd]) rfl wu_X4 tyX4 tyX4_ok nmX4 (by decide) hlink rfl (by decide +kernel) rfl rfl (by simp) hd kk
theorem gf_X4_6 {p : Program} {l : Launch} {e : Env} {R : Room} {s : State} {m : MethodId} {args : Array Value} {below : List Frame} {meth : Method} {c : Code} {w : wT} {A : Nat → Prop} {Q : State → Prop} {nL : Nat} {σ : Hp} {pc : Nat} {lv : List (Nat × Value)} {st rest : List Value} {cc : ByteArray} {own : String} {r : Option FieldType} (E : YE p m meth c cc nL s args own r w 55 A) {o index : Nat} (h1 : 38 ≤ o) (h2 : o < 39) (hnn : ¬ σ o 6 = 0) (hlink : Cond.fieldLink own index "WhereTheSpoonWent$Reader" "out" "LWhereTheSpoonWent$Text;" ∈ wG) (hd : decode cc pc = .ok (.getfield index, 3)) (kk : YY p l e R s m args below meth c w xcf 55 A Q nL σ (pc + 3) lv (.ref (w.1 ((σ o 6).toNatClampNeg - 1)) :: rest)) : YY p l e R s m args below meth c w xcf 55 A Q nL σ pc lv (.ref (w.1 o) :: rest) :=
  y_get E (ci := 4) (k := 6) (N := 7) (C := RX4) (T := TX4) (Nat.lt_of_lt_of_le h2 (by decide)) (xc_X4 h1 h2) rfl wu_X4 (by decide) hlink (v := .ref (w.1 ((σ o 6).toNatClampNeg - 1))) (congrArg some (if_neg hnn)) hd kk
theorem pf_X4_6 {p : Program} {l : Launch} {e : Env} {R : Room} {s : State} {m : MethodId} {args : Array Value} {below : List Frame} {meth : Method} {c : Code} {w : wT} {A : Nat → Prop} {Q : State → Prop} {nL : Nat} {σ : Hp} {pc : Nat} {lv : List (Nat × Value)} {st rest : List Value} {cc : ByteArray} {own : String} {r : Option FieldType} (E : YE p m meth c cc nL s args own r w 55 A) {o index q : Nat} (h1 : 38 ≤ o) (h2 : o < 39) (hq : q < 1000) (hlink : Cond.fieldLink own index "WhereTheSpoonWent$Reader" "out" "LWhereTheSpoonWent$Text;" ∈ wG) (hd : decode cc pc = .ok (.putfield index, 3)) (kk : YY p l e R s m args below meth c w xcf 55 A Q nL (hup σ o 6 (nI (q + 1))) (pc + 3) lv rest) : YY p l e R s m args below meth c w xcf 55 A Q nL σ pc lv (.ref (w.1 q) :: .ref (w.1 o) :: rest) :=
  y_put E (ci := 4) (k := 6) (N := 7) (C := RX4) (T := TX4) (v := .ref (w.1 q)) (ty := .object "WhereTheSpoonWent$Text") (Nat.lt_of_lt_of_le h2 (by decide)) (xc_X4 h1 h2) (by rw [xc_X4 h1 h2]; simp [upd, rfv_nI hq]) rfl wu_X4 tyX4 tyX4_ok nmX4 (by decide) hlink rfl (by decide +kernel) rfl rfl (by simp) hd kk
theorem wu_X6 : ∀ x ∈ u_ws RX6 TX6 3, x ∈ wG := fun x h => by
  obtain ⟨k, hk, rfl⟩ := List.mem_map.mp h
  have hk := List.mem_range.mp hk
  match k, hk with
  | 0, _ => exact wm_36
  | 1, _ => exact wm_37
  | 2, _ => exact wm_38
  | k + 3, hk => exact absurd hk (by omega)
theorem gf_X6_0 {p : Program} {l : Launch} {e : Env} {R : Room} {s : State} {m : MethodId} {args : Array Value} {below : List Frame} {meth : Method} {c : Code} {w : wT} {A : Nat → Prop} {Q : State → Prop} {nL : Nat} {σ : Hp} {pc : Nat} {lv : List (Nat × Value)} {st rest : List Value} {cc : ByteArray} {own : String} {r : Option FieldType} (E : YE p m meth c cc nL s args own r w 55 A) {o index : Nat} (h1 : 41 ≤ o) (h2 : o < 45) (hlink : Cond.fieldLink own index "WhereTheSpoonWent$Sheet" "numbers" "[I" ∈ wG) (hd : decode cc pc = .ok (.getfield index, 3)) (kk : YY p l e R s m args below meth c w xcf 55 A Q nL σ (pc + 3) lv (.ref (w.1 (45 + 1 * (o - 41))) :: rest)) : YY p l e R s m args below meth c w xcf 55 A Q nL σ pc lv (.ref (w.1 o) :: rest) :=
  y_get E (ci := 6) (k := 0) (N := 3) (C := RX6) (T := TX6) (Nat.lt_of_lt_of_le h2 (by decide)) (xc_X6 h1 h2) rfl wu_X6 (by decide) hlink rfl hd kk
theorem gf_X6_1 {p : Program} {l : Launch} {e : Env} {R : Room} {s : State} {m : MethodId} {args : Array Value} {below : List Frame} {meth : Method} {c : Code} {w : wT} {A : Nat → Prop} {Q : State → Prop} {nL : Nat} {σ : Hp} {pc : Nat} {lv : List (Nat × Value)} {st rest : List Value} {cc : ByteArray} {own : String} {r : Option FieldType} (E : YE p m meth c cc nL s args own r w 55 A) {o index : Nat} (h1 : 41 ≤ o) (h2 : o < 45) (hlink : Cond.fieldLink own index "WhereTheSpoonWent$Sheet" "sort" "I" ∈ wG) (hd : decode cc pc = .ok (.getfield index, 3)) (kk : YY p l e R s m args below meth c w xcf 55 A Q nL σ (pc + 3) lv (.int (σ o 1) :: rest)) : YY p l e R s m args below meth c w xcf 55 A Q nL σ pc lv (.ref (w.1 o) :: rest) :=
  y_get E (ci := 6) (k := 1) (N := 3) (C := RX6) (T := TX6) (Nat.lt_of_lt_of_le h2 (by decide)) (xc_X6 h1 h2) rfl wu_X6 (by decide) hlink rfl hd kk
theorem pf_X6_1 {p : Program} {l : Launch} {e : Env} {R : Room} {s : State} {m : MethodId} {args : Array Value} {below : List Frame} {meth : Method} {c : Code} {w : wT} {A : Nat → Prop} {Q : State → Prop} {nL : Nat} {σ : Hp} {pc : Nat} {lv : List (Nat × Value)} {st rest : List Value} {cc : ByteArray} {own : String} {r : Option FieldType} (E : YE p m meth c cc nL s args own r w 55 A) {o index : Nat} {z : Int32} (h1 : 41 ≤ o) (h2 : o < 45) (hlink : Cond.fieldLink own index "WhereTheSpoonWent$Sheet" "sort" "I" ∈ wG) (hd : decode cc pc = .ok (.putfield index, 3)) (kk : YY p l e R s m args below meth c w xcf 55 A Q nL (hup σ o 1 z) (pc + 3) lv rest) : YY p l e R s m args below meth c w xcf 55 A Q nL σ pc lv (.int z :: .ref (w.1 o) :: rest) :=
  y_put E (ci := 6) (k := 1) (N := 3) (C := RX6) (T := TX6) (v := .int z) (ty := .int) (Nat.lt_of_lt_of_le h2 (by decide)) (xc_X6 h1 h2) (by rw [xc_X6 h1 h2]; simp [upd]) rfl wu_X6 tyX6 tyX6_ok nmX6 (by decide) hlink rfl (by decide +kernel) rfl rfl (by simp) hd kk
theorem gf_X6_2 {p : Program} {l : Launch} {e : Env} {R : Room} {s : State} {m : MethodId} {args : Array Value} {below : List Frame} {meth : Method} {c : Code} {w : wT} {A : Nat → Prop} {Q : State → Prop} {nL : Nat} {σ : Hp} {pc : Nat} {lv : List (Nat × Value)} {st rest : List Value} {cc : ByteArray} {own : String} {r : Option FieldType} (E : YE p m meth c cc nL s args own r w 55 A) {o index : Nat} (h1 : 41 ≤ o) (h2 : o < 45) (hlink : Cond.fieldLink own index "WhereTheSpoonWent$Sheet" "size" "I" ∈ wG) (hd : decode cc pc = .ok (.getfield index, 3)) (kk : YY p l e R s m args below meth c w xcf 55 A Q nL σ (pc + 3) lv (.int (σ o 2) :: rest)) : YY p l e R s m args below meth c w xcf 55 A Q nL σ pc lv (.ref (w.1 o) :: rest) :=
  y_get E (ci := 6) (k := 2) (N := 3) (C := RX6) (T := TX6) (Nat.lt_of_lt_of_le h2 (by decide)) (xc_X6 h1 h2) rfl wu_X6 (by decide) hlink rfl hd kk
theorem pf_X6_2 {p : Program} {l : Launch} {e : Env} {R : Room} {s : State} {m : MethodId} {args : Array Value} {below : List Frame} {meth : Method} {c : Code} {w : wT} {A : Nat → Prop} {Q : State → Prop} {nL : Nat} {σ : Hp} {pc : Nat} {lv : List (Nat × Value)} {st rest : List Value} {cc : ByteArray} {own : String} {r : Option FieldType} (E : YE p m meth c cc nL s args own r w 55 A) {o index : Nat} {z : Int32} (h1 : 41 ≤ o) (h2 : o < 45) (hlink : Cond.fieldLink own index "WhereTheSpoonWent$Sheet" "size" "I" ∈ wG) (hd : decode cc pc = .ok (.putfield index, 3)) (kk : YY p l e R s m args below meth c w xcf 55 A Q nL (hup σ o 2 z) (pc + 3) lv rest) : YY p l e R s m args below meth c w xcf 55 A Q nL σ pc lv (.int z :: .ref (w.1 o) :: rest) :=
  y_put E (ci := 6) (k := 2) (N := 3) (C := RX6) (T := TX6) (v := .int z) (ty := .int) (Nat.lt_of_lt_of_le h2 (by decide)) (xc_X6 h1 h2) (by rw [xc_X6 h1 h2]; simp [upd]) rfl wu_X6 tyX6 tyX6_ok nmX6 (by decide) hlink rfl (by decide +kernel) rfl rfl (by simp) hd kk
theorem wu_X1 : ∀ x ∈ u_ws RX1 TX1 8, x ∈ wG := fun x h => by
  obtain ⟨k, hk, rfl⟩ := List.mem_map.mp h
  have hk := List.mem_range.mp hk
  match k, hk with
  | 0, _ => exact wm_39
  | 1, _ => exact wm_40
  | 2, _ => exact wm_41
  | 3, _ => exact wm_42
  | 4, _ => exact wm_43
  | 5, _ => exact wm_44
  | 6, _ => exact wm_45
  | 7, _ => exact wm_46
  | k + 8, hk => exact absurd hk (by omega)
theorem gf_X1_0 {p : Program} {l : Launch} {e : Env} {R : Room} {s : State} {m : MethodId} {args : Array Value} {below : List Frame} {meth : Method} {c : Code} {w : wT} {A : Nat → Prop} {Q : State → Prop} {nL : Nat} {σ : Hp} {pc : Nat} {lv : List (Nat × Value)} {st rest : List Value} {cc : ByteArray} {own : String} {r : Option FieldType} (E : YE p m meth c cc nL s args own r w 55 A) {o index : Nat} (h1 : 49 ≤ o) (h2 : o < 50) (hlink : Cond.fieldLink own index "WhereTheSpoonWent$Flight" "house" "LWhereTheSpoonWent$House;" ∈ wG) (hd : decode cc pc = .ok (.getfield index, 3)) (kk : YY p l e R s m args below meth c w xcf 55 A Q nL σ (pc + 3) lv (.ref (w.1 1) :: rest)) : YY p l e R s m args below meth c w xcf 55 A Q nL σ pc lv (.ref (w.1 o) :: rest) :=
  y_get E (ci := 1) (k := 0) (N := 8) (C := RX1) (T := TX1) (Nat.lt_of_lt_of_le h2 (by decide)) (xc_X1 h1 h2) rfl wu_X1 (by decide) hlink rfl hd kk
theorem gf_X1_1 {p : Program} {l : Launch} {e : Env} {R : Room} {s : State} {m : MethodId} {args : Array Value} {below : List Frame} {meth : Method} {c : Code} {w : wT} {A : Nat → Prop} {Q : State → Prop} {nL : Nat} {σ : Hp} {pc : Nat} {lv : List (Nat × Value)} {st rest : List Value} {cc : ByteArray} {own : String} {r : Option FieldType} (E : YE p m meth c cc nL s args own r w 55 A) {o index : Nat} (h1 : 49 ≤ o) (h2 : o < 50) (hnn : ¬ σ o 1 = 0) (hlink : Cond.fieldLink own index "WhereTheSpoonWent$Flight" "law" "LWhereTheSpoonWent$Text;" ∈ wG) (hd : decode cc pc = .ok (.getfield index, 3)) (kk : YY p l e R s m args below meth c w xcf 55 A Q nL σ (pc + 3) lv (.ref (w.1 ((σ o 1).toNatClampNeg - 1)) :: rest)) : YY p l e R s m args below meth c w xcf 55 A Q nL σ pc lv (.ref (w.1 o) :: rest) :=
  y_get E (ci := 1) (k := 1) (N := 8) (C := RX1) (T := TX1) (Nat.lt_of_lt_of_le h2 (by decide)) (xc_X1 h1 h2) rfl wu_X1 (by decide) hlink (v := .ref (w.1 ((σ o 1).toNatClampNeg - 1))) (congrArg some (if_neg hnn)) hd kk
theorem pf_X1_1 {p : Program} {l : Launch} {e : Env} {R : Room} {s : State} {m : MethodId} {args : Array Value} {below : List Frame} {meth : Method} {c : Code} {w : wT} {A : Nat → Prop} {Q : State → Prop} {nL : Nat} {σ : Hp} {pc : Nat} {lv : List (Nat × Value)} {st rest : List Value} {cc : ByteArray} {own : String} {r : Option FieldType} (E : YE p m meth c cc nL s args own r w 55 A) {o index q : Nat} (h1 : 49 ≤ o) (h2 : o < 50) (hq : q < 1000) (hlink : Cond.fieldLink own index "WhereTheSpoonWent$Flight" "law" "LWhereTheSpoonWent$Text;" ∈ wG) (hd : decode cc pc = .ok (.putfield index, 3)) (kk : YY p l e R s m args below meth c w xcf 55 A Q nL (hup σ o 1 (nI (q + 1))) (pc + 3) lv rest) : YY p l e R s m args below meth c w xcf 55 A Q nL σ pc lv (.ref (w.1 q) :: .ref (w.1 o) :: rest) :=
  y_put E (ci := 1) (k := 1) (N := 8) (C := RX1) (T := TX1) (v := .ref (w.1 q)) (ty := .object "WhereTheSpoonWent$Text") (Nat.lt_of_lt_of_le h2 (by decide)) (xc_X1 h1 h2) (by rw [xc_X1 h1 h2]; simp [upd, rfv_nI hq]) rfl wu_X1 tyX1 tyX1_ok nmX1 (by decide) hlink rfl (by decide +kernel) rfl rfl (by simp) hd kk
theorem gf_X1_2 {p : Program} {l : Launch} {e : Env} {R : Room} {s : State} {m : MethodId} {args : Array Value} {below : List Frame} {meth : Method} {c : Code} {w : wT} {A : Nat → Prop} {Q : State → Prop} {nL : Nat} {σ : Hp} {pc : Nat} {lv : List (Nat × Value)} {st rest : List Value} {cc : ByteArray} {own : String} {r : Option FieldType} (E : YE p m meth c cc nL s args own r w 55 A) {o index : Nat} (h1 : 49 ≤ o) (h2 : o < 50) (hnn : ¬ σ o 2 = 0) (hlink : Cond.fieldLink own index "WhereTheSpoonWent$Flight" "kind" "LWhereTheSpoonWent$Thing;" ∈ wG) (hd : decode cc pc = .ok (.getfield index, 3)) (kk : YY p l e R s m args below meth c w xcf 55 A Q nL σ (pc + 3) lv (.ref (w.1 ((σ o 2).toNatClampNeg - 1)) :: rest)) : YY p l e R s m args below meth c w xcf 55 A Q nL σ pc lv (.ref (w.1 o) :: rest) :=
  y_get E (ci := 1) (k := 2) (N := 8) (C := RX1) (T := TX1) (Nat.lt_of_lt_of_le h2 (by decide)) (xc_X1 h1 h2) rfl wu_X1 (by decide) hlink (v := .ref (w.1 ((σ o 2).toNatClampNeg - 1))) (congrArg some (if_neg hnn)) hd kk
theorem pf_X1_2 {p : Program} {l : Launch} {e : Env} {R : Room} {s : State} {m : MethodId} {args : Array Value} {below : List Frame} {meth : Method} {c : Code} {w : wT} {A : Nat → Prop} {Q : State → Prop} {nL : Nat} {σ : Hp} {pc : Nat} {lv : List (Nat × Value)} {st rest : List Value} {cc : ByteArray} {own : String} {r : Option FieldType} (E : YE p m meth c cc nL s args own r w 55 A) {o index q : Nat} (h1 : 49 ≤ o) (h2 : o < 50) (hq : q < 1000) (hlink : Cond.fieldLink own index "WhereTheSpoonWent$Flight" "kind" "LWhereTheSpoonWent$Thing;" ∈ wG) (hd : decode cc pc = .ok (.putfield index, 3)) (kk : YY p l e R s m args below meth c w xcf 55 A Q nL (hup σ o 2 (nI (q + 1))) (pc + 3) lv rest) : YY p l e R s m args below meth c w xcf 55 A Q nL σ pc lv (.ref (w.1 q) :: .ref (w.1 o) :: rest) :=
  y_put E (ci := 1) (k := 2) (N := 8) (C := RX1) (T := TX1) (v := .ref (w.1 q)) (ty := .object "WhereTheSpoonWent$Thing") (Nat.lt_of_lt_of_le h2 (by decide)) (xc_X1 h1 h2) (by rw [xc_X1 h1 h2]; simp [upd, rfv_nI hq]) rfl wu_X1 tyX1 tyX1_ok nmX1 (by decide) hlink rfl (by decide +kernel) rfl rfl (by simp) hd kk
theorem gf_X1_3 {p : Program} {l : Launch} {e : Env} {R : Room} {s : State} {m : MethodId} {args : Array Value} {below : List Frame} {meth : Method} {c : Code} {w : wT} {A : Nat → Prop} {Q : State → Prop} {nL : Nat} {σ : Hp} {pc : Nat} {lv : List (Nat × Value)} {st rest : List Value} {cc : ByteArray} {own : String} {r : Option FieldType} (E : YE p m meth c cc nL s args own r w 55 A) {o index : Nat} (h1 : 49 ≤ o) (h2 : o < 50) (hlink : Cond.fieldLink own index "WhereTheSpoonWent$Flight" "nets" "I" ∈ wG) (hd : decode cc pc = .ok (.getfield index, 3)) (kk : YY p l e R s m args below meth c w xcf 55 A Q nL σ (pc + 3) lv (.int (σ o 3) :: rest)) : YY p l e R s m args below meth c w xcf 55 A Q nL σ pc lv (.ref (w.1 o) :: rest) :=
  y_get E (ci := 1) (k := 3) (N := 8) (C := RX1) (T := TX1) (Nat.lt_of_lt_of_le h2 (by decide)) (xc_X1 h1 h2) rfl wu_X1 (by decide) hlink rfl hd kk
theorem pf_X1_3 {p : Program} {l : Launch} {e : Env} {R : Room} {s : State} {m : MethodId} {args : Array Value} {below : List Frame} {meth : Method} {c : Code} {w : wT} {A : Nat → Prop} {Q : State → Prop} {nL : Nat} {σ : Hp} {pc : Nat} {lv : List (Nat × Value)} {st rest : List Value} {cc : ByteArray} {own : String} {r : Option FieldType} (E : YE p m meth c cc nL s args own r w 55 A) {o index : Nat} {z : Int32} (h1 : 49 ≤ o) (h2 : o < 50) (hlink : Cond.fieldLink own index "WhereTheSpoonWent$Flight" "nets" "I" ∈ wG) (hd : decode cc pc = .ok (.putfield index, 3)) (kk : YY p l e R s m args below meth c w xcf 55 A Q nL (hup σ o 3 z) (pc + 3) lv rest) : YY p l e R s m args below meth c w xcf 55 A Q nL σ pc lv (.int z :: .ref (w.1 o) :: rest) :=
  y_put E (ci := 1) (k := 3) (N := 8) (C := RX1) (T := TX1) (v := .int z) (ty := .int) (Nat.lt_of_lt_of_le h2 (by decide)) (xc_X1 h1 h2) (by rw [xc_X1 h1 h2]; simp [upd]) rfl wu_X1 tyX1 tyX1_ok nmX1 (by decide) hlink rfl (by decide +kernel) rfl rfl (by simp) hd kk
theorem gf_X1_4 {p : Program} {l : Launch} {e : Env} {R : Room} {s : State} {m : MethodId} {args : Array Value} {below : List Frame} {meth : Method} {c : Code} {w : wT} {A : Nat → Prop} {Q : State → Prop} {nL : Nat} {σ : Hp} {pc : Nat} {lv : List (Nat × Value)} {st rest : List Value} {cc : ByteArray} {own : String} {r : Option FieldType} (E : YE p m meth c cc nL s args own r w 55 A) {o index : Nat} (h1 : 49 ≤ o) (h2 : o < 50) (hlink : Cond.fieldLink own index "WhereTheSpoonWent$Flight" "number" "I" ∈ wG) (hd : decode cc pc = .ok (.getfield index, 3)) (kk : YY p l e R s m args below meth c w xcf 55 A Q nL σ (pc + 3) lv (.int (σ o 4) :: rest)) : YY p l e R s m args below meth c w xcf 55 A Q nL σ pc lv (.ref (w.1 o) :: rest) :=
  y_get E (ci := 1) (k := 4) (N := 8) (C := RX1) (T := TX1) (Nat.lt_of_lt_of_le h2 (by decide)) (xc_X1 h1 h2) rfl wu_X1 (by decide) hlink rfl hd kk
theorem pf_X1_4 {p : Program} {l : Launch} {e : Env} {R : Room} {s : State} {m : MethodId} {args : Array Value} {below : List Frame} {meth : Method} {c : Code} {w : wT} {A : Nat → Prop} {Q : State → Prop} {nL : Nat} {σ : Hp} {pc : Nat} {lv : List (Nat × Value)} {st rest : List Value} {cc : ByteArray} {own : String} {r : Option FieldType} (E : YE p m meth c cc nL s args own r w 55 A) {o index : Nat} {z : Int32} (h1 : 49 ≤ o) (h2 : o < 50) (hlink : Cond.fieldLink own index "WhereTheSpoonWent$Flight" "number" "I" ∈ wG) (hd : decode cc pc = .ok (.putfield index, 3)) (kk : YY p l e R s m args below meth c w xcf 55 A Q nL (hup σ o 4 z) (pc + 3) lv rest) : YY p l e R s m args below meth c w xcf 55 A Q nL σ pc lv (.int z :: .ref (w.1 o) :: rest) :=
  y_put E (ci := 1) (k := 4) (N := 8) (C := RX1) (T := TX1) (v := .int z) (ty := .int) (Nat.lt_of_lt_of_le h2 (by decide)) (xc_X1 h1 h2) (by rw [xc_X1 h1 h2]; simp [upd]) rfl wu_X1 tyX1 tyX1_ok nmX1 (by decide) hlink rfl (by decide +kernel) rfl rfl (by simp) hd kk
theorem gf_X1_5 {p : Program} {l : Launch} {e : Env} {R : Room} {s : State} {m : MethodId} {args : Array Value} {below : List Frame} {meth : Method} {c : Code} {w : wT} {A : Nat → Prop} {Q : State → Prop} {nL : Nat} {σ : Hp} {pc : Nat} {lv : List (Nat × Value)} {st rest : List Value} {cc : ByteArray} {own : String} {r : Option FieldType} (E : YE p m meth c cc nL s args own r w 55 A) {o index : Nat} (h1 : 49 ≤ o) (h2 : o < 50) (hlink : Cond.fieldLink own index "WhereTheSpoonWent$Flight" "more" "I" ∈ wG) (hd : decode cc pc = .ok (.getfield index, 3)) (kk : YY p l e R s m args below meth c w xcf 55 A Q nL σ (pc + 3) lv (.int (σ o 5) :: rest)) : YY p l e R s m args below meth c w xcf 55 A Q nL σ pc lv (.ref (w.1 o) :: rest) :=
  y_get E (ci := 1) (k := 5) (N := 8) (C := RX1) (T := TX1) (Nat.lt_of_lt_of_le h2 (by decide)) (xc_X1 h1 h2) rfl wu_X1 (by decide) hlink rfl hd kk
theorem pf_X1_5 {p : Program} {l : Launch} {e : Env} {R : Room} {s : State} {m : MethodId} {args : Array Value} {below : List Frame} {meth : Method} {c : Code} {w : wT} {A : Nat → Prop} {Q : State → Prop} {nL : Nat} {σ : Hp} {pc : Nat} {lv : List (Nat × Value)} {st rest : List Value} {cc : ByteArray} {own : String} {r : Option FieldType} (E : YE p m meth c cc nL s args own r w 55 A) {o index : Nat} {z : Int32} (h1 : 49 ≤ o) (h2 : o < 50) (hlink : Cond.fieldLink own index "WhereTheSpoonWent$Flight" "more" "I" ∈ wG) (hd : decode cc pc = .ok (.putfield index, 3)) (kk : YY p l e R s m args below meth c w xcf 55 A Q nL (hup σ o 5 z) (pc + 3) lv rest) : YY p l e R s m args below meth c w xcf 55 A Q nL σ pc lv (.int z :: .ref (w.1 o) :: rest) :=
  y_put E (ci := 1) (k := 5) (N := 8) (C := RX1) (T := TX1) (v := .int z) (ty := .int) (Nat.lt_of_lt_of_le h2 (by decide)) (xc_X1 h1 h2) (by rw [xc_X1 h1 h2]; simp [upd]) rfl wu_X1 tyX1 tyX1_ok nmX1 (by decide) hlink rfl (by decide +kernel) rfl rfl (by simp) hd kk
theorem gf_X1_6 {p : Program} {l : Launch} {e : Env} {R : Room} {s : State} {m : MethodId} {args : Array Value} {below : List Frame} {meth : Method} {c : Code} {w : wT} {A : Nat → Prop} {Q : State → Prop} {nL : Nat} {σ : Hp} {pc : Nat} {lv : List (Nat × Value)} {st rest : List Value} {cc : ByteArray} {own : String} {r : Option FieldType} (E : YE p m meth c cc nL s args own r w 55 A) {o index : Nat} (h1 : 49 ≤ o) (h2 : o < 50) (hlink : Cond.fieldLink own index "WhereTheSpoonWent$Flight" "cell" "I" ∈ wG) (hd : decode cc pc = .ok (.getfield index, 3)) (kk : YY p l e R s m args below meth c w xcf 55 A Q nL σ (pc + 3) lv (.int (σ o 6) :: rest)) : YY p l e R s m args below meth c w xcf 55 A Q nL σ pc lv (.ref (w.1 o) :: rest) :=
  y_get E (ci := 1) (k := 6) (N := 8) (C := RX1) (T := TX1) (Nat.lt_of_lt_of_le h2 (by decide)) (xc_X1 h1 h2) rfl wu_X1 (by decide) hlink rfl hd kk
theorem pf_X1_6 {p : Program} {l : Launch} {e : Env} {R : Room} {s : State} {m : MethodId} {args : Array Value} {below : List Frame} {meth : Method} {c : Code} {w : wT} {A : Nat → Prop} {Q : State → Prop} {nL : Nat} {σ : Hp} {pc : Nat} {lv : List (Nat × Value)} {st rest : List Value} {cc : ByteArray} {own : String} {r : Option FieldType} (E : YE p m meth c cc nL s args own r w 55 A) {o index : Nat} {z : Int32} (h1 : 49 ≤ o) (h2 : o < 50) (hlink : Cond.fieldLink own index "WhereTheSpoonWent$Flight" "cell" "I" ∈ wG) (hd : decode cc pc = .ok (.putfield index, 3)) (kk : YY p l e R s m args below meth c w xcf 55 A Q nL (hup σ o 6 z) (pc + 3) lv rest) : YY p l e R s m args below meth c w xcf 55 A Q nL σ pc lv (.int z :: .ref (w.1 o) :: rest) :=
  y_put E (ci := 1) (k := 6) (N := 8) (C := RX1) (T := TX1) (v := .int z) (ty := .int) (Nat.lt_of_lt_of_le h2 (by decide)) (xc_X1 h1 h2) (by rw [xc_X1 h1 h2]; simp [upd]) rfl wu_X1 tyX1 tyX1_ok nmX1 (by decide) hlink rfl (by decide +kernel) rfl rfl (by simp) hd kk
theorem gf_X1_7 {p : Program} {l : Launch} {e : Env} {R : Room} {s : State} {m : MethodId} {args : Array Value} {below : List Frame} {meth : Method} {c : Code} {w : wT} {A : Nat → Prop} {Q : State → Prop} {nL : Nat} {σ : Hp} {pc : Nat} {lv : List (Nat × Value)} {st rest : List Value} {cc : ByteArray} {own : String} {r : Option FieldType} (E : YE p m meth c cc nL s args own r w 55 A) {o index : Nat} (h1 : 49 ≤ o) (h2 : o < 50) (hlink : Cond.fieldLink own index "WhereTheSpoonWent$Flight" "way" "I" ∈ wG) (hd : decode cc pc = .ok (.getfield index, 3)) (kk : YY p l e R s m args below meth c w xcf 55 A Q nL σ (pc + 3) lv (.int (σ o 7) :: rest)) : YY p l e R s m args below meth c w xcf 55 A Q nL σ pc lv (.ref (w.1 o) :: rest) :=
  y_get E (ci := 1) (k := 7) (N := 8) (C := RX1) (T := TX1) (Nat.lt_of_lt_of_le h2 (by decide)) (xc_X1 h1 h2) rfl wu_X1 (by decide) hlink rfl hd kk
theorem pf_X1_7 {p : Program} {l : Launch} {e : Env} {R : Room} {s : State} {m : MethodId} {args : Array Value} {below : List Frame} {meth : Method} {c : Code} {w : wT} {A : Nat → Prop} {Q : State → Prop} {nL : Nat} {σ : Hp} {pc : Nat} {lv : List (Nat × Value)} {st rest : List Value} {cc : ByteArray} {own : String} {r : Option FieldType} (E : YE p m meth c cc nL s args own r w 55 A) {o index : Nat} {z : Int32} (h1 : 49 ≤ o) (h2 : o < 50) (hlink : Cond.fieldLink own index "WhereTheSpoonWent$Flight" "way" "I" ∈ wG) (hd : decode cc pc = .ok (.putfield index, 3)) (kk : YY p l e R s m args below meth c w xcf 55 A Q nL (hup σ o 7 z) (pc + 3) lv rest) : YY p l e R s m args below meth c w xcf 55 A Q nL σ pc lv (.int z :: .ref (w.1 o) :: rest) :=
  y_put E (ci := 1) (k := 7) (N := 8) (C := RX1) (T := TX1) (v := .int z) (ty := .int) (Nat.lt_of_lt_of_le h2 (by decide)) (xc_X1 h1 h2) (by rw [xc_X1 h1 h2]; simp [upd]) rfl wu_X1 tyX1 tyX1_ok nmX1 (by decide) hlink rfl (by decide +kernel) rfl rfl (by simp) hd kk
theorem wu_X12 : ∀ x ∈ u_ws RX12 TX12 36, x ∈ wG := fun x h => by
  obtain ⟨k, hk, rfl⟩ := List.mem_map.mp h
  have hk := List.mem_range.mp hk
  match k, hk with
  | 0, _ => exact wm_47
  | 1, _ => exact wm_48
  | 2, _ => exact wm_49
  | 3, _ => exact wm_50
  | 4, _ => exact wm_51
  | 5, _ => exact wm_52
  | 6, _ => exact wm_53
  | 7, _ => exact wm_54
  | 8, _ => exact wm_55
  | 9, _ => exact wm_56
  | 10, _ => exact wm_57
  | 11, _ => exact wm_58
  | 12, _ => exact wm_59
  | 13, _ => exact wm_60
  | 14, _ => exact wm_61
  | 15, _ => exact wm_62
  | 16, _ => exact wm_63
  | 17, _ => exact wm_64
  | 18, _ => exact wm_65
  | 19, _ => exact wm_66
  | 20, _ => exact wm_67
  | 21, _ => exact wm_68
  | 22, _ => exact wm_69
  | 23, _ => exact wm_70
  | 24, _ => exact wm_71
  | 25, _ => exact wm_72
  | 26, _ => exact wm_73
  | 27, _ => exact wm_74
  | 28, _ => exact wm_75
  | 29, _ => exact wm_76
  | 30, _ => exact wm_77
  | 31, _ => exact wm_78
  | 32, _ => exact wm_79
  | 33, _ => exact wm_80
  | 34, _ => exact wm_81
  | 35, _ => exact wm_82
  | k + 36, hk => exact absurd hk (by omega)
theorem gf_X12_0 {p : Program} {l : Launch} {e : Env} {R : Room} {s : State} {m : MethodId} {args : Array Value} {below : List Frame} {meth : Method} {c : Code} {w : wT} {A : Nat → Prop} {Q : State → Prop} {nL : Nat} {σ : Hp} {pc : Nat} {lv : List (Nat × Value)} {st rest : List Value} {cc : ByteArray} {own : String} {r : Option FieldType} (E : YE p m meth c cc nL s args own r w 20 A) {o index : Nat} (h1 : 0 ≤ o) (h2 : o < 1) (hlink : Cond.fieldLink own index "WhereTheSpoonWentModel" "sets" "[I" ∈ wG) (hd : decode cc pc = .ok (.getfield index, 3)) (kk : YY p l e R s m args below meth c w mcf 20 A Q nL σ (pc + 3) lv (.ref (w.1 1) :: rest)) : YY p l e R s m args below meth c w mcf 20 A Q nL σ pc lv (.ref (w.1 o) :: rest) :=
  y_get E (ci := 12) (k := 0) (N := 36) (C := RX12) (T := TX12) (Nat.lt_of_lt_of_le h2 (by decide)) (mc_X12 h1 h2) rfl wu_X12 (by decide) hlink rfl hd kk
theorem gf_X12_1 {p : Program} {l : Launch} {e : Env} {R : Room} {s : State} {m : MethodId} {args : Array Value} {below : List Frame} {meth : Method} {c : Code} {w : wT} {A : Nat → Prop} {Q : State → Prop} {nL : Nat} {σ : Hp} {pc : Nat} {lv : List (Nat × Value)} {st rest : List Value} {cc : ByteArray} {own : String} {r : Option FieldType} (E : YE p m meth c cc nL s args own r w 20 A) {o index : Nat} (h1 : 0 ≤ o) (h2 : o < 1) (hlink : Cond.fieldLink own index "WhereTheSpoonWentModel" "step" "I" ∈ wG) (hd : decode cc pc = .ok (.getfield index, 3)) (kk : YY p l e R s m args below meth c w mcf 20 A Q nL σ (pc + 3) lv (.int (σ o 1) :: rest)) : YY p l e R s m args below meth c w mcf 20 A Q nL σ pc lv (.ref (w.1 o) :: rest) :=
  y_get E (ci := 12) (k := 1) (N := 36) (C := RX12) (T := TX12) (Nat.lt_of_lt_of_le h2 (by decide)) (mc_X12 h1 h2) rfl wu_X12 (by decide) hlink rfl hd kk
theorem pf_X12_1 {p : Program} {l : Launch} {e : Env} {R : Room} {s : State} {m : MethodId} {args : Array Value} {below : List Frame} {meth : Method} {c : Code} {w : wT} {A : Nat → Prop} {Q : State → Prop} {nL : Nat} {σ : Hp} {pc : Nat} {lv : List (Nat × Value)} {st rest : List Value} {cc : ByteArray} {own : String} {r : Option FieldType} (E : YE p m meth c cc nL s args own r w 20 A) {o index : Nat} {z : Int32} (h1 : 0 ≤ o) (h2 : o < 1) (hlink : Cond.fieldLink own index "WhereTheSpoonWentModel" "step" "I" ∈ wG) (hd : decode cc pc = .ok (.putfield index, 3)) (kk : YY p l e R s m args below meth c w mcf 20 A Q nL (hup σ o 1 z) (pc + 3) lv rest) : YY p l e R s m args below meth c w mcf 20 A Q nL σ pc lv (.int z :: .ref (w.1 o) :: rest) :=
  y_put E (ci := 12) (k := 1) (N := 36) (C := RX12) (T := TX12) (v := .int z) (ty := .int) (Nat.lt_of_lt_of_le h2 (by decide)) (mc_X12 h1 h2) (by rw [mc_X12 h1 h2]; simp [upd]) rfl wu_X12 tyX12 tyX12_ok nmX12 (by decide) hlink rfl (by decide +kernel) rfl rfl (by simp) hd kk
theorem gf_X12_2 {p : Program} {l : Launch} {e : Env} {R : Room} {s : State} {m : MethodId} {args : Array Value} {below : List Frame} {meth : Method} {c : Code} {w : wT} {A : Nat → Prop} {Q : State → Prop} {nL : Nat} {σ : Hp} {pc : Nat} {lv : List (Nat × Value)} {st rest : List Value} {cc : ByteArray} {own : String} {r : Option FieldType} (E : YE p m meth c cc nL s args own r w 20 A) {o index : Nat} (h1 : 0 ≤ o) (h2 : o < 1) (hlink : Cond.fieldLink own index "WhereTheSpoonWentModel" "things" "I" ∈ wG) (hd : decode cc pc = .ok (.getfield index, 3)) (kk : YY p l e R s m args below meth c w mcf 20 A Q nL σ (pc + 3) lv (.int (σ o 2) :: rest)) : YY p l e R s m args below meth c w mcf 20 A Q nL σ pc lv (.ref (w.1 o) :: rest) :=
  y_get E (ci := 12) (k := 2) (N := 36) (C := RX12) (T := TX12) (Nat.lt_of_lt_of_le h2 (by decide)) (mc_X12 h1 h2) rfl wu_X12 (by decide) hlink rfl hd kk
theorem pf_X12_2 {p : Program} {l : Launch} {e : Env} {R : Room} {s : State} {m : MethodId} {args : Array Value} {below : List Frame} {meth : Method} {c : Code} {w : wT} {A : Nat → Prop} {Q : State → Prop} {nL : Nat} {σ : Hp} {pc : Nat} {lv : List (Nat × Value)} {st rest : List Value} {cc : ByteArray} {own : String} {r : Option FieldType} (E : YE p m meth c cc nL s args own r w 20 A) {o index : Nat} {z : Int32} (h1 : 0 ≤ o) (h2 : o < 1) (hlink : Cond.fieldLink own index "WhereTheSpoonWentModel" "things" "I" ∈ wG) (hd : decode cc pc = .ok (.putfield index, 3)) (kk : YY p l e R s m args below meth c w mcf 20 A Q nL (hup σ o 2 z) (pc + 3) lv rest) : YY p l e R s m args below meth c w mcf 20 A Q nL σ pc lv (.int z :: .ref (w.1 o) :: rest) :=
  y_put E (ci := 12) (k := 2) (N := 36) (C := RX12) (T := TX12) (v := .int z) (ty := .int) (Nat.lt_of_lt_of_le h2 (by decide)) (mc_X12 h1 h2) (by rw [mc_X12 h1 h2]; simp [upd]) rfl wu_X12 tyX12 tyX12_ok nmX12 (by decide) hlink rfl (by decide +kernel) rfl rfl (by simp) hd kk
theorem gf_X12_3 {p : Program} {l : Launch} {e : Env} {R : Room} {s : State} {m : MethodId} {args : Array Value} {below : List Frame} {meth : Method} {c : Code} {w : wT} {A : Nat → Prop} {Q : State → Prop} {nL : Nat} {σ : Hp} {pc : Nat} {lv : List (Nat × Value)} {st rest : List Value} {cc : ByteArray} {own : String} {r : Option FieldType} (E : YE p m meth c cc nL s args own r w 20 A) {o index : Nat} (h1 : 0 ≤ o) (h2 : o < 1) (hlink : Cond.fieldLink own index "WhereTheSpoonWentModel" "kind" "[I" ∈ wG) (hd : decode cc pc = .ok (.getfield index, 3)) (kk : YY p l e R s m args below meth c w mcf 20 A Q nL σ (pc + 3) lv (.ref (w.1 2) :: rest)) : YY p l e R s m args below meth c w mcf 20 A Q nL σ pc lv (.ref (w.1 o) :: rest) :=
  y_get E (ci := 12) (k := 3) (N := 36) (C := RX12) (T := TX12) (Nat.lt_of_lt_of_le h2 (by decide)) (mc_X12 h1 h2) rfl wu_X12 (by decide) hlink rfl hd kk
theorem gf_X12_4 {p : Program} {l : Launch} {e : Env} {R : Room} {s : State} {m : MethodId} {args : Array Value} {below : List Frame} {meth : Method} {c : Code} {w : wT} {A : Nat → Prop} {Q : State → Prop} {nL : Nat} {σ : Hp} {pc : Nat} {lv : List (Nat × Value)} {st rest : List Value} {cc : ByteArray} {own : String} {r : Option FieldType} (E : YE p m meth c cc nL s args own r w 20 A) {o index : Nat} (h1 : 0 ≤ o) (h2 : o < 1) (hlink : Cond.fieldLink own index "WhereTheSpoonWentModel" "moreOf" "[I" ∈ wG) (hd : decode cc pc = .ok (.getfield index, 3)) (kk : YY p l e R s m args below meth c w mcf 20 A Q nL σ (pc + 3) lv (.ref (w.1 3) :: rest)) : YY p l e R s m args below meth c w mcf 20 A Q nL σ pc lv (.ref (w.1 o) :: rest) :=
  y_get E (ci := 12) (k := 4) (N := 36) (C := RX12) (T := TX12) (Nat.lt_of_lt_of_le h2 (by decide)) (mc_X12 h1 h2) rfl wu_X12 (by decide) hlink rfl hd kk
theorem gf_X12_5 {p : Program} {l : Launch} {e : Env} {R : Room} {s : State} {m : MethodId} {args : Array Value} {below : List Frame} {meth : Method} {c : Code} {w : wT} {A : Nat → Prop} {Q : State → Prop} {nL : Nat} {σ : Hp} {pc : Nat} {lv : List (Nat × Value)} {st rest : List Value} {cc : ByteArray} {own : String} {r : Option FieldType} (E : YE p m meth c cc nL s args own r w 20 A) {o index : Nat} (h1 : 0 ≤ o) (h2 : o < 1) (hlink : Cond.fieldLink own index "WhereTheSpoonWentModel" "cellOf" "[I" ∈ wG) (hd : decode cc pc = .ok (.getfield index, 3)) (kk : YY p l e R s m args below meth c w mcf 20 A Q nL σ (pc + 3) lv (.ref (w.1 4) :: rest)) : YY p l e R s m args below meth c w mcf 20 A Q nL σ pc lv (.ref (w.1 o) :: rest) :=
  y_get E (ci := 12) (k := 5) (N := 36) (C := RX12) (T := TX12) (Nat.lt_of_lt_of_le h2 (by decide)) (mc_X12 h1 h2) rfl wu_X12 (by decide) hlink rfl hd kk
theorem gf_X12_6 {p : Program} {l : Launch} {e : Env} {R : Room} {s : State} {m : MethodId} {args : Array Value} {below : List Frame} {meth : Method} {c : Code} {w : wT} {A : Nat → Prop} {Q : State → Prop} {nL : Nat} {σ : Hp} {pc : Nat} {lv : List (Nat × Value)} {st rest : List Value} {cc : ByteArray} {own : String} {r : Option FieldType} (E : YE p m meth c cc nL s args own r w 20 A) {o index : Nat} (h1 : 0 ≤ o) (h2 : o < 1) (hlink : Cond.fieldLink own index "WhereTheSpoonWentModel" "wayOf" "[I" ∈ wG) (hd : decode cc pc = .ok (.getfield index, 3)) (kk : YY p l e R s m args below meth c w mcf 20 A Q nL σ (pc + 3) lv (.ref (w.1 5) :: rest)) : YY p l e R s m args below meth c w mcf 20 A Q nL σ pc lv (.ref (w.1 o) :: rest) :=
  y_get E (ci := 12) (k := 6) (N := 36) (C := RX12) (T := TX12) (Nat.lt_of_lt_of_le h2 (by decide)) (mc_X12 h1 h2) rfl wu_X12 (by decide) hlink rfl hd kk
theorem gf_X12_7 {p : Program} {l : Launch} {e : Env} {R : Room} {s : State} {m : MethodId} {args : Array Value} {below : List Frame} {meth : Method} {c : Code} {w : wT} {A : Nat → Prop} {Q : State → Prop} {nL : Nat} {σ : Hp} {pc : Nat} {lv : List (Nat × Value)} {st rest : List Value} {cc : ByteArray} {own : String} {r : Option FieldType} (E : YE p m meth c cc nL s args own r w 20 A) {o index : Nat} (h1 : 0 ≤ o) (h2 : o < 1) (hlink : Cond.fieldLink own index "WhereTheSpoonWentModel" "tape" "[I" ∈ wG) (hd : decode cc pc = .ok (.getfield index, 3)) (kk : YY p l e R s m args below meth c w mcf 20 A Q nL σ (pc + 3) lv (.ref (w.1 6) :: rest)) : YY p l e R s m args below meth c w mcf 20 A Q nL σ pc lv (.ref (w.1 o) :: rest) :=
  y_get E (ci := 12) (k := 7) (N := 36) (C := RX12) (T := TX12) (Nat.lt_of_lt_of_le h2 (by decide)) (mc_X12 h1 h2) rfl wu_X12 (by decide) hlink rfl hd kk
theorem gf_X12_8 {p : Program} {l : Launch} {e : Env} {R : Room} {s : State} {m : MethodId} {args : Array Value} {below : List Frame} {meth : Method} {c : Code} {w : wT} {A : Nat → Prop} {Q : State → Prop} {nL : Nat} {σ : Hp} {pc : Nat} {lv : List (Nat × Value)} {st rest : List Value} {cc : ByteArray} {own : String} {r : Option FieldType} (E : YE p m meth c cc nL s args own r w 20 A) {o index : Nat} (h1 : 0 ≤ o) (h2 : o < 1) (hlink : Cond.fieldLink own index "WhereTheSpoonWentModel" "taped" "I" ∈ wG) (hd : decode cc pc = .ok (.getfield index, 3)) (kk : YY p l e R s m args below meth c w mcf 20 A Q nL σ (pc + 3) lv (.int (σ o 8) :: rest)) : YY p l e R s m args below meth c w mcf 20 A Q nL σ pc lv (.ref (w.1 o) :: rest) :=
  y_get E (ci := 12) (k := 8) (N := 36) (C := RX12) (T := TX12) (Nat.lt_of_lt_of_le h2 (by decide)) (mc_X12 h1 h2) rfl wu_X12 (by decide) hlink rfl hd kk
theorem pf_X12_8 {p : Program} {l : Launch} {e : Env} {R : Room} {s : State} {m : MethodId} {args : Array Value} {below : List Frame} {meth : Method} {c : Code} {w : wT} {A : Nat → Prop} {Q : State → Prop} {nL : Nat} {σ : Hp} {pc : Nat} {lv : List (Nat × Value)} {st rest : List Value} {cc : ByteArray} {own : String} {r : Option FieldType} (E : YE p m meth c cc nL s args own r w 20 A) {o index : Nat} {z : Int32} (h1 : 0 ≤ o) (h2 : o < 1) (hlink : Cond.fieldLink own index "WhereTheSpoonWentModel" "taped" "I" ∈ wG) (hd : decode cc pc = .ok (.putfield index, 3)) (kk : YY p l e R s m args below meth c w mcf 20 A Q nL (hup σ o 8 z) (pc + 3) lv rest) : YY p l e R s m args below meth c w mcf 20 A Q nL σ pc lv (.int z :: .ref (w.1 o) :: rest) :=
  y_put E (ci := 12) (k := 8) (N := 36) (C := RX12) (T := TX12) (v := .int z) (ty := .int) (Nat.lt_of_lt_of_le h2 (by decide)) (mc_X12 h1 h2) (by rw [mc_X12 h1 h2]; simp [upd]) rfl wu_X12 tyX12 tyX12_ok nmX12 (by decide) hlink rfl (by decide +kernel) rfl rfl (by simp) hd kk
theorem gf_X12_9 {p : Program} {l : Launch} {e : Env} {R : Room} {s : State} {m : MethodId} {args : Array Value} {below : List Frame} {meth : Method} {c : Code} {w : wT} {A : Nat → Prop} {Q : State → Prop} {nL : Nat} {σ : Hp} {pc : Nat} {lv : List (Nat × Value)} {st rest : List Value} {cc : ByteArray} {own : String} {r : Option FieldType} (E : YE p m meth c cc nL s args own r w 20 A) {o index : Nat} (h1 : 0 ≤ o) (h2 : o < 1) (hlink : Cond.fieldLink own index "WhereTheSpoonWentModel" "codes" "[I" ∈ wG) (hd : decode cc pc = .ok (.getfield index, 3)) (kk : YY p l e R s m args below meth c w mcf 20 A Q nL σ (pc + 3) lv (.ref (w.1 7) :: rest)) : YY p l e R s m args below meth c w mcf 20 A Q nL σ pc lv (.ref (w.1 o) :: rest) :=
  y_get E (ci := 12) (k := 9) (N := 36) (C := RX12) (T := TX12) (Nat.lt_of_lt_of_le h2 (by decide)) (mc_X12 h1 h2) rfl wu_X12 (by decide) hlink rfl hd kk
theorem gf_X12_10 {p : Program} {l : Launch} {e : Env} {R : Room} {s : State} {m : MethodId} {args : Array Value} {below : List Frame} {meth : Method} {c : Code} {w : wT} {A : Nat → Prop} {Q : State → Prop} {nL : Nat} {σ : Hp} {pc : Nat} {lv : List (Nat × Value)} {st rest : List Value} {cc : ByteArray} {own : String} {r : Option FieldType} (E : YE p m meth c cc nL s args own r w 20 A) {o index : Nat} (h1 : 0 ≤ o) (h2 : o < 1) (hlink : Cond.fieldLink own index "WhereTheSpoonWentModel" "starts" "[I" ∈ wG) (hd : decode cc pc = .ok (.getfield index, 3)) (kk : YY p l e R s m args below meth c w mcf 20 A Q nL σ (pc + 3) lv (.ref (w.1 8) :: rest)) : YY p l e R s m args below meth c w mcf 20 A Q nL σ pc lv (.ref (w.1 o) :: rest) :=
  y_get E (ci := 12) (k := 10) (N := 36) (C := RX12) (T := TX12) (Nat.lt_of_lt_of_le h2 (by decide)) (mc_X12 h1 h2) rfl wu_X12 (by decide) hlink rfl hd kk
theorem gf_X12_11 {p : Program} {l : Launch} {e : Env} {R : Room} {s : State} {m : MethodId} {args : Array Value} {below : List Frame} {meth : Method} {c : Code} {w : wT} {A : Nat → Prop} {Q : State → Prop} {nL : Nat} {σ : Hp} {pc : Nat} {lv : List (Nat × Value)} {st rest : List Value} {cc : ByteArray} {own : String} {r : Option FieldType} (E : YE p m meth c cc nL s args own r w 20 A) {o index : Nat} (h1 : 0 ≤ o) (h2 : o < 1) (hlink : Cond.fieldLink own index "WhereTheSpoonWentModel" "texts" "I" ∈ wG) (hd : decode cc pc = .ok (.getfield index, 3)) (kk : YY p l e R s m args below meth c w mcf 20 A Q nL σ (pc + 3) lv (.int (σ o 11) :: rest)) : YY p l e R s m args below meth c w mcf 20 A Q nL σ pc lv (.ref (w.1 o) :: rest) :=
  y_get E (ci := 12) (k := 11) (N := 36) (C := RX12) (T := TX12) (Nat.lt_of_lt_of_le h2 (by decide)) (mc_X12 h1 h2) rfl wu_X12 (by decide) hlink rfl hd kk
theorem pf_X12_11 {p : Program} {l : Launch} {e : Env} {R : Room} {s : State} {m : MethodId} {args : Array Value} {below : List Frame} {meth : Method} {c : Code} {w : wT} {A : Nat → Prop} {Q : State → Prop} {nL : Nat} {σ : Hp} {pc : Nat} {lv : List (Nat × Value)} {st rest : List Value} {cc : ByteArray} {own : String} {r : Option FieldType} (E : YE p m meth c cc nL s args own r w 20 A) {o index : Nat} {z : Int32} (h1 : 0 ≤ o) (h2 : o < 1) (hlink : Cond.fieldLink own index "WhereTheSpoonWentModel" "texts" "I" ∈ wG) (hd : decode cc pc = .ok (.putfield index, 3)) (kk : YY p l e R s m args below meth c w mcf 20 A Q nL (hup σ o 11 z) (pc + 3) lv rest) : YY p l e R s m args below meth c w mcf 20 A Q nL σ pc lv (.int z :: .ref (w.1 o) :: rest) :=
  y_put E (ci := 12) (k := 11) (N := 36) (C := RX12) (T := TX12) (v := .int z) (ty := .int) (Nat.lt_of_lt_of_le h2 (by decide)) (mc_X12 h1 h2) (by rw [mc_X12 h1 h2]; simp [upd]) rfl wu_X12 tyX12 tyX12_ok nmX12 (by decide) hlink rfl (by decide +kernel) rfl rfl (by simp) hd kk
theorem gf_X12_12 {p : Program} {l : Launch} {e : Env} {R : Room} {s : State} {m : MethodId} {args : Array Value} {below : List Frame} {meth : Method} {c : Code} {w : wT} {A : Nat → Prop} {Q : State → Prop} {nL : Nat} {σ : Hp} {pc : Nat} {lv : List (Nat × Value)} {st rest : List Value} {cc : ByteArray} {own : String} {r : Option FieldType} (E : YE p m meth c cc nL s args own r w 20 A) {o index : Nat} (h1 : 0 ≤ o) (h2 : o < 1) (hlink : Cond.fieldLink own index "WhereTheSpoonWentModel" "rule" "I" ∈ wG) (hd : decode cc pc = .ok (.getfield index, 3)) (kk : YY p l e R s m args below meth c w mcf 20 A Q nL σ (pc + 3) lv (.int (σ o 12) :: rest)) : YY p l e R s m args below meth c w mcf 20 A Q nL σ pc lv (.ref (w.1 o) :: rest) :=
  y_get E (ci := 12) (k := 12) (N := 36) (C := RX12) (T := TX12) (Nat.lt_of_lt_of_le h2 (by decide)) (mc_X12 h1 h2) rfl wu_X12 (by decide) hlink rfl hd kk
theorem pf_X12_12 {p : Program} {l : Launch} {e : Env} {R : Room} {s : State} {m : MethodId} {args : Array Value} {below : List Frame} {meth : Method} {c : Code} {w : wT} {A : Nat → Prop} {Q : State → Prop} {nL : Nat} {σ : Hp} {pc : Nat} {lv : List (Nat × Value)} {st rest : List Value} {cc : ByteArray} {own : String} {r : Option FieldType} (E : YE p m meth c cc nL s args own r w 20 A) {o index : Nat} {z : Int32} (h1 : 0 ≤ o) (h2 : o < 1) (hlink : Cond.fieldLink own index "WhereTheSpoonWentModel" "rule" "I" ∈ wG) (hd : decode cc pc = .ok (.putfield index, 3)) (kk : YY p l e R s m args below meth c w mcf 20 A Q nL (hup σ o 12 z) (pc + 3) lv rest) : YY p l e R s m args below meth c w mcf 20 A Q nL σ pc lv (.int z :: .ref (w.1 o) :: rest) :=
  y_put E (ci := 12) (k := 12) (N := 36) (C := RX12) (T := TX12) (v := .int z) (ty := .int) (Nat.lt_of_lt_of_le h2 (by decide)) (mc_X12 h1 h2) (by rw [mc_X12 h1 h2]; simp [upd]) rfl wu_X12 tyX12 tyX12_ok nmX12 (by decide) hlink rfl (by decide +kernel) rfl rfl (by simp) hd kk
theorem gf_X12_13 {p : Program} {l : Launch} {e : Env} {R : Room} {s : State} {m : MethodId} {args : Array Value} {below : List Frame} {meth : Method} {c : Code} {w : wT} {A : Nat → Prop} {Q : State → Prop} {nL : Nat} {σ : Hp} {pc : Nat} {lv : List (Nat × Value)} {st rest : List Value} {cc : ByteArray} {own : String} {r : Option FieldType} (E : YE p m meth c cc nL s args own r w 20 A) {o index : Nat} (h1 : 0 ≤ o) (h2 : o < 1) (hlink : Cond.fieldLink own index "WhereTheSpoonWentModel" "hasImage" "Z" ∈ wG) (hd : decode cc pc = .ok (.getfield index, 3)) (kk : YY p l e R s m args below meth c w mcf 20 A Q nL σ (pc + 3) lv (.int (σ o 13) :: rest)) : YY p l e R s m args below meth c w mcf 20 A Q nL σ pc lv (.ref (w.1 o) :: rest) :=
  y_get E (ci := 12) (k := 13) (N := 36) (C := RX12) (T := TX12) (Nat.lt_of_lt_of_le h2 (by decide)) (mc_X12 h1 h2) rfl wu_X12 (by decide) hlink rfl hd kk
theorem pf_X12_13 {p : Program} {l : Launch} {e : Env} {R : Room} {s : State} {m : MethodId} {args : Array Value} {below : List Frame} {meth : Method} {c : Code} {w : wT} {A : Nat → Prop} {Q : State → Prop} {nL : Nat} {σ : Hp} {pc : Nat} {lv : List (Nat × Value)} {st rest : List Value} {cc : ByteArray} {own : String} {r : Option FieldType} (E : YE p m meth c cc nL s args own r w 20 A) {o index : Nat} {z : Int32} (h1 : 0 ≤ o) (h2 : o < 1) (hz : narrow .boolean (.int z) = .int z) (hf : fits .boolean (.int z) = true) (hlink : Cond.fieldLink own index "WhereTheSpoonWentModel" "hasImage" "Z" ∈ wG) (hd : decode cc pc = .ok (.putfield index, 3)) (kk : YY p l e R s m args below meth c w mcf 20 A Q nL (hup σ o 13 z) (pc + 3) lv rest) : YY p l e R s m args below meth c w mcf 20 A Q nL σ pc lv (.int z :: .ref (w.1 o) :: rest) :=
  y_put E (ci := 12) (k := 13) (N := 36) (C := RX12) (T := TX12) (v := .int z) (ty := .boolean) (Nat.lt_of_lt_of_le h2 (by decide)) (mc_X12 h1 h2) (by rw [mc_X12 h1 h2]; simp [upd]) rfl wu_X12 tyX12 tyX12_ok nmX12 (by decide) hlink rfl (by decide +kernel) hz hf (by simp) hd kk
theorem gf_X12_14 {p : Program} {l : Launch} {e : Env} {R : Room} {s : State} {m : MethodId} {args : Array Value} {below : List Frame} {meth : Method} {c : Code} {w : wT} {A : Nat → Prop} {Q : State → Prop} {nL : Nat} {σ : Hp} {pc : Nat} {lv : List (Nat × Value)} {st rest : List Value} {cc : ByteArray} {own : String} {r : Option FieldType} (E : YE p m meth c cc nL s args own r w 20 A) {o index : Nat} (h1 : 0 ≤ o) (h2 : o < 1) (hlink : Cond.fieldLink own index "WhereTheSpoonWentModel" "imageThings" "I" ∈ wG) (hd : decode cc pc = .ok (.getfield index, 3)) (kk : YY p l e R s m args below meth c w mcf 20 A Q nL σ (pc + 3) lv (.int (σ o 14) :: rest)) : YY p l e R s m args below meth c w mcf 20 A Q nL σ pc lv (.ref (w.1 o) :: rest) :=
  y_get E (ci := 12) (k := 14) (N := 36) (C := RX12) (T := TX12) (Nat.lt_of_lt_of_le h2 (by decide)) (mc_X12 h1 h2) rfl wu_X12 (by decide) hlink rfl hd kk
theorem pf_X12_14 {p : Program} {l : Launch} {e : Env} {R : Room} {s : State} {m : MethodId} {args : Array Value} {below : List Frame} {meth : Method} {c : Code} {w : wT} {A : Nat → Prop} {Q : State → Prop} {nL : Nat} {σ : Hp} {pc : Nat} {lv : List (Nat × Value)} {st rest : List Value} {cc : ByteArray} {own : String} {r : Option FieldType} (E : YE p m meth c cc nL s args own r w 20 A) {o index : Nat} {z : Int32} (h1 : 0 ≤ o) (h2 : o < 1) (hlink : Cond.fieldLink own index "WhereTheSpoonWentModel" "imageThings" "I" ∈ wG) (hd : decode cc pc = .ok (.putfield index, 3)) (kk : YY p l e R s m args below meth c w mcf 20 A Q nL (hup σ o 14 z) (pc + 3) lv rest) : YY p l e R s m args below meth c w mcf 20 A Q nL σ pc lv (.int z :: .ref (w.1 o) :: rest) :=
  y_put E (ci := 12) (k := 14) (N := 36) (C := RX12) (T := TX12) (v := .int z) (ty := .int) (Nat.lt_of_lt_of_le h2 (by decide)) (mc_X12 h1 h2) (by rw [mc_X12 h1 h2]; simp [upd]) rfl wu_X12 tyX12 tyX12_ok nmX12 (by decide) hlink rfl (by decide +kernel) rfl rfl (by simp) hd kk
theorem gf_X12_15 {p : Program} {l : Launch} {e : Env} {R : Room} {s : State} {m : MethodId} {args : Array Value} {below : List Frame} {meth : Method} {c : Code} {w : wT} {A : Nat → Prop} {Q : State → Prop} {nL : Nat} {σ : Hp} {pc : Nat} {lv : List (Nat × Value)} {st rest : List Value} {cc : ByteArray} {own : String} {r : Option FieldType} (E : YE p m meth c cc nL s args own r w 20 A) {o index : Nat} (h1 : 0 ≤ o) (h2 : o < 1) (hlink : Cond.fieldLink own index "WhereTheSpoonWentModel" "imageRule" "I" ∈ wG) (hd : decode cc pc = .ok (.getfield index, 3)) (kk : YY p l e R s m args below meth c w mcf 20 A Q nL σ (pc + 3) lv (.int (σ o 15) :: rest)) : YY p l e R s m args below meth c w mcf 20 A Q nL σ pc lv (.ref (w.1 o) :: rest) :=
  y_get E (ci := 12) (k := 15) (N := 36) (C := RX12) (T := TX12) (Nat.lt_of_lt_of_le h2 (by decide)) (mc_X12 h1 h2) rfl wu_X12 (by decide) hlink rfl hd kk
theorem pf_X12_15 {p : Program} {l : Launch} {e : Env} {R : Room} {s : State} {m : MethodId} {args : Array Value} {below : List Frame} {meth : Method} {c : Code} {w : wT} {A : Nat → Prop} {Q : State → Prop} {nL : Nat} {σ : Hp} {pc : Nat} {lv : List (Nat × Value)} {st rest : List Value} {cc : ByteArray} {own : String} {r : Option FieldType} (E : YE p m meth c cc nL s args own r w 20 A) {o index : Nat} {z : Int32} (h1 : 0 ≤ o) (h2 : o < 1) (hlink : Cond.fieldLink own index "WhereTheSpoonWentModel" "imageRule" "I" ∈ wG) (hd : decode cc pc = .ok (.putfield index, 3)) (kk : YY p l e R s m args below meth c w mcf 20 A Q nL (hup σ o 15 z) (pc + 3) lv rest) : YY p l e R s m args below meth c w mcf 20 A Q nL σ pc lv (.int z :: .ref (w.1 o) :: rest) :=
  y_put E (ci := 12) (k := 15) (N := 36) (C := RX12) (T := TX12) (v := .int z) (ty := .int) (Nat.lt_of_lt_of_le h2 (by decide)) (mc_X12 h1 h2) (by rw [mc_X12 h1 h2]; simp [upd]) rfl wu_X12 tyX12 tyX12_ok nmX12 (by decide) hlink rfl (by decide +kernel) rfl rfl (by simp) hd kk
theorem gf_X12_16 {p : Program} {l : Launch} {e : Env} {R : Room} {s : State} {m : MethodId} {args : Array Value} {below : List Frame} {meth : Method} {c : Code} {w : wT} {A : Nat → Prop} {Q : State → Prop} {nL : Nat} {σ : Hp} {pc : Nat} {lv : List (Nat × Value)} {st rest : List Value} {cc : ByteArray} {own : String} {r : Option FieldType} (E : YE p m meth c cc nL s args own r w 20 A) {o index : Nat} (h1 : 0 ≤ o) (h2 : o < 1) (hlink : Cond.fieldLink own index "WhereTheSpoonWentModel" "imageRows" "[I" ∈ wG) (hd : decode cc pc = .ok (.getfield index, 3)) (kk : YY p l e R s m args below meth c w mcf 20 A Q nL σ (pc + 3) lv (.ref (w.1 9) :: rest)) : YY p l e R s m args below meth c w mcf 20 A Q nL σ pc lv (.ref (w.1 o) :: rest) :=
  y_get E (ci := 12) (k := 16) (N := 36) (C := RX12) (T := TX12) (Nat.lt_of_lt_of_le h2 (by decide)) (mc_X12 h1 h2) rfl wu_X12 (by decide) hlink rfl hd kk
theorem gf_X12_17 {p : Program} {l : Launch} {e : Env} {R : Room} {s : State} {m : MethodId} {args : Array Value} {below : List Frame} {meth : Method} {c : Code} {w : wT} {A : Nat → Prop} {Q : State → Prop} {nL : Nat} {σ : Hp} {pc : Nat} {lv : List (Nat × Value)} {st rest : List Value} {cc : ByteArray} {own : String} {r : Option FieldType} (E : YE p m meth c cc nL s args own r w 20 A) {o index : Nat} (h1 : 0 ≤ o) (h2 : o < 1) (hlink : Cond.fieldLink own index "WhereTheSpoonWentModel" "sheetSort" "[I" ∈ wG) (hd : decode cc pc = .ok (.getfield index, 3)) (kk : YY p l e R s m args below meth c w mcf 20 A Q nL σ (pc + 3) lv (.ref (w.1 10) :: rest)) : YY p l e R s m args below meth c w mcf 20 A Q nL σ pc lv (.ref (w.1 o) :: rest) :=
  y_get E (ci := 12) (k := 17) (N := 36) (C := RX12) (T := TX12) (Nat.lt_of_lt_of_le h2 (by decide)) (mc_X12 h1 h2) rfl wu_X12 (by decide) hlink rfl hd kk
theorem gf_X12_18 {p : Program} {l : Launch} {e : Env} {R : Room} {s : State} {m : MethodId} {args : Array Value} {below : List Frame} {meth : Method} {c : Code} {w : wT} {A : Nat → Prop} {Q : State → Prop} {nL : Nat} {σ : Hp} {pc : Nat} {lv : List (Nat × Value)} {st rest : List Value} {cc : ByteArray} {own : String} {r : Option FieldType} (E : YE p m meth c cc nL s args own r w 20 A) {o index : Nat} (h1 : 0 ≤ o) (h2 : o < 1) (hlink : Cond.fieldLink own index "WhereTheSpoonWentModel" "sheetSize" "[I" ∈ wG) (hd : decode cc pc = .ok (.getfield index, 3)) (kk : YY p l e R s m args below meth c w mcf 20 A Q nL σ (pc + 3) lv (.ref (w.1 11) :: rest)) : YY p l e R s m args below meth c w mcf 20 A Q nL σ pc lv (.ref (w.1 o) :: rest) :=
  y_get E (ci := 12) (k := 18) (N := 36) (C := RX12) (T := TX12) (Nat.lt_of_lt_of_le h2 (by decide)) (mc_X12 h1 h2) rfl wu_X12 (by decide) hlink rfl hd kk
theorem gf_X12_19 {p : Program} {l : Launch} {e : Env} {R : Room} {s : State} {m : MethodId} {args : Array Value} {below : List Frame} {meth : Method} {c : Code} {w : wT} {A : Nat → Prop} {Q : State → Prop} {nL : Nat} {σ : Hp} {pc : Nat} {lv : List (Nat × Value)} {st rest : List Value} {cc : ByteArray} {own : String} {r : Option FieldType} (E : YE p m meth c cc nL s args own r w 20 A) {o index : Nat} (h1 : 0 ≤ o) (h2 : o < 1) (hlink : Cond.fieldLink own index "WhereTheSpoonWentModel" "cells" "[I" ∈ wG) (hd : decode cc pc = .ok (.getfield index, 3)) (kk : YY p l e R s m args below meth c w mcf 20 A Q nL σ (pc + 3) lv (.ref (w.1 12) :: rest)) : YY p l e R s m args below meth c w mcf 20 A Q nL σ pc lv (.ref (w.1 o) :: rest) :=
  y_get E (ci := 12) (k := 19) (N := 36) (C := RX12) (T := TX12) (Nat.lt_of_lt_of_le h2 (by decide)) (mc_X12 h1 h2) rfl wu_X12 (by decide) hlink rfl hd kk
theorem gf_X12_20 {p : Program} {l : Launch} {e : Env} {R : Room} {s : State} {m : MethodId} {args : Array Value} {below : List Frame} {meth : Method} {c : Code} {w : wT} {A : Nat → Prop} {Q : State → Prop} {nL : Nat} {σ : Hp} {pc : Nat} {lv : List (Nat × Value)} {st rest : List Value} {cc : ByteArray} {own : String} {r : Option FieldType} (E : YE p m meth c cc nL s args own r w 20 A) {o index : Nat} (h1 : 0 ≤ o) (h2 : o < 1) (hlink : Cond.fieldLink own index "WhereTheSpoonWentModel" "law" "[I" ∈ wG) (hd : decode cc pc = .ok (.getfield index, 3)) (kk : YY p l e R s m args below meth c w mcf 20 A Q nL σ (pc + 3) lv (.ref (w.1 13) :: rest)) : YY p l e R s m args below meth c w mcf 20 A Q nL σ pc lv (.ref (w.1 o) :: rest) :=
  y_get E (ci := 12) (k := 20) (N := 36) (C := RX12) (T := TX12) (Nat.lt_of_lt_of_le h2 (by decide)) (mc_X12 h1 h2) rfl wu_X12 (by decide) hlink rfl hd kk
theorem gf_X12_21 {p : Program} {l : Launch} {e : Env} {R : Room} {s : State} {m : MethodId} {args : Array Value} {below : List Frame} {meth : Method} {c : Code} {w : wT} {A : Nat → Prop} {Q : State → Prop} {nL : Nat} {σ : Hp} {pc : Nat} {lv : List (Nat × Value)} {st rest : List Value} {cc : ByteArray} {own : String} {r : Option FieldType} (E : YE p m meth c cc nL s args own r w 20 A) {o index : Nat} (h1 : 0 ≤ o) (h2 : o < 1) (hlink : Cond.fieldLink own index "WhereTheSpoonWentModel" "at" "I" ∈ wG) (hd : decode cc pc = .ok (.getfield index, 3)) (kk : YY p l e R s m args below meth c w mcf 20 A Q nL σ (pc + 3) lv (.int (σ o 21) :: rest)) : YY p l e R s m args below meth c w mcf 20 A Q nL σ pc lv (.ref (w.1 o) :: rest) :=
  y_get E (ci := 12) (k := 21) (N := 36) (C := RX12) (T := TX12) (Nat.lt_of_lt_of_le h2 (by decide)) (mc_X12 h1 h2) rfl wu_X12 (by decide) hlink rfl hd kk
theorem pf_X12_21 {p : Program} {l : Launch} {e : Env} {R : Room} {s : State} {m : MethodId} {args : Array Value} {below : List Frame} {meth : Method} {c : Code} {w : wT} {A : Nat → Prop} {Q : State → Prop} {nL : Nat} {σ : Hp} {pc : Nat} {lv : List (Nat × Value)} {st rest : List Value} {cc : ByteArray} {own : String} {r : Option FieldType} (E : YE p m meth c cc nL s args own r w 20 A) {o index : Nat} {z : Int32} (h1 : 0 ≤ o) (h2 : o < 1) (hlink : Cond.fieldLink own index "WhereTheSpoonWentModel" "at" "I" ∈ wG) (hd : decode cc pc = .ok (.putfield index, 3)) (kk : YY p l e R s m args below meth c w mcf 20 A Q nL (hup σ o 21 z) (pc + 3) lv rest) : YY p l e R s m args below meth c w mcf 20 A Q nL σ pc lv (.int z :: .ref (w.1 o) :: rest) :=
  y_put E (ci := 12) (k := 21) (N := 36) (C := RX12) (T := TX12) (v := .int z) (ty := .int) (Nat.lt_of_lt_of_le h2 (by decide)) (mc_X12 h1 h2) (by rw [mc_X12 h1 h2]; simp [upd]) rfl wu_X12 tyX12 tyX12_ok nmX12 (by decide) hlink rfl (by decide +kernel) rfl rfl (by simp) hd kk
theorem gf_X12_22 {p : Program} {l : Launch} {e : Env} {R : Room} {s : State} {m : MethodId} {args : Array Value} {below : List Frame} {meth : Method} {c : Code} {w : wT} {A : Nat → Prop} {Q : State → Prop} {nL : Nat} {σ : Hp} {pc : Nat} {lv : List (Nat × Value)} {st rest : List Value} {cc : ByteArray} {own : String} {r : Option FieldType} (E : YE p m meth c cc nL s args own r w 20 A) {o index : Nat} (h1 : 0 ≤ o) (h2 : o < 1) (hlink : Cond.fieldLink own index "WhereTheSpoonWentModel" "begun" "I" ∈ wG) (hd : decode cc pc = .ok (.getfield index, 3)) (kk : YY p l e R s m args below meth c w mcf 20 A Q nL σ (pc + 3) lv (.int (σ o 22) :: rest)) : YY p l e R s m args below meth c w mcf 20 A Q nL σ pc lv (.ref (w.1 o) :: rest) :=
  y_get E (ci := 12) (k := 22) (N := 36) (C := RX12) (T := TX12) (Nat.lt_of_lt_of_le h2 (by decide)) (mc_X12 h1 h2) rfl wu_X12 (by decide) hlink rfl hd kk
theorem pf_X12_22 {p : Program} {l : Launch} {e : Env} {R : Room} {s : State} {m : MethodId} {args : Array Value} {below : List Frame} {meth : Method} {c : Code} {w : wT} {A : Nat → Prop} {Q : State → Prop} {nL : Nat} {σ : Hp} {pc : Nat} {lv : List (Nat × Value)} {st rest : List Value} {cc : ByteArray} {own : String} {r : Option FieldType} (E : YE p m meth c cc nL s args own r w 20 A) {o index : Nat} {z : Int32} (h1 : 0 ≤ o) (h2 : o < 1) (hlink : Cond.fieldLink own index "WhereTheSpoonWentModel" "begun" "I" ∈ wG) (hd : decode cc pc = .ok (.putfield index, 3)) (kk : YY p l e R s m args below meth c w mcf 20 A Q nL (hup σ o 22 z) (pc + 3) lv rest) : YY p l e R s m args below meth c w mcf 20 A Q nL σ pc lv (.int z :: .ref (w.1 o) :: rest) :=
  y_put E (ci := 12) (k := 22) (N := 36) (C := RX12) (T := TX12) (v := .int z) (ty := .int) (Nat.lt_of_lt_of_le h2 (by decide)) (mc_X12 h1 h2) (by rw [mc_X12 h1 h2]; simp [upd]) rfl wu_X12 tyX12 tyX12_ok nmX12 (by decide) hlink rfl (by decide +kernel) rfl rfl (by simp) hd kk
theorem gf_X12_23 {p : Program} {l : Launch} {e : Env} {R : Room} {s : State} {m : MethodId} {args : Array Value} {below : List Frame} {meth : Method} {c : Code} {w : wT} {A : Nat → Prop} {Q : State → Prop} {nL : Nat} {σ : Hp} {pc : Nat} {lv : List (Nat × Value)} {st rest : List Value} {cc : ByteArray} {own : String} {r : Option FieldType} (E : YE p m meth c cc nL s args own r w 20 A) {o index : Nat} (h1 : 0 ≤ o) (h2 : o < 1) (hlink : Cond.fieldLink own index "WhereTheSpoonWentModel" "token" "I" ∈ wG) (hd : decode cc pc = .ok (.getfield index, 3)) (kk : YY p l e R s m args below meth c w mcf 20 A Q nL σ (pc + 3) lv (.int (σ o 23) :: rest)) : YY p l e R s m args below meth c w mcf 20 A Q nL σ pc lv (.ref (w.1 o) :: rest) :=
  y_get E (ci := 12) (k := 23) (N := 36) (C := RX12) (T := TX12) (Nat.lt_of_lt_of_le h2 (by decide)) (mc_X12 h1 h2) rfl wu_X12 (by decide) hlink rfl hd kk
theorem pf_X12_23 {p : Program} {l : Launch} {e : Env} {R : Room} {s : State} {m : MethodId} {args : Array Value} {below : List Frame} {meth : Method} {c : Code} {w : wT} {A : Nat → Prop} {Q : State → Prop} {nL : Nat} {σ : Hp} {pc : Nat} {lv : List (Nat × Value)} {st rest : List Value} {cc : ByteArray} {own : String} {r : Option FieldType} (E : YE p m meth c cc nL s args own r w 20 A) {o index : Nat} {z : Int32} (h1 : 0 ≤ o) (h2 : o < 1) (hlink : Cond.fieldLink own index "WhereTheSpoonWentModel" "token" "I" ∈ wG) (hd : decode cc pc = .ok (.putfield index, 3)) (kk : YY p l e R s m args below meth c w mcf 20 A Q nL (hup σ o 23 z) (pc + 3) lv rest) : YY p l e R s m args below meth c w mcf 20 A Q nL σ pc lv (.int z :: .ref (w.1 o) :: rest) :=
  y_put E (ci := 12) (k := 23) (N := 36) (C := RX12) (T := TX12) (v := .int z) (ty := .int) (Nat.lt_of_lt_of_le h2 (by decide)) (mc_X12 h1 h2) (by rw [mc_X12 h1 h2]; simp [upd]) rfl wu_X12 tyX12 tyX12_ok nmX12 (by decide) hlink rfl (by decide +kernel) rfl rfl (by simp) hd kk
theorem gf_X12_24 {p : Program} {l : Launch} {e : Env} {R : Room} {s : State} {m : MethodId} {args : Array Value} {below : List Frame} {meth : Method} {c : Code} {w : wT} {A : Nat → Prop} {Q : State → Prop} {nL : Nat} {σ : Hp} {pc : Nat} {lv : List (Nat × Value)} {st rest : List Value} {cc : ByteArray} {own : String} {r : Option FieldType} (E : YE p m meth c cc nL s args own r w 20 A) {o index : Nat} (h1 : 0 ≤ o) (h2 : o < 1) (hlink : Cond.fieldLink own index "WhereTheSpoonWentModel" "value" "I" ∈ wG) (hd : decode cc pc = .ok (.getfield index, 3)) (kk : YY p l e R s m args below meth c w mcf 20 A Q nL σ (pc + 3) lv (.int (σ o 24) :: rest)) : YY p l e R s m args below meth c w mcf 20 A Q nL σ pc lv (.ref (w.1 o) :: rest) :=
  y_get E (ci := 12) (k := 24) (N := 36) (C := RX12) (T := TX12) (Nat.lt_of_lt_of_le h2 (by decide)) (mc_X12 h1 h2) rfl wu_X12 (by decide) hlink rfl hd kk
theorem pf_X12_24 {p : Program} {l : Launch} {e : Env} {R : Room} {s : State} {m : MethodId} {args : Array Value} {below : List Frame} {meth : Method} {c : Code} {w : wT} {A : Nat → Prop} {Q : State → Prop} {nL : Nat} {σ : Hp} {pc : Nat} {lv : List (Nat × Value)} {st rest : List Value} {cc : ByteArray} {own : String} {r : Option FieldType} (E : YE p m meth c cc nL s args own r w 20 A) {o index : Nat} {z : Int32} (h1 : 0 ≤ o) (h2 : o < 1) (hlink : Cond.fieldLink own index "WhereTheSpoonWentModel" "value" "I" ∈ wG) (hd : decode cc pc = .ok (.putfield index, 3)) (kk : YY p l e R s m args below meth c w mcf 20 A Q nL (hup σ o 24 z) (pc + 3) lv rest) : YY p l e R s m args below meth c w mcf 20 A Q nL σ pc lv (.int z :: .ref (w.1 o) :: rest) :=
  y_put E (ci := 12) (k := 24) (N := 36) (C := RX12) (T := TX12) (v := .int z) (ty := .int) (Nat.lt_of_lt_of_le h2 (by decide)) (mc_X12 h1 h2) (by rw [mc_X12 h1 h2]; simp [upd]) rfl wu_X12 tyX12 tyX12_ok nmX12 (by decide) hlink rfl (by decide +kernel) rfl rfl (by simp) hd kk
theorem gf_X12_25 {p : Program} {l : Launch} {e : Env} {R : Room} {s : State} {m : MethodId} {args : Array Value} {below : List Frame} {meth : Method} {c : Code} {w : wT} {A : Nat → Prop} {Q : State → Prop} {nL : Nat} {σ : Hp} {pc : Nat} {lv : List (Nat × Value)} {st rest : List Value} {cc : ByteArray} {own : String} {r : Option FieldType} (E : YE p m meth c cc nL s args own r w 20 A) {o index : Nat} (h1 : 0 ≤ o) (h2 : o < 1) (hlink : Cond.fieldLink own index "WhereTheSpoonWentModel" "words" "[I" ∈ wG) (hd : decode cc pc = .ok (.getfield index, 3)) (kk : YY p l e R s m args below meth c w mcf 20 A Q nL σ (pc + 3) lv (.ref (w.1 14) :: rest)) : YY p l e R s m args below meth c w mcf 20 A Q nL σ pc lv (.ref (w.1 o) :: rest) :=
  y_get E (ci := 12) (k := 25) (N := 36) (C := RX12) (T := TX12) (Nat.lt_of_lt_of_le h2 (by decide)) (mc_X12 h1 h2) rfl wu_X12 (by decide) hlink rfl hd kk
theorem gf_X12_26 {p : Program} {l : Launch} {e : Env} {R : Room} {s : State} {m : MethodId} {args : Array Value} {below : List Frame} {meth : Method} {c : Code} {w : wT} {A : Nat → Prop} {Q : State → Prop} {nL : Nat} {σ : Hp} {pc : Nat} {lv : List (Nat × Value)} {st rest : List Value} {cc : ByteArray} {own : String} {r : Option FieldType} (E : YE p m meth c cc nL s args own r w 20 A) {o index : Nat} (h1 : 0 ≤ o) (h2 : o < 1) (hlink : Cond.fieldLink own index "WhereTheSpoonWentModel" "held" "[I" ∈ wG) (hd : decode cc pc = .ok (.getfield index, 3)) (kk : YY p l e R s m args below meth c w mcf 20 A Q nL σ (pc + 3) lv (.ref (w.1 15) :: rest)) : YY p l e R s m args below meth c w mcf 20 A Q nL σ pc lv (.ref (w.1 o) :: rest) :=
  y_get E (ci := 12) (k := 26) (N := 36) (C := RX12) (T := TX12) (Nat.lt_of_lt_of_le h2 (by decide)) (mc_X12 h1 h2) rfl wu_X12 (by decide) hlink rfl hd kk
theorem gf_X12_27 {p : Program} {l : Launch} {e : Env} {R : Room} {s : State} {m : MethodId} {args : Array Value} {below : List Frame} {meth : Method} {c : Code} {w : wT} {A : Nat → Prop} {Q : State → Prop} {nL : Nat} {σ : Hp} {pc : Nat} {lv : List (Nat × Value)} {st rest : List Value} {cc : ByteArray} {own : String} {r : Option FieldType} (E : YE p m meth c cc nL s args own r w 20 A) {o index : Nat} (h1 : 0 ≤ o) (h2 : o < 1) (hlink : Cond.fieldLink own index "WhereTheSpoonWentModel" "heldMany" "I" ∈ wG) (hd : decode cc pc = .ok (.getfield index, 3)) (kk : YY p l e R s m args below meth c w mcf 20 A Q nL σ (pc + 3) lv (.int (σ o 27) :: rest)) : YY p l e R s m args below meth c w mcf 20 A Q nL σ pc lv (.ref (w.1 o) :: rest) :=
  y_get E (ci := 12) (k := 27) (N := 36) (C := RX12) (T := TX12) (Nat.lt_of_lt_of_le h2 (by decide)) (mc_X12 h1 h2) rfl wu_X12 (by decide) hlink rfl hd kk
theorem pf_X12_27 {p : Program} {l : Launch} {e : Env} {R : Room} {s : State} {m : MethodId} {args : Array Value} {below : List Frame} {meth : Method} {c : Code} {w : wT} {A : Nat → Prop} {Q : State → Prop} {nL : Nat} {σ : Hp} {pc : Nat} {lv : List (Nat × Value)} {st rest : List Value} {cc : ByteArray} {own : String} {r : Option FieldType} (E : YE p m meth c cc nL s args own r w 20 A) {o index : Nat} {z : Int32} (h1 : 0 ≤ o) (h2 : o < 1) (hlink : Cond.fieldLink own index "WhereTheSpoonWentModel" "heldMany" "I" ∈ wG) (hd : decode cc pc = .ok (.putfield index, 3)) (kk : YY p l e R s m args below meth c w mcf 20 A Q nL (hup σ o 27 z) (pc + 3) lv rest) : YY p l e R s m args below meth c w mcf 20 A Q nL σ pc lv (.int z :: .ref (w.1 o) :: rest) :=
  y_put E (ci := 12) (k := 27) (N := 36) (C := RX12) (T := TX12) (v := .int z) (ty := .int) (Nat.lt_of_lt_of_le h2 (by decide)) (mc_X12 h1 h2) (by rw [mc_X12 h1 h2]; simp [upd]) rfl wu_X12 tyX12 tyX12_ok nmX12 (by decide) hlink rfl (by decide +kernel) rfl rfl (by simp) hd kk
theorem gf_X12_28 {p : Program} {l : Launch} {e : Env} {R : Room} {s : State} {m : MethodId} {args : Array Value} {below : List Frame} {meth : Method} {c : Code} {w : wT} {A : Nat → Prop} {Q : State → Prop} {nL : Nat} {σ : Hp} {pc : Nat} {lv : List (Nat × Value)} {st rest : List Value} {cc : ByteArray} {own : String} {r : Option FieldType} (E : YE p m meth c cc nL s args own r w 20 A) {o index : Nat} (h1 : 0 ≤ o) (h2 : o < 1) (hlink : Cond.fieldLink own index "WhereTheSpoonWentModel" "opens" "I" ∈ wG) (hd : decode cc pc = .ok (.getfield index, 3)) (kk : YY p l e R s m args below meth c w mcf 20 A Q nL σ (pc + 3) lv (.int (σ o 28) :: rest)) : YY p l e R s m args below meth c w mcf 20 A Q nL σ pc lv (.ref (w.1 o) :: rest) :=
  y_get E (ci := 12) (k := 28) (N := 36) (C := RX12) (T := TX12) (Nat.lt_of_lt_of_le h2 (by decide)) (mc_X12 h1 h2) rfl wu_X12 (by decide) hlink rfl hd kk
theorem pf_X12_28 {p : Program} {l : Launch} {e : Env} {R : Room} {s : State} {m : MethodId} {args : Array Value} {below : List Frame} {meth : Method} {c : Code} {w : wT} {A : Nat → Prop} {Q : State → Prop} {nL : Nat} {σ : Hp} {pc : Nat} {lv : List (Nat × Value)} {st rest : List Value} {cc : ByteArray} {own : String} {r : Option FieldType} (E : YE p m meth c cc nL s args own r w 20 A) {o index : Nat} {z : Int32} (h1 : 0 ≤ o) (h2 : o < 1) (hlink : Cond.fieldLink own index "WhereTheSpoonWentModel" "opens" "I" ∈ wG) (hd : decode cc pc = .ok (.putfield index, 3)) (kk : YY p l e R s m args below meth c w mcf 20 A Q nL (hup σ o 28 z) (pc + 3) lv rest) : YY p l e R s m args below meth c w mcf 20 A Q nL σ pc lv (.int z :: .ref (w.1 o) :: rest) :=
  y_put E (ci := 12) (k := 28) (N := 36) (C := RX12) (T := TX12) (v := .int z) (ty := .int) (Nat.lt_of_lt_of_le h2 (by decide)) (mc_X12 h1 h2) (by rw [mc_X12 h1 h2]; simp [upd]) rfl wu_X12 tyX12 tyX12_ok nmX12 (by decide) hlink rfl (by decide +kernel) rfl rfl (by simp) hd kk
theorem gf_X12_29 {p : Program} {l : Launch} {e : Env} {R : Room} {s : State} {m : MethodId} {args : Array Value} {below : List Frame} {meth : Method} {c : Code} {w : wT} {A : Nat → Prop} {Q : State → Prop} {nL : Nat} {σ : Hp} {pc : Nat} {lv : List (Nat × Value)} {st rest : List Value} {cc : ByteArray} {own : String} {r : Option FieldType} (E : YE p m meth c cc nL s args own r w 20 A) {o index : Nat} (h1 : 0 ≤ o) (h2 : o < 1) (hlink : Cond.fieldLink own index "WhereTheSpoonWentModel" "out" "I" ∈ wG) (hd : decode cc pc = .ok (.getfield index, 3)) (kk : YY p l e R s m args below meth c w mcf 20 A Q nL σ (pc + 3) lv (.int (σ o 29) :: rest)) : YY p l e R s m args below meth c w mcf 20 A Q nL σ pc lv (.ref (w.1 o) :: rest) :=
  y_get E (ci := 12) (k := 29) (N := 36) (C := RX12) (T := TX12) (Nat.lt_of_lt_of_le h2 (by decide)) (mc_X12 h1 h2) rfl wu_X12 (by decide) hlink rfl hd kk
theorem pf_X12_29 {p : Program} {l : Launch} {e : Env} {R : Room} {s : State} {m : MethodId} {args : Array Value} {below : List Frame} {meth : Method} {c : Code} {w : wT} {A : Nat → Prop} {Q : State → Prop} {nL : Nat} {σ : Hp} {pc : Nat} {lv : List (Nat × Value)} {st rest : List Value} {cc : ByteArray} {own : String} {r : Option FieldType} (E : YE p m meth c cc nL s args own r w 20 A) {o index : Nat} {z : Int32} (h1 : 0 ≤ o) (h2 : o < 1) (hlink : Cond.fieldLink own index "WhereTheSpoonWentModel" "out" "I" ∈ wG) (hd : decode cc pc = .ok (.putfield index, 3)) (kk : YY p l e R s m args below meth c w mcf 20 A Q nL (hup σ o 29 z) (pc + 3) lv rest) : YY p l e R s m args below meth c w mcf 20 A Q nL σ pc lv (.int z :: .ref (w.1 o) :: rest) :=
  y_put E (ci := 12) (k := 29) (N := 36) (C := RX12) (T := TX12) (v := .int z) (ty := .int) (Nat.lt_of_lt_of_le h2 (by decide)) (mc_X12 h1 h2) (by rw [mc_X12 h1 h2]; simp [upd]) rfl wu_X12 tyX12 tyX12_ok nmX12 (by decide) hlink rfl (by decide +kernel) rfl rfl (by simp) hd kk
theorem gf_X12_30 {p : Program} {l : Launch} {e : Env} {R : Room} {s : State} {m : MethodId} {args : Array Value} {below : List Frame} {meth : Method} {c : Code} {w : wT} {A : Nat → Prop} {Q : State → Prop} {nL : Nat} {σ : Hp} {pc : Nat} {lv : List (Nat × Value)} {st rest : List Value} {cc : ByteArray} {own : String} {r : Option FieldType} (E : YE p m meth c cc nL s args own r w 20 A) {o index : Nat} (h1 : 0 ≤ o) (h2 : o < 1) (hlink : Cond.fieldLink own index "WhereTheSpoonWentModel" "stack" "[I" ∈ wG) (hd : decode cc pc = .ok (.getfield index, 3)) (kk : YY p l e R s m args below meth c w mcf 20 A Q nL σ (pc + 3) lv (.ref (w.1 16) :: rest)) : YY p l e R s m args below meth c w mcf 20 A Q nL σ pc lv (.ref (w.1 o) :: rest) :=
  y_get E (ci := 12) (k := 30) (N := 36) (C := RX12) (T := TX12) (Nat.lt_of_lt_of_le h2 (by decide)) (mc_X12 h1 h2) rfl wu_X12 (by decide) hlink rfl hd kk
theorem gf_X12_31 {p : Program} {l : Launch} {e : Env} {R : Room} {s : State} {m : MethodId} {args : Array Value} {below : List Frame} {meth : Method} {c : Code} {w : wT} {A : Nat → Prop} {Q : State → Prop} {nL : Nat} {σ : Hp} {pc : Nat} {lv : List (Nat × Value)} {st rest : List Value} {cc : ByteArray} {own : String} {r : Option FieldType} (E : YE p m meth c cc nL s args own r w 20 A) {o index : Nat} (h1 : 0 ≤ o) (h2 : o < 1) (hlink : Cond.fieldLink own index "WhereTheSpoonWentModel" "named" "[I" ∈ wG) (hd : decode cc pc = .ok (.getfield index, 3)) (kk : YY p l e R s m args below meth c w mcf 20 A Q nL σ (pc + 3) lv (.ref (w.1 17) :: rest)) : YY p l e R s m args below meth c w mcf 20 A Q nL σ pc lv (.ref (w.1 o) :: rest) :=
  y_get E (ci := 12) (k := 31) (N := 36) (C := RX12) (T := TX12) (Nat.lt_of_lt_of_le h2 (by decide)) (mc_X12 h1 h2) rfl wu_X12 (by decide) hlink rfl hd kk
theorem gf_X12_32 {p : Program} {l : Launch} {e : Env} {R : Room} {s : State} {m : MethodId} {args : Array Value} {below : List Frame} {meth : Method} {c : Code} {w : wT} {A : Nat → Prop} {Q : State → Prop} {nL : Nat} {σ : Hp} {pc : Nat} {lv : List (Nat × Value)} {st rest : List Value} {cc : ByteArray} {own : String} {r : Option FieldType} (E : YE p m meth c cc nL s args own r w 20 A) {o index : Nat} (h1 : 0 ≤ o) (h2 : o < 1) (hlink : Cond.fieldLink own index "WhereTheSpoonWentModel" "now" "I" ∈ wG) (hd : decode cc pc = .ok (.getfield index, 3)) (kk : YY p l e R s m args below meth c w mcf 20 A Q nL σ (pc + 3) lv (.int (σ o 32) :: rest)) : YY p l e R s m args below meth c w mcf 20 A Q nL σ pc lv (.ref (w.1 o) :: rest) :=
  y_get E (ci := 12) (k := 32) (N := 36) (C := RX12) (T := TX12) (Nat.lt_of_lt_of_le h2 (by decide)) (mc_X12 h1 h2) rfl wu_X12 (by decide) hlink rfl hd kk
theorem pf_X12_32 {p : Program} {l : Launch} {e : Env} {R : Room} {s : State} {m : MethodId} {args : Array Value} {below : List Frame} {meth : Method} {c : Code} {w : wT} {A : Nat → Prop} {Q : State → Prop} {nL : Nat} {σ : Hp} {pc : Nat} {lv : List (Nat × Value)} {st rest : List Value} {cc : ByteArray} {own : String} {r : Option FieldType} (E : YE p m meth c cc nL s args own r w 20 A) {o index : Nat} {z : Int32} (h1 : 0 ≤ o) (h2 : o < 1) (hlink : Cond.fieldLink own index "WhereTheSpoonWentModel" "now" "I" ∈ wG) (hd : decode cc pc = .ok (.putfield index, 3)) (kk : YY p l e R s m args below meth c w mcf 20 A Q nL (hup σ o 32 z) (pc + 3) lv rest) : YY p l e R s m args below meth c w mcf 20 A Q nL σ pc lv (.int z :: .ref (w.1 o) :: rest) :=
  y_put E (ci := 12) (k := 32) (N := 36) (C := RX12) (T := TX12) (v := .int z) (ty := .int) (Nat.lt_of_lt_of_le h2 (by decide)) (mc_X12 h1 h2) (by rw [mc_X12 h1 h2]; simp [upd]) rfl wu_X12 tyX12 tyX12_ok nmX12 (by decide) hlink rfl (by decide +kernel) rfl rfl (by simp) hd kk
theorem gf_X12_33 {p : Program} {l : Launch} {e : Env} {R : Room} {s : State} {m : MethodId} {args : Array Value} {below : List Frame} {meth : Method} {c : Code} {w : wT} {A : Nat → Prop} {Q : State → Prop} {nL : Nat} {σ : Hp} {pc : Nat} {lv : List (Nat × Value)} {st rest : List Value} {cc : ByteArray} {own : String} {r : Option FieldType} (E : YE p m meth c cc nL s args own r w 20 A) {o index : Nat} (h1 : 0 ≤ o) (h2 : o < 1) (hlink : Cond.fieldLink own index "WhereTheSpoonWentModel" "way" "I" ∈ wG) (hd : decode cc pc = .ok (.getfield index, 3)) (kk : YY p l e R s m args below meth c w mcf 20 A Q nL σ (pc + 3) lv (.int (σ o 33) :: rest)) : YY p l e R s m args below meth c w mcf 20 A Q nL σ pc lv (.ref (w.1 o) :: rest) :=
  y_get E (ci := 12) (k := 33) (N := 36) (C := RX12) (T := TX12) (Nat.lt_of_lt_of_le h2 (by decide)) (mc_X12 h1 h2) rfl wu_X12 (by decide) hlink rfl hd kk
theorem pf_X12_33 {p : Program} {l : Launch} {e : Env} {R : Room} {s : State} {m : MethodId} {args : Array Value} {below : List Frame} {meth : Method} {c : Code} {w : wT} {A : Nat → Prop} {Q : State → Prop} {nL : Nat} {σ : Hp} {pc : Nat} {lv : List (Nat × Value)} {st rest : List Value} {cc : ByteArray} {own : String} {r : Option FieldType} (E : YE p m meth c cc nL s args own r w 20 A) {o index : Nat} {z : Int32} (h1 : 0 ≤ o) (h2 : o < 1) (hlink : Cond.fieldLink own index "WhereTheSpoonWentModel" "way" "I" ∈ wG) (hd : decode cc pc = .ok (.putfield index, 3)) (kk : YY p l e R s m args below meth c w mcf 20 A Q nL (hup σ o 33 z) (pc + 3) lv rest) : YY p l e R s m args below meth c w mcf 20 A Q nL σ pc lv (.int z :: .ref (w.1 o) :: rest) :=
  y_put E (ci := 12) (k := 33) (N := 36) (C := RX12) (T := TX12) (v := .int z) (ty := .int) (Nat.lt_of_lt_of_le h2 (by decide)) (mc_X12 h1 h2) (by rw [mc_X12 h1 h2]; simp [upd]) rfl wu_X12 tyX12 tyX12_ok nmX12 (by decide) hlink rfl (by decide +kernel) rfl rfl (by simp) hd kk
theorem gf_X12_34 {p : Program} {l : Launch} {e : Env} {R : Room} {s : State} {m : MethodId} {args : Array Value} {below : List Frame} {meth : Method} {c : Code} {w : wT} {A : Nat → Prop} {Q : State → Prop} {nL : Nat} {σ : Hp} {pc : Nat} {lv : List (Nat × Value)} {st rest : List Value} {cc : ByteArray} {own : String} {r : Option FieldType} (E : YE p m meth c cc nL s args own r w 20 A) {o index : Nat} (h1 : 0 ≤ o) (h2 : o < 1) (hlink : Cond.fieldLink own index "WhereTheSpoonWentModel" "far" "[I" ∈ wG) (hd : decode cc pc = .ok (.getfield index, 3)) (kk : YY p l e R s m args below meth c w mcf 20 A Q nL σ (pc + 3) lv (.ref (w.1 18) :: rest)) : YY p l e R s m args below meth c w mcf 20 A Q nL σ pc lv (.ref (w.1 o) :: rest) :=
  y_get E (ci := 12) (k := 34) (N := 36) (C := RX12) (T := TX12) (Nat.lt_of_lt_of_le h2 (by decide)) (mc_X12 h1 h2) rfl wu_X12 (by decide) hlink rfl hd kk
theorem gf_X12_35 {p : Program} {l : Launch} {e : Env} {R : Room} {s : State} {m : MethodId} {args : Array Value} {below : List Frame} {meth : Method} {c : Code} {w : wT} {A : Nat → Prop} {Q : State → Prop} {nL : Nat} {σ : Hp} {pc : Nat} {lv : List (Nat × Value)} {st rest : List Value} {cc : ByteArray} {own : String} {r : Option FieldType} (E : YE p m meth c cc nL s args own r w 20 A) {o index : Nat} (h1 : 0 ≤ o) (h2 : o < 1) (hlink : Cond.fieldLink own index "WhereTheSpoonWentModel" "wentTo" "[I" ∈ wG) (hd : decode cc pc = .ok (.getfield index, 3)) (kk : YY p l e R s m args below meth c w mcf 20 A Q nL σ (pc + 3) lv (.ref (w.1 19) :: rest)) : YY p l e R s m args below meth c w mcf 20 A Q nL σ pc lv (.ref (w.1 o) :: rest) :=
  y_get E (ci := 12) (k := 35) (N := 36) (C := RX12) (T := TX12) (Nat.lt_of_lt_of_le h2 (by decide)) (mc_X12 h1 h2) rfl wu_X12 (by decide) hlink rfl hd kk
end
