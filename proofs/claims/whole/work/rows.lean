section
-- ===== PART A: goes FIRST, ahead of the names: the tables' words, and 'selects' of the private methods out of them =====
/-- a private method of a class that the tables say can be made, by its rows of tables_1 -/
def lw_okq (q : MethodName × Nat) : Prop := (q.1.cls ≠ "java/lang/invoke/MethodHandle" ∧ q.1.cls ≠ "java/lang/invoke/VarHandle") ∧ Cond.instantiable q.1.cls q.2 ∈ tables_1 ∧ Cond.privateMethod q.1 ∈ tables_1 ∧ Cond.instanceMethod q.1 ∈ tables_1
theorem lw_p0 : lw_okq (⟨"WhereTheSpoonWent", "isAnyThingIn", "(I)Z"⟩, 14) := ⟨⟨by decide +kernel, by decide +kernel⟩, List.mem_of_getElem? (i := 21) (by decide +kernel), List.mem_of_getElem? (i := 298) (by decide +kernel), List.mem_of_getElem? (i := 299) (by decide +kernel)⟩
theorem lw_p1 : lw_okq (⟨"WhereTheSpoonWent$Reader", "goOn", "()V"⟩, 7) := ⟨⟨by decide +kernel, by decide +kernel⟩, List.mem_of_getElem? (i := 82) (by decide +kernel), List.mem_of_getElem? (i := 344) (by decide +kernel), List.mem_of_getElem? (i := 345) (by decide +kernel)⟩
theorem lw_p2 : lw_okq (⟨"WhereTheSpoonWent$Reader", "goOnNumber", "()V"⟩, 7) := ⟨⟨by decide +kernel, by decide +kernel⟩, List.mem_of_getElem? (i := 82) (by decide +kernel), List.mem_of_getElem? (i := 351) (by decide +kernel), List.mem_of_getElem? (i := 352) (by decide +kernel)⟩
theorem lw_p3 : lw_okq (⟨"WhereTheSpoonWent$Reader", "goOnWord", "()V"⟩, 7) := ⟨⟨by decide +kernel, by decide +kernel⟩, List.mem_of_getElem? (i := 82) (by decide +kernel), List.mem_of_getElem? (i := 358) (by decide +kernel), List.mem_of_getElem? (i := 359) (by decide +kernel)⟩
theorem lw_p4 : lw_okq (⟨"WhereTheSpoonWent$Reader", "isWord", "(Ljava/lang/String;)Z"⟩, 7) := ⟨⟨by decide +kernel, by decide +kernel⟩, List.mem_of_getElem? (i := 82) (by decide +kernel), List.mem_of_getElem? (i := 363) (by decide +kernel), List.mem_of_getElem? (i := 364) (by decide +kernel)⟩
theorem lw_p5 : lw_okq (⟨"WhereTheSpoonWent$Reader", "readPart", "(I)V"⟩, 7) := ⟨⟨by decide +kernel, by decide +kernel⟩, List.mem_of_getElem? (i := 82) (by decide +kernel), List.mem_of_getElem? (i := 429) (by decide +kernel), List.mem_of_getElem? (i := 430) (by decide +kernel)⟩
theorem lw_p6 : lw_okq (⟨"WhereTheSpoonWent$Reader", "take", "(I)V"⟩, 7) := ⟨⟨by decide +kernel, by decide +kernel⟩, List.mem_of_getElem? (i := 82) (by decide +kernel), List.mem_of_getElem? (i := 433) (by decide +kernel), List.mem_of_getElem? (i := 434) (by decide +kernel)⟩
theorem lw_p7 : lw_okq (⟨"WhereTheSpoonWent$Reader", "fail", "()V"⟩, 7) := ⟨⟨by decide +kernel, by decide +kernel⟩, List.mem_of_getElem? (i := 82) (by decide +kernel), List.mem_of_getElem? (i := 437) (by decide +kernel), List.mem_of_getElem? (i := 438) (by decide +kernel)⟩
theorem lw_p8 : lw_okq (⟨"WhereTheSpoonWent$Reader", "readOr", "(I)V"⟩, 7) := ⟨⟨by decide +kernel, by decide +kernel⟩, List.mem_of_getElem? (i := 82) (by decide +kernel), List.mem_of_getElem? (i := 441) (by decide +kernel), List.mem_of_getElem? (i := 442) (by decide +kernel)⟩
theorem lw_p9 : lw_okq (⟨"WhereTheSpoonWent$Reader", "readAnd", "(I)V"⟩, 7) := ⟨⟨by decide +kernel, by decide +kernel⟩, List.mem_of_getElem? (i := 82) (by decide +kernel), List.mem_of_getElem? (i := 445) (by decide +kernel), List.mem_of_getElem? (i := 446) (by decide +kernel)⟩
theorem lw_p10 : lw_okq (⟨"WhereTheSpoonWent$Reader", "readNot", "(I)V"⟩, 7) := ⟨⟨by decide +kernel, by decide +kernel⟩, List.mem_of_getElem? (i := 82) (by decide +kernel), List.mem_of_getElem? (i := 449) (by decide +kernel), List.mem_of_getElem? (i := 450) (by decide +kernel)⟩
theorem lw_p11 : lw_okq (⟨"WhereTheSpoonWent$Reader", "readSum", "(I)V"⟩, 7) := ⟨⟨by decide +kernel, by decide +kernel⟩, List.mem_of_getElem? (i := 82) (by decide +kernel), List.mem_of_getElem? (i := 454) (by decide +kernel), List.mem_of_getElem? (i := 455) (by decide +kernel)⟩
theorem lw_p12 : lw_okq (⟨"WhereTheSpoonWent$Reader", "readTerm", "(I)V"⟩, 7) := ⟨⟨by decide +kernel, by decide +kernel⟩, List.mem_of_getElem? (i := 82) (by decide +kernel), List.mem_of_getElem? (i := 458) (by decide +kernel), List.mem_of_getElem? (i := 459) (by decide +kernel)⟩
theorem lw_p13 : lw_okq (⟨"WhereTheSpoonWent$Reader", "readOne", "(I)V"⟩, 7) := ⟨⟨by decide +kernel, by decide +kernel⟩, List.mem_of_getElem? (i := 82) (by decide +kernel), List.mem_of_getElem? (i := 462) (by decide +kernel), List.mem_of_getElem? (i := 463) (by decide +kernel)⟩
theorem lw_p14 : lw_okq (⟨"WhereTheSpoonWent", "law", "()LWhereTheSpoonWent$Text;"⟩, 14) := ⟨⟨by decide +kernel, by decide +kernel⟩, List.mem_of_getElem? (i := 21) (by decide +kernel), List.mem_of_getElem? (i := 475) (by decide +kernel), List.mem_of_getElem? (i := 476) (by decide +kernel)⟩
theorem lw_p15 : lw_okq (⟨"WhereTheSpoonWent", "isOpen", "(I)Z"⟩, 14) := ⟨⟨by decide +kernel, by decide +kernel⟩, List.mem_of_getElem? (i := 21) (by decide +kernel), List.mem_of_getElem? (i := 499) (by decide +kernel), List.mem_of_getElem? (i := 500) (by decide +kernel)⟩
def lw_privs_1 : List (MethodName × Nat) := [(⟨"WhereTheSpoonWent", "isAnyThingIn", "(I)Z"⟩, 14), (⟨"WhereTheSpoonWent$Reader", "goOn", "()V"⟩, 7), (⟨"WhereTheSpoonWent$Reader", "goOnNumber", "()V"⟩, 7), (⟨"WhereTheSpoonWent$Reader", "goOnWord", "()V"⟩, 7), (⟨"WhereTheSpoonWent$Reader", "isWord", "(Ljava/lang/String;)Z"⟩, 7), (⟨"WhereTheSpoonWent$Reader", "readPart", "(I)V"⟩, 7), (⟨"WhereTheSpoonWent$Reader", "take", "(I)V"⟩, 7), (⟨"WhereTheSpoonWent$Reader", "fail", "()V"⟩, 7), (⟨"WhereTheSpoonWent$Reader", "readOr", "(I)V"⟩, 7), (⟨"WhereTheSpoonWent$Reader", "readAnd", "(I)V"⟩, 7), (⟨"WhereTheSpoonWent$Reader", "readNot", "(I)V"⟩, 7), (⟨"WhereTheSpoonWent$Reader", "readSum", "(I)V"⟩, 7), (⟨"WhereTheSpoonWent$Reader", "readTerm", "(I)V"⟩, 7), (⟨"WhereTheSpoonWent$Reader", "readOne", "(I)V"⟩, 7), (⟨"WhereTheSpoonWent", "law", "()LWhereTheSpoonWent$Text;"⟩, 14), (⟨"WhereTheSpoonWent", "isOpen", "(I)Z"⟩, 14)]
theorem lw_r1 : ∀ q ∈ lw_privs_1, lw_okq q := List.forall_mem_cons.mpr ⟨lw_p0, List.forall_mem_cons.mpr ⟨lw_p1, List.forall_mem_cons.mpr ⟨lw_p2, List.forall_mem_cons.mpr ⟨lw_p3, List.forall_mem_cons.mpr ⟨lw_p4, List.forall_mem_cons.mpr ⟨lw_p5, List.forall_mem_cons.mpr ⟨lw_p6, List.forall_mem_cons.mpr ⟨lw_p7, List.forall_mem_cons.mpr ⟨lw_p8, List.forall_mem_cons.mpr ⟨lw_p9, List.forall_mem_cons.mpr ⟨lw_p10, List.forall_mem_cons.mpr ⟨lw_p11, List.forall_mem_cons.mpr ⟨lw_p12, List.forall_mem_cons.mpr ⟨lw_p13, List.forall_mem_cons.mpr ⟨lw_p14, List.forall_mem_cons.mpr ⟨lw_p15, fun _ h => absurd h List.not_mem_nil⟩⟩⟩⟩⟩⟩⟩⟩⟩⟩⟩⟩⟩⟩⟩⟩
theorem lw_p16 : lw_okq (⟨"WhereTheSpoonWent", "isThing", "(I)Z"⟩, 14) := ⟨⟨by decide +kernel, by decide +kernel⟩, List.mem_of_getElem? (i := 21) (by decide +kernel), List.mem_of_getElem? (i := 510) (by decide +kernel), List.mem_of_getElem? (i := 511) (by decide +kernel)⟩
theorem lw_p17 : lw_okq (⟨"WhereTheSpoonWent", "behind", "(II)LWhereTheSpoonWent$Flight;"⟩, 14) := ⟨⟨by decide +kernel, by decide +kernel⟩, List.mem_of_getElem? (i := 21) (by decide +kernel), List.mem_of_getElem? (i := 528) (by decide +kernel), List.mem_of_getElem? (i := 529) (by decide +kernel)⟩
theorem lw_p18 : lw_okq (⟨"WhereTheSpoonWent", "lift", "(I)LWhereTheSpoonWent$Flight;"⟩, 14) := ⟨⟨by decide +kernel, by decide +kernel⟩, List.mem_of_getElem? (i := 21) (by decide +kernel), List.mem_of_getElem? (i := 532) (by decide +kernel), List.mem_of_getElem? (i := 533) (by decide +kernel)⟩
theorem lw_p19 : lw_okq (⟨"WhereTheSpoonWent", "follow", "(LWhereTheSpoonWent$Flight;)V"⟩, 14) := ⟨⟨by decide +kernel, by decide +kernel⟩, List.mem_of_getElem? (i := 21) (by decide +kernel), List.mem_of_getElem? (i := 607) (by decide +kernel), List.mem_of_getElem? (i := 608) (by decide +kernel)⟩
theorem lw_p20 : lw_okq (⟨"WhereTheSpoonWent", "followTurned", "(LWhereTheSpoonWent$Flight;I)V"⟩, 14) := ⟨⟨by decide +kernel, by decide +kernel⟩, List.mem_of_getElem? (i := 21) (by decide +kernel), List.mem_of_getElem? (i := 611) (by decide +kernel), List.mem_of_getElem? (i := 612) (by decide +kernel)⟩
theorem lw_p21 : lw_okq (⟨"WhereTheSpoonWent", "firstIn", "(I)I"⟩, 14) := ⟨⟨by decide +kernel, by decide +kernel⟩, List.mem_of_getElem? (i := 21) (by decide +kernel), List.mem_of_getElem? (i := 619) (by decide +kernel), List.mem_of_getElem? (i := 620) (by decide +kernel)⟩
theorem lw_p22 : lw_okq (⟨"WhereTheSpoonWent", "measure", "(I)V"⟩, 14) := ⟨⟨by decide +kernel, by decide +kernel⟩, List.mem_of_getElem? (i := 21) (by decide +kernel), List.mem_of_getElem? (i := 635) (by decide +kernel), List.mem_of_getElem? (i := 636) (by decide +kernel)⟩
theorem lw_p23 : lw_okq (⟨"WhereTheSpoonWent", "soonest", "(II)I"⟩, 14) := ⟨⟨by decide +kernel, by decide +kernel⟩, List.mem_of_getElem? (i := 21) (by decide +kernel), List.mem_of_getElem? (i := 640) (by decide +kernel), List.mem_of_getElem? (i := 641) (by decide +kernel)⟩
theorem lw_p24 : lw_okq (⟨"WhereTheSpoonWent", "says", "(III)I"⟩, 14) := ⟨⟨by decide +kernel, by decide +kernel⟩, List.mem_of_getElem? (i := 21) (by decide +kernel), List.mem_of_getElem? (i := 644) (by decide +kernel), List.mem_of_getElem? (i := 645) (by decide +kernel)⟩
theorem lw_p25 : lw_okq (⟨"WhereTheSpoonWent", "letGo", "(II)LWhereTheSpoonWent$Flight;"⟩, 14) := ⟨⟨by decide +kernel, by decide +kernel⟩, List.mem_of_getElem? (i := 21) (by decide +kernel), List.mem_of_getElem? (i := 660) (by decide +kernel), List.mem_of_getElem? (i := 661) (by decide +kernel)⟩
theorem lw_p26 : lw_okq (⟨"WhereTheSpoonWent", "caught", "(II)I"⟩, 14) := ⟨⟨by decide +kernel, by decide +kernel⟩, List.mem_of_getElem? (i := 21) (by decide +kernel), List.mem_of_getElem? (i := 676) (by decide +kernel), List.mem_of_getElem? (i := 677) (by decide +kernel)⟩
theorem lw_p27 : lw_okq (⟨"WhereTheSpoonWent", "endOf", "(III)I"⟩, 14) := ⟨⟨by decide +kernel, by decide +kernel⟩, List.mem_of_getElem? (i := 21) (by decide +kernel), List.mem_of_getElem? (i := 684) (by decide +kernel), List.mem_of_getElem? (i := 685) (by decide +kernel)⟩
theorem lw_p28 : lw_okq (⟨"WhereTheSpoonWent", "tallyEnds", "(II)V"⟩, 14) := ⟨⟨by decide +kernel, by decide +kernel⟩, List.mem_of_getElem? (i := 21) (by decide +kernel), List.mem_of_getElem? (i := 692) (by decide +kernel), List.mem_of_getElem? (i := 693) (by decide +kernel)⟩
theorem lw_p29 : lw_okq (⟨"WhereTheSpoonWent", "countAhead", "(I)I"⟩, 14) := ⟨⟨by decide +kernel, by decide +kernel⟩, List.mem_of_getElem? (i := 21) (by decide +kernel), List.mem_of_getElem? (i := 705) (by decide +kernel), List.mem_of_getElem? (i := 706) (by decide +kernel)⟩
theorem lw_p30 : lw_okq (⟨"WhereTheSpoonWent", "refusalOfPlaces", "(I)I"⟩, 14) := ⟨⟨by decide +kernel, by decide +kernel⟩, List.mem_of_getElem? (i := 21) (by decide +kernel), List.mem_of_getElem? (i := 716) (by decide +kernel), List.mem_of_getElem? (i := 717) (by decide +kernel)⟩
theorem lw_p31 : lw_okq (⟨"WhereTheSpoonWent", "firstElsewhere", "(IILWhereTheSpoonWent$Text;)I"⟩, 14) := ⟨⟨by decide +kernel, by decide +kernel⟩, List.mem_of_getElem? (i := 21) (by decide +kernel), List.mem_of_getElem? (i := 723) (by decide +kernel), List.mem_of_getElem? (i := 724) (by decide +kernel)⟩
def lw_privs_2 : List (MethodName × Nat) := [(⟨"WhereTheSpoonWent", "isThing", "(I)Z"⟩, 14), (⟨"WhereTheSpoonWent", "behind", "(II)LWhereTheSpoonWent$Flight;"⟩, 14), (⟨"WhereTheSpoonWent", "lift", "(I)LWhereTheSpoonWent$Flight;"⟩, 14), (⟨"WhereTheSpoonWent", "follow", "(LWhereTheSpoonWent$Flight;)V"⟩, 14), (⟨"WhereTheSpoonWent", "followTurned", "(LWhereTheSpoonWent$Flight;I)V"⟩, 14), (⟨"WhereTheSpoonWent", "firstIn", "(I)I"⟩, 14), (⟨"WhereTheSpoonWent", "measure", "(I)V"⟩, 14), (⟨"WhereTheSpoonWent", "soonest", "(II)I"⟩, 14), (⟨"WhereTheSpoonWent", "says", "(III)I"⟩, 14), (⟨"WhereTheSpoonWent", "letGo", "(II)LWhereTheSpoonWent$Flight;"⟩, 14), (⟨"WhereTheSpoonWent", "caught", "(II)I"⟩, 14), (⟨"WhereTheSpoonWent", "endOf", "(III)I"⟩, 14), (⟨"WhereTheSpoonWent", "tallyEnds", "(II)V"⟩, 14), (⟨"WhereTheSpoonWent", "countAhead", "(I)I"⟩, 14), (⟨"WhereTheSpoonWent", "refusalOfPlaces", "(I)I"⟩, 14), (⟨"WhereTheSpoonWent", "firstElsewhere", "(IILWhereTheSpoonWent$Text;)I"⟩, 14)]
theorem lw_r2 : ∀ q ∈ lw_privs_2, lw_okq q := List.forall_mem_cons.mpr ⟨lw_p16, List.forall_mem_cons.mpr ⟨lw_p17, List.forall_mem_cons.mpr ⟨lw_p18, List.forall_mem_cons.mpr ⟨lw_p19, List.forall_mem_cons.mpr ⟨lw_p20, List.forall_mem_cons.mpr ⟨lw_p21, List.forall_mem_cons.mpr ⟨lw_p22, List.forall_mem_cons.mpr ⟨lw_p23, List.forall_mem_cons.mpr ⟨lw_p24, List.forall_mem_cons.mpr ⟨lw_p25, List.forall_mem_cons.mpr ⟨lw_p26, List.forall_mem_cons.mpr ⟨lw_p27, List.forall_mem_cons.mpr ⟨lw_p28, List.forall_mem_cons.mpr ⟨lw_p29, List.forall_mem_cons.mpr ⟨lw_p30, List.forall_mem_cons.mpr ⟨lw_p31, fun _ h => absurd h List.not_mem_nil⟩⟩⟩⟩⟩⟩⟩⟩⟩⟩⟩⟩⟩⟩⟩⟩
theorem lw_p32 : lw_okq (⟨"WhereTheSpoonWent", "listEnds", "(I)V"⟩, 14) := ⟨⟨by decide +kernel, by decide +kernel⟩, List.mem_of_getElem? (i := 21) (by decide +kernel), List.mem_of_getElem? (i := 753) (by decide +kernel), List.mem_of_getElem? (i := 754) (by decide +kernel)⟩
theorem lw_p33 : lw_okq (⟨"WhereTheSpoonWent", "countDrawn", "(II)I"⟩, 14) := ⟨⟨by decide +kernel, by decide +kernel⟩, List.mem_of_getElem? (i := 21) (by decide +kernel), List.mem_of_getElem? (i := 757) (by decide +kernel), List.mem_of_getElem? (i := 758) (by decide +kernel)⟩
theorem lw_p34 : lw_okq (⟨"WhereTheSpoonWent", "takenCell", "(II)I"⟩, 14) := ⟨⟨by decide +kernel, by decide +kernel⟩, List.mem_of_getElem? (i := 21) (by decide +kernel), List.mem_of_getElem? (i := 813) (by decide +kernel), List.mem_of_getElem? (i := 814) (by decide +kernel)⟩
theorem lw_p35 : lw_okq (⟨"WhereTheSpoonWent", "takenThing", "(II)I"⟩, 14) := ⟨⟨by decide +kernel, by decide +kernel⟩, List.mem_of_getElem? (i := 21) (by decide +kernel), List.mem_of_getElem? (i := 817) (by decide +kernel), List.mem_of_getElem? (i := 818) (by decide +kernel)⟩
theorem lw_p36 : lw_okq (⟨"WhereTheSpoonWentModel", "next", "()V"⟩, 36) := ⟨⟨by decide +kernel, by decide +kernel⟩, List.mem_of_getElem? (i := 846) (by decide +kernel), List.mem_of_getElem? (i := 856) (by decide +kernel), List.mem_of_getElem? (i := 857) (by decide +kernel)⟩
theorem lw_p37 : lw_okq (⟨"WhereTheSpoonWentModel", "wordFrom", "(II)I"⟩, 36) := ⟨⟨by decide +kernel, by decide +kernel⟩, List.mem_of_getElem? (i := 846) (by decide +kernel), List.mem_of_getElem? (i := 863) (by decide +kernel), List.mem_of_getElem? (i := 864) (by decide +kernel)⟩
theorem lw_p38 : lw_okq (⟨"WhereTheSpoonWentModel", "eRead", "()Z"⟩, 36) := ⟨⟨by decide +kernel, by decide +kernel⟩, List.mem_of_getElem? (i := 846) (by decide +kernel), List.mem_of_getElem? (i := 867) (by decide +kernel), List.mem_of_getElem? (i := 868) (by decide +kernel)⟩
theorem lw_p39 : lw_okq (⟨"WhereTheSpoonWentModel", "puts", "(I)V"⟩, 36) := ⟨⟨by decide +kernel, by decide +kernel⟩, List.mem_of_getElem? (i := 846) (by decide +kernel), List.mem_of_getElem? (i := 872) (by decide +kernel), List.mem_of_getElem? (i := 873) (by decide +kernel)⟩
theorem lw_p40 : lw_okq (⟨"WhereTheSpoonWentModel", "unwinds", "(I)V"⟩, 36) := ⟨⟨by decide +kernel, by decide +kernel⟩, List.mem_of_getElem? (i := 846) (by decide +kernel), List.mem_of_getElem? (i := 876) (by decide +kernel), List.mem_of_getElem? (i := 877) (by decide +kernel)⟩
theorem lw_p41 : lw_okq (⟨"WhereTheSpoonWentModel", "opensOne", "(I)Z"⟩, 36) := ⟨⟨by decide +kernel, by decide +kernel⟩, List.mem_of_getElem? (i := 846) (by decide +kernel), List.mem_of_getElem? (i := 883) (by decide +kernel), List.mem_of_getElem? (i := 884) (by decide +kernel)⟩
theorem lw_p42 : lw_okq (⟨"WhereTheSpoonWentModel", "holds", "(I)V"⟩, 36) := ⟨⟨by decide +kernel, by decide +kernel⟩, List.mem_of_getElem? (i := 846) (by decide +kernel), List.mem_of_getElem? (i := 887) (by decide +kernel), List.mem_of_getElem? (i := 888) (by decide +kernel)⟩
theorem lw_p43 : lw_okq (⟨"WhereTheSpoonWentModel", "signOf", "()I"⟩, 36) := ⟨⟨by decide +kernel, by decide +kernel⟩, List.mem_of_getElem? (i := 846) (by decide +kernel), List.mem_of_getElem? (i := 891) (by decide +kernel), List.mem_of_getElem? (i := 892) (by decide +kernel)⟩
theorem lw_p44 : lw_okq (⟨"WhereTheSpoonWentModel", "between", "(I)Z"⟩, 36) := ⟨⟨by decide +kernel, by decide +kernel⟩, List.mem_of_getElem? (i := 846) (by decide +kernel), List.mem_of_getElem? (i := 895) (by decide +kernel), List.mem_of_getElem? (i := 896) (by decide +kernel)⟩
theorem lw_p45 : lw_okq (⟨"WhereTheSpoonWentModel", "isThere", "(I)Z"⟩, 36) := ⟨⟨by decide +kernel, by decide +kernel⟩, List.mem_of_getElem? (i := 846) (by decide +kernel), List.mem_of_getElem? (i := 1015) (by decide +kernel), List.mem_of_getElem? (i := 1016) (by decide +kernel)⟩
theorem lw_p46 : lw_okq (⟨"WhereTheSpoonWentModel", "has", "(II)Z"⟩, 36) := ⟨⟨by decide +kernel, by decide +kernel⟩, List.mem_of_getElem? (i := 846) (by decide +kernel), List.mem_of_getElem? (i := 1019) (by decide +kernel), List.mem_of_getElem? (i := 1020) (by decide +kernel)⟩
theorem lw_p47 : lw_okq (⟨"WhereTheSpoonWentModel", "asksOf", "(IIIII)I"⟩, 36) := ⟨⟨by decide +kernel, by decide +kernel⟩, List.mem_of_getElem? (i := 846) (by decide +kernel), List.mem_of_getElem? (i := 1047) (by decide +kernel), List.mem_of_getElem? (i := 1048) (by decide +kernel)⟩
def lw_privs_3 : List (MethodName × Nat) := [(⟨"WhereTheSpoonWent", "listEnds", "(I)V"⟩, 14), (⟨"WhereTheSpoonWent", "countDrawn", "(II)I"⟩, 14), (⟨"WhereTheSpoonWent", "takenCell", "(II)I"⟩, 14), (⟨"WhereTheSpoonWent", "takenThing", "(II)I"⟩, 14), (⟨"WhereTheSpoonWentModel", "next", "()V"⟩, 36), (⟨"WhereTheSpoonWentModel", "wordFrom", "(II)I"⟩, 36), (⟨"WhereTheSpoonWentModel", "eRead", "()Z"⟩, 36), (⟨"WhereTheSpoonWentModel", "puts", "(I)V"⟩, 36), (⟨"WhereTheSpoonWentModel", "unwinds", "(I)V"⟩, 36), (⟨"WhereTheSpoonWentModel", "opensOne", "(I)Z"⟩, 36), (⟨"WhereTheSpoonWentModel", "holds", "(I)V"⟩, 36), (⟨"WhereTheSpoonWentModel", "signOf", "()I"⟩, 36), (⟨"WhereTheSpoonWentModel", "between", "(I)Z"⟩, 36), (⟨"WhereTheSpoonWentModel", "isThere", "(I)Z"⟩, 36), (⟨"WhereTheSpoonWentModel", "has", "(II)Z"⟩, 36), (⟨"WhereTheSpoonWentModel", "asksOf", "(IIIII)I"⟩, 36)]
theorem lw_r3 : ∀ q ∈ lw_privs_3, lw_okq q := List.forall_mem_cons.mpr ⟨lw_p32, List.forall_mem_cons.mpr ⟨lw_p33, List.forall_mem_cons.mpr ⟨lw_p34, List.forall_mem_cons.mpr ⟨lw_p35, List.forall_mem_cons.mpr ⟨lw_p36, List.forall_mem_cons.mpr ⟨lw_p37, List.forall_mem_cons.mpr ⟨lw_p38, List.forall_mem_cons.mpr ⟨lw_p39, List.forall_mem_cons.mpr ⟨lw_p40, List.forall_mem_cons.mpr ⟨lw_p41, List.forall_mem_cons.mpr ⟨lw_p42, List.forall_mem_cons.mpr ⟨lw_p43, List.forall_mem_cons.mpr ⟨lw_p44, List.forall_mem_cons.mpr ⟨lw_p45, List.forall_mem_cons.mpr ⟨lw_p46, List.forall_mem_cons.mpr ⟨lw_p47, fun _ h => absurd h List.not_mem_nil⟩⟩⟩⟩⟩⟩⟩⟩⟩⟩⟩⟩⟩⟩⟩⟩
theorem lw_p48 : lw_okq (⟨"WhereTheSpoonWentModel", "says", "(I)I"⟩, 36) := ⟨⟨by decide +kernel, by decide +kernel⟩, List.mem_of_getElem? (i := 846) (by decide +kernel), List.mem_of_getElem? (i := 1051) (by decide +kernel), List.mem_of_getElem? (i := 1052) (by decide +kernel)⟩
theorem lw_p49 : lw_okq (⟨"WhereTheSpoonWentModel", "isFree", "(I)Z"⟩, 36) := ⟨⟨by decide +kernel, by decide +kernel⟩, List.mem_of_getElem? (i := 846) (by decide +kernel), List.mem_of_getElem? (i := 1065) (by decide +kernel), List.mem_of_getElem? (i := 1066) (by decide +kernel)⟩
theorem lw_p50 : lw_okq (⟨"WhereTheSpoonWentModel", "isThing", "(I)Z"⟩, 36) := ⟨⟨by decide +kernel, by decide +kernel⟩, List.mem_of_getElem? (i := 846) (by decide +kernel), List.mem_of_getElem? (i := 1073) (by decide +kernel), List.mem_of_getElem? (i := 1074) (by decide +kernel)⟩
theorem lw_p51 : lw_okq (⟨"WhereTheSpoonWentModel", "cellBehind", "(II)I"⟩, 36) := ⟨⟨by decide +kernel, by decide +kernel⟩, List.mem_of_getElem? (i := 846) (by decide +kernel), List.mem_of_getElem? (i := 1088) (by decide +kernel), List.mem_of_getElem? (i := 1089) (by decide +kernel)⟩
theorem lw_p52 : lw_okq (⟨"WhereTheSpoonWentModel", "begins", "(I)V"⟩, 36) := ⟨⟨by decide +kernel, by decide +kernel⟩, List.mem_of_getElem? (i := 846) (by decide +kernel), List.mem_of_getElem? (i := 1092) (by decide +kernel), List.mem_of_getElem? (i := 1093) (by decide +kernel)⟩
theorem lw_p53 : lw_okq (⟨"WhereTheSpoonWentModel", "goesBehind", "(II)V"⟩, 36) := ⟨⟨by decide +kernel, by decide +kernel⟩, List.mem_of_getElem? (i := 846) (by decide +kernel), List.mem_of_getElem? (i := 1096) (by decide +kernel), List.mem_of_getElem? (i := 1097) (by decide +kernel)⟩
theorem lw_p54 : lw_okq (⟨"WhereTheSpoonWentModel", "steps", "(II)V"⟩, 36) := ⟨⟨by decide +kernel, by decide +kernel⟩, List.mem_of_getElem? (i := 846) (by decide +kernel), List.mem_of_getElem? (i := 1100) (by decide +kernel), List.mem_of_getElem? (i := 1101) (by decide +kernel)⟩
theorem lw_p55 : lw_okq (⟨"WhereTheSpoonWentModel", "blown", "(III)I"⟩, 36) := ⟨⟨by decide +kernel, by decide +kernel⟩, List.mem_of_getElem? (i := 846) (by decide +kernel), List.mem_of_getElem? (i := 1104) (by decide +kernel), List.mem_of_getElem? (i := 1105) (by decide +kernel)⟩
theorem lw_p56 : lw_okq (⟨"WhereTheSpoonWentModel", "touching", "(II)I"⟩, 36) := ⟨⟨by decide +kernel, by decide +kernel⟩, List.mem_of_getElem? (i := 846) (by decide +kernel), List.mem_of_getElem? (i := 1111) (by decide +kernel), List.mem_of_getElem? (i := 1112) (by decide +kernel)⟩
theorem lw_p57 : lw_okq (⟨"WhereTheSpoonWentModel", "first0", "(II)I"⟩, 36) := ⟨⟨by decide +kernel, by decide +kernel⟩, List.mem_of_getElem? (i := 846) (by decide +kernel), List.mem_of_getElem? (i := 1123) (by decide +kernel), List.mem_of_getElem? (i := 1124) (by decide +kernel)⟩
theorem lw_p58 : lw_okq (⟨"WhereTheSpoonWentModel", "spreads", "(I)V"⟩, 36) := ⟨⟨by decide +kernel, by decide +kernel⟩, List.mem_of_getElem? (i := 846) (by decide +kernel), List.mem_of_getElem? (i := 1139) (by decide +kernel), List.mem_of_getElem? (i := 1140) (by decide +kernel)⟩
theorem lw_p59 : lw_okq (⟨"WhereTheSpoonWentModel", "soonest", "(II)I"⟩, 36) := ⟨⟨by decide +kernel, by decide +kernel⟩, List.mem_of_getElem? (i := 846) (by decide +kernel), List.mem_of_getElem? (i := 1143) (by decide +kernel), List.mem_of_getElem? (i := 1144) (by decide +kernel)⟩
theorem lw_p60 : lw_okq (⟨"WhereTheSpoonWentModel", "turnedFirst", "(III)I"⟩, 36) := ⟨⟨by decide +kernel, by decide +kernel⟩, List.mem_of_getElem? (i := 846) (by decide +kernel), List.mem_of_getElem? (i := 1167) (by decide +kernel), List.mem_of_getElem? (i := 1168) (by decide +kernel)⟩
theorem lw_p61 : lw_okq (⟨"WhereTheSpoonWentModel", "netted", "(I)I"⟩, 36) := ⟨⟨by decide +kernel, by decide +kernel⟩, List.mem_of_getElem? (i := 846) (by decide +kernel), List.mem_of_getElem? (i := 1175) (by decide +kernel), List.mem_of_getElem? (i := 1176) (by decide +kernel)⟩
theorem lw_p62 : lw_okq (⟨"WhereTheSpoonWentModel", "letsGo", "(II)V"⟩, 36) := ⟨⟨by decide +kernel, by decide +kernel⟩, List.mem_of_getElem? (i := 846) (by decide +kernel), List.mem_of_getElem? (i := 1183) (by decide +kernel), List.mem_of_getElem? (i := 1184) (by decide +kernel)⟩
theorem lw_p63 : lw_okq (⟨"WhereTheSpoonWentModel", "byHowMany", "(I)I"⟩, 36) := ⟨⟨by decide +kernel, by decide +kernel⟩, List.mem_of_getElem? (i := 846) (by decide +kernel), List.mem_of_getElem? (i := 1191) (by decide +kernel), List.mem_of_getElem? (i := 1192) (by decide +kernel)⟩
def lw_privs_4 : List (MethodName × Nat) := [(⟨"WhereTheSpoonWentModel", "says", "(I)I"⟩, 36), (⟨"WhereTheSpoonWentModel", "isFree", "(I)Z"⟩, 36), (⟨"WhereTheSpoonWentModel", "isThing", "(I)Z"⟩, 36), (⟨"WhereTheSpoonWentModel", "cellBehind", "(II)I"⟩, 36), (⟨"WhereTheSpoonWentModel", "begins", "(I)V"⟩, 36), (⟨"WhereTheSpoonWentModel", "goesBehind", "(II)V"⟩, 36), (⟨"WhereTheSpoonWentModel", "steps", "(II)V"⟩, 36), (⟨"WhereTheSpoonWentModel", "blown", "(III)I"⟩, 36), (⟨"WhereTheSpoonWentModel", "touching", "(II)I"⟩, 36), (⟨"WhereTheSpoonWentModel", "first0", "(II)I"⟩, 36), (⟨"WhereTheSpoonWentModel", "spreads", "(I)V"⟩, 36), (⟨"WhereTheSpoonWentModel", "soonest", "(II)I"⟩, 36), (⟨"WhereTheSpoonWentModel", "turnedFirst", "(III)I"⟩, 36), (⟨"WhereTheSpoonWentModel", "netted", "(I)I"⟩, 36), (⟨"WhereTheSpoonWentModel", "letsGo", "(II)V"⟩, 36), (⟨"WhereTheSpoonWentModel", "byHowMany", "(I)I"⟩, 36)]
theorem lw_r4 : ∀ q ∈ lw_privs_4, lw_okq q := List.forall_mem_cons.mpr ⟨lw_p48, List.forall_mem_cons.mpr ⟨lw_p49, List.forall_mem_cons.mpr ⟨lw_p50, List.forall_mem_cons.mpr ⟨lw_p51, List.forall_mem_cons.mpr ⟨lw_p52, List.forall_mem_cons.mpr ⟨lw_p53, List.forall_mem_cons.mpr ⟨lw_p54, List.forall_mem_cons.mpr ⟨lw_p55, List.forall_mem_cons.mpr ⟨lw_p56, List.forall_mem_cons.mpr ⟨lw_p57, List.forall_mem_cons.mpr ⟨lw_p58, List.forall_mem_cons.mpr ⟨lw_p59, List.forall_mem_cons.mpr ⟨lw_p60, List.forall_mem_cons.mpr ⟨lw_p61, List.forall_mem_cons.mpr ⟨lw_p62, List.forall_mem_cons.mpr ⟨lw_p63, fun _ h => absurd h List.not_mem_nil⟩⟩⟩⟩⟩⟩⟩⟩⟩⟩⟩⟩⟩⟩⟩⟩
theorem lw_p64 : lw_okq (⟨"WhereTheSpoonWentModel", "lookFor", "(I)I"⟩, 36) := ⟨⟨by decide +kernel, by decide +kernel⟩, List.mem_of_getElem? (i := 846) (by decide +kernel), List.mem_of_getElem? (i := 1204) (by decide +kernel), List.mem_of_getElem? (i := 1205) (by decide +kernel)⟩
theorem lw_p65 : lw_okq (⟨"WhereTheSpoonWentModel", "toldWrong", "(II)I"⟩, 36) := ⟨⟨by decide +kernel, by decide +kernel⟩, List.mem_of_getElem? (i := 846) (by decide +kernel), List.mem_of_getElem? (i := 1216) (by decide +kernel), List.mem_of_getElem? (i := 1217) (by decide +kernel)⟩
theorem lw_p66 : lw_okq (⟨"WhereTheSpoonWentModel", "sheetWrong", "(I)I"⟩, 36) := ⟨⟨by decide +kernel, by decide +kernel⟩, List.mem_of_getElem? (i := 846) (by decide +kernel), List.mem_of_getElem? (i := 1220) (by decide +kernel), List.mem_of_getElem? (i := 1221) (by decide +kernel)⟩
theorem lw_p67 : lw_okq (⟨"WhereTheSpoonWentModel", "unlike", "(II)I"⟩, 36) := ⟨⟨by decide +kernel, by decide +kernel⟩, List.mem_of_getElem? (i := 846) (by decide +kernel), List.mem_of_getElem? (i := 1224) (by decide +kernel), List.mem_of_getElem? (i := 1225) (by decide +kernel)⟩
theorem lw_p68 : lw_okq (⟨"WhereTheSpoonWentModel", "insideBy", "(III)I"⟩, 36) := ⟨⟨by decide +kernel, by decide +kernel⟩, List.mem_of_getElem? (i := 846) (by decide +kernel), List.mem_of_getElem? (i := 1248) (by decide +kernel), List.mem_of_getElem? (i := 1249) (by decide +kernel)⟩
def lw_privs_5 : List (MethodName × Nat) := [(⟨"WhereTheSpoonWentModel", "lookFor", "(I)I"⟩, 36), (⟨"WhereTheSpoonWentModel", "toldWrong", "(II)I"⟩, 36), (⟨"WhereTheSpoonWentModel", "sheetWrong", "(I)I"⟩, 36), (⟨"WhereTheSpoonWentModel", "unlike", "(II)I"⟩, 36), (⟨"WhereTheSpoonWentModel", "insideBy", "(III)I"⟩, 36)]
theorem lw_r5 : ∀ q ∈ lw_privs_5, lw_okq q := List.forall_mem_cons.mpr ⟨lw_p64, List.forall_mem_cons.mpr ⟨lw_p65, List.forall_mem_cons.mpr ⟨lw_p66, List.forall_mem_cons.mpr ⟨lw_p67, List.forall_mem_cons.mpr ⟨lw_p68, fun _ h => absurd h List.not_mem_nil⟩⟩⟩⟩⟩
def lw_privs : List (MethodName × Nat) := lw_privs_1 ++ (lw_privs_2 ++ (lw_privs_3 ++ (lw_privs_4 ++ (lw_privs_5))))
def lw_tbl : List Cond := k2_sels lw_privs ++ tables_1
theorem lw_privs_ok : ∀ q ∈ lw_privs, lw_okq q := by
  show ∀ q ∈ lw_privs_1 ++ (lw_privs_2 ++ (lw_privs_3 ++ (lw_privs_4 ++ (lw_privs_5)))), lw_okq q
  exact List.forall_mem_append.mpr ⟨lw_r1, List.forall_mem_append.mpr ⟨lw_r2, List.forall_mem_append.mpr ⟨lw_r3, List.forall_mem_append.mpr ⟨lw_r4, lw_r5⟩⟩⟩⟩
-- ===== end of PART A; then your names; then what follows =====
end
section
def RX0 : String := "WhereTheSpoonWent$Cat"
def TX0 : u_T := fun k => match k with
  | _ => ("", "", "", false)
def tyX0 : Nat → FieldType := fun k => match k with
  | _ => .int
abbrev wsX00 : List Cond := u_ws RX0 TX0 0
theorem nmX0 : ∀ a, a < 0 → ∀ b, b < 0 → a ≠ b → (TX0 a).2.1 ≠ (TX0 b).2.1 := by decide +kernel
theorem tyX0_ok : ∀ k, k < 0 → parseFieldDescriptor (TX0 k).2.2.1 = some (tyX0 k) := by decide +kernel
abbrev cX0_init : ByteArray := prog_2_method_1_code
def yX0_init : MethodName := ⟨RX0, "<init>", "()V"⟩
abbrev cX0_isOne : ByteArray := prog_2_method_2_code
def yX0_isOne : MethodName := ⟨RX0, "isOne", "(I)Z"⟩
abbrev cX0_blown : ByteArray := prog_2_method_3_code
def yX0_blown : MethodName := ⟨RX0, "blown", "(II)I"⟩
def RX1 : String := "WhereTheSpoonWent$Flight"
def TX1 : u_T := fun k => match k with
  | 0 => ("WhereTheSpoonWent$Flight", "house", "LWhereTheSpoonWent$House;", true)
  | 1 => ("WhereTheSpoonWent$Flight", "law", "LWhereTheSpoonWent$Text;", false)
  | 2 => ("WhereTheSpoonWent$Flight", "kind", "LWhereTheSpoonWent$Thing;", false)
  | 3 => ("WhereTheSpoonWent$Flight", "nets", "I", false)
  | 4 => ("WhereTheSpoonWent$Flight", "number", "I", false)
  | 5 => ("WhereTheSpoonWent$Flight", "more", "I", false)
  | 6 => ("WhereTheSpoonWent$Flight", "cell", "I", false)
  | _ => ("WhereTheSpoonWent$Flight", "way", "I", false)
def tyX1 : Nat → FieldType := fun k => match k with
  | 0 => .object "WhereTheSpoonWent$House"
  | 1 => .object "WhereTheSpoonWent$Text"
  | 2 => .object "WhereTheSpoonWent$Thing"
  | 3 => .int
  | 4 => .int
  | 5 => .int
  | 6 => .int
  | _ => .int
abbrev wsX10 : List Cond := u_ws RX1 TX1 8
theorem nmX1 : ∀ a, a < 8 → ∀ b, b < 8 → a ≠ b → (TX1 a).2.1 ≠ (TX1 b).2.1 := by decide +kernel
theorem tyX1_ok : ∀ k, k < 8 → parseFieldDescriptor (TX1 k).2.2.1 = some (tyX1 k) := by decide +kernel
abbrev cX1_init : ByteArray := prog_3_method_1_code
def yX1_init : MethodName := ⟨RX1, "<init>", "(LWhereTheSpoonWent$House;)V"⟩
abbrev cX1_passAll : ByteArray := prog_3_method_2_code
def yX1_passAll : MethodName := ⟨RX1, "passAll", "(II)V"⟩
abbrev cX1_pass : ByteArray := prog_3_method_3_code
def yX1_pass : MethodName := ⟨RX1, "pass", "(I)V"⟩
def RX2 : String := "WhereTheSpoonWent$Heavy"
def TX2 : u_T := fun k => match k with
  | _ => ("", "", "", false)
def tyX2 : Nat → FieldType := fun k => match k with
  | _ => .int
abbrev wsX20 : List Cond := u_ws RX2 TX2 0
theorem nmX2 : ∀ a, a < 0 → ∀ b, b < 0 → a ≠ b → (TX2 a).2.1 ≠ (TX2 b).2.1 := by decide +kernel
theorem tyX2_ok : ∀ k, k < 0 → parseFieldDescriptor (TX2 k).2.2.1 = some (tyX2 k) := by decide +kernel
abbrev cX2_init : ByteArray := prog_4_method_1_code
def yX2_init : MethodName := ⟨RX2, "<init>", "()V"⟩
abbrev cX2_isOne : ByteArray := prog_4_method_2_code
def yX2_isOne : MethodName := ⟨RX2, "isOne", "(I)Z"⟩
abbrev cX2_blown : ByteArray := prog_4_method_3_code
def yX2_blown : MethodName := ⟨RX2, "blown", "(II)I"⟩
def RX3 : String := "WhereTheSpoonWent$House"
def TX3 : u_T := fun k => match k with
  | 0 => ("WhereTheSpoonWent$House", "walls", "I", false)
  | 1 => ("WhereTheSpoonWent$House", "nets", "I", false)
  | 2 => ("WhereTheSpoonWent$House", "fans", "I", false)
  | 3 => ("WhereTheSpoonWent$House", "step", "I", false)
  | 4 => ("WhereTheSpoonWent$House", "law", "I", false)
  | 5 => ("WhereTheSpoonWent$House", "things", "I", false)
  | 6 => ("WhereTheSpoonWent$House", "kinds", "[I", true)
  | 7 => ("WhereTheSpoonWent$House", "mores", "[I", true)
  | 8 => ("WhereTheSpoonWent$House", "cells", "[I", true)
  | _ => ("WhereTheSpoonWent$House", "ways", "[I", true)
def tyX3 : Nat → FieldType := fun k => match k with
  | 0 => .int
  | 1 => .int
  | 2 => .int
  | 3 => .int
  | 4 => .int
  | 5 => .int
  | 6 => .array .int
  | 7 => .array .int
  | 8 => .array .int
  | _ => .array .int
abbrev wsX30 : List Cond := u_ws RX3 TX3 10
theorem nmX3 : ∀ a, a < 10 → ∀ b, b < 10 → a ≠ b → (TX3 a).2.1 ≠ (TX3 b).2.1 := by decide +kernel
theorem tyX3_ok : ∀ k, k < 10 → parseFieldDescriptor (TX3 k).2.2.1 = some (tyX3 k) := by decide +kernel
abbrev cX3_init : ByteArray := prog_5_method_1_code
def yX3_init : MethodName := ⟨RX3, "<init>", "()V"⟩
abbrev cX3_become : ByteArray := prog_5_method_2_code
def yX3_become : MethodName := ⟨RX3, "become", "(LWhereTheSpoonWent$House;)V"⟩
abbrev cX3_bits : ByteArray := prog_5_method_3_code
def yX3_bits : MethodName := ⟨RX3, "bits", "(I)I"⟩
abbrev cX3_flip : ByteArray := prog_5_method_4_code
def yX3_flip : MethodName := ⟨RX3, "flip", "(II)V"⟩
abbrev cX3_beyond : ByteArray := prog_5_method_5_code
def yX3_beyond : MethodName := ⟨RX3, "beyond", "(II)I"⟩
def RX4 : String := "WhereTheSpoonWent$Reader"
def TX4 : u_T := fun k => match k with
  | 0 => ("WhereTheSpoonWent$Reader", "bytes", "[B", true)
  | 1 => ("WhereTheSpoonWent$Reader", "size", "I", false)
  | 2 => ("WhereTheSpoonWent$Reader", "token", "I", false)
  | 3 => ("WhereTheSpoonWent$Reader", "start", "I", false)
  | 4 => ("WhereTheSpoonWent$Reader", "next", "I", false)
  | 5 => ("WhereTheSpoonWent$Reader", "fault", "I", false)
  | _ => ("WhereTheSpoonWent$Reader", "out", "LWhereTheSpoonWent$Text;", false)
def tyX4 : Nat → FieldType := fun k => match k with
  | 0 => .array .byte
  | 1 => .int
  | 2 => .int
  | 3 => .int
  | 4 => .int
  | 5 => .int
  | _ => .object "WhereTheSpoonWent$Text"
abbrev wsX40 : List Cond := u_ws RX4 TX4 7
theorem nmX4 : ∀ a, a < 7 → ∀ b, b < 7 → a ≠ b → (TX4 a).2.1 ≠ (TX4 b).2.1 := by decide +kernel
theorem tyX4_ok : ∀ k, k < 7 → parseFieldDescriptor (TX4 k).2.2.1 = some (tyX4 k) := by decide +kernel
abbrev cX4_init : ByteArray := prog_6_method_1_code
def yX4_init : MethodName := ⟨RX4, "<init>", "()V"⟩
abbrev cX4_add : ByteArray := prog_6_method_2_code
def yX4_add : MethodName := ⟨RX4, "add", "(I)V"⟩
abbrev cX4_read : ByteArray := prog_6_method_3_code
def yX4_read : MethodName := ⟨RX4, "read", "(LWhereTheSpoonWent$Text;)I"⟩
abbrev cX4_readPart : ByteArray := prog_6_method_4_code
def yX4_readPart : MethodName := ⟨RX4, "readPart", "(I)V"⟩
abbrev cX4_readOr : ByteArray := prog_6_method_5_code
def yX4_readOr : MethodName := ⟨RX4, "readOr", "(I)V"⟩
abbrev cX4_readAnd : ByteArray := prog_6_method_6_code
def yX4_readAnd : MethodName := ⟨RX4, "readAnd", "(I)V"⟩
abbrev cX4_readNot : ByteArray := prog_6_method_7_code
def yX4_readNot : MethodName := ⟨RX4, "readNot", "(I)V"⟩
abbrev cX4_readSum : ByteArray := prog_6_method_8_code
def yX4_readSum : MethodName := ⟨RX4, "readSum", "(I)V"⟩
abbrev cX4_readTerm : ByteArray := prog_6_method_9_code
def yX4_readTerm : MethodName := ⟨RX4, "readTerm", "(I)V"⟩
abbrev cX4_readOne : ByteArray := prog_6_method_10_code
def yX4_readOne : MethodName := ⟨RX4, "readOne", "(I)V"⟩
abbrev cX4_take : ByteArray := prog_6_method_11_code
def yX4_take : MethodName := ⟨RX4, "take", "(I)V"⟩
abbrev cX4_fail : ByteArray := prog_6_method_12_code
def yX4_fail : MethodName := ⟨RX4, "fail", "()V"⟩
abbrev cX4_goOn : ByteArray := prog_6_method_13_code
def yX4_goOn : MethodName := ⟨RX4, "goOn", "()V"⟩
abbrev cX4_goOnNumber : ByteArray := prog_6_method_14_code
def yX4_goOnNumber : MethodName := ⟨RX4, "goOnNumber", "()V"⟩
abbrev cX4_goOnWord : ByteArray := prog_6_method_15_code
def yX4_goOnWord : MethodName := ⟨RX4, "goOnWord", "()V"⟩
abbrev cX4_isWord : ByteArray := prog_6_method_16_code
def yX4_isWord : MethodName := ⟨RX4, "isWord", "(Ljava/lang/String;)Z"⟩
abbrev cX4_isDigit : ByteArray := prog_6_method_17_code
def yX4_isDigit : MethodName := ⟨RX4, "isDigit", "(I)Z"⟩
abbrev cX4_isLetter : ByteArray := prog_6_method_18_code
def yX4_isLetter : MethodName := ⟨RX4, "isLetter", "(I)Z"⟩
abbrev cX4_signOf : ByteArray := prog_6_method_19_code
def yX4_signOf : MethodName := ⟨RX4, "signOf", "(I)I"⟩
def RX5 : String := "WhereTheSpoonWent$Screw"
def TX5 : u_T := fun k => match k with
  | _ => ("", "", "", false)
def tyX5 : Nat → FieldType := fun k => match k with
  | _ => .int
abbrev wsX50 : List Cond := u_ws RX5 TX5 0
theorem nmX5 : ∀ a, a < 0 → ∀ b, b < 0 → a ≠ b → (TX5 a).2.1 ≠ (TX5 b).2.1 := by decide +kernel
theorem tyX5_ok : ∀ k, k < 0 → parseFieldDescriptor (TX5 k).2.2.1 = some (tyX5 k) := by decide +kernel
abbrev cX5_init : ByteArray := prog_7_method_1_code
def yX5_init : MethodName := ⟨RX5, "<init>", "()V"⟩
abbrev cX5_isOne : ByteArray := prog_7_method_2_code
def yX5_isOne : MethodName := ⟨RX5, "isOne", "(I)Z"⟩
abbrev cX5_touching : ByteArray := prog_7_method_3_code
def yX5_touching : MethodName := ⟨RX5, "touching", "(I)I"⟩
def RX6 : String := "WhereTheSpoonWent$Sheet"
def TX6 : u_T := fun k => match k with
  | 0 => ("WhereTheSpoonWent$Sheet", "numbers", "[I", true)
  | 1 => ("WhereTheSpoonWent$Sheet", "sort", "I", false)
  | _ => ("WhereTheSpoonWent$Sheet", "size", "I", false)
def tyX6 : Nat → FieldType := fun k => match k with
  | 0 => .array .int
  | 1 => .int
  | _ => .int
abbrev wsX60 : List Cond := u_ws RX6 TX6 3
theorem nmX6 : ∀ a, a < 3 → ∀ b, b < 3 → a ≠ b → (TX6 a).2.1 ≠ (TX6 b).2.1 := by decide +kernel
theorem tyX6_ok : ∀ k, k < 3 → parseFieldDescriptor (TX6 k).2.2.1 = some (tyX6 k) := by decide +kernel
abbrev cX6_init : ByteArray := prog_8_method_1_code
def yX6_init : MethodName := ⟨RX6, "<init>", "()V"⟩
abbrev cX6_become : ByteArray := prog_8_method_2_code
def yX6_become : MethodName := ⟨RX6, "become", "(II)V"⟩
abbrev cX6_holds : ByteArray := prog_8_method_3_code
def yX6_holds : MethodName := ⟨RX6, "holds", "(II)Z"⟩
abbrev cX6_write : ByteArray := prog_8_method_4_code
def yX6_write : MethodName := ⟨RX6, "write", "(II)V"⟩
def RX7 : String := "WhereTheSpoonWent$Sticky"
def TX7 : u_T := fun k => match k with
  | _ => ("", "", "", false)
def tyX7 : Nat → FieldType := fun k => match k with
  | _ => .int
abbrev wsX70 : List Cond := u_ws RX7 TX7 0
theorem nmX7 : ∀ a, a < 0 → ∀ b, b < 0 → a ≠ b → (TX7 a).2.1 ≠ (TX7 b).2.1 := by decide +kernel
theorem tyX7_ok : ∀ k, k < 0 → parseFieldDescriptor (TX7 k).2.2.1 = some (tyX7 k) := by decide +kernel
abbrev cX7_init : ByteArray := prog_9_method_1_code
def yX7_init : MethodName := ⟨RX7, "<init>", "()V"⟩
abbrev cX7_isOne : ByteArray := prog_9_method_2_code
def yX7_isOne : MethodName := ⟨RX7, "isOne", "(I)Z"⟩
abbrev cX7_touching : ByteArray := prog_9_method_3_code
def yX7_touching : MethodName := ⟨RX7, "touching", "(I)I"⟩
def RX8 : String := "WhereTheSpoonWent$Tear"
def TX8 : u_T := fun k => match k with
  | _ => ("", "", "", false)
def tyX8 : Nat → FieldType := fun k => match k with
  | _ => .int
abbrev wsX80 : List Cond := u_ws RX8 TX8 0
theorem nmX8 : ∀ a, a < 0 → ∀ b, b < 0 → a ≠ b → (TX8 a).2.1 ≠ (TX8 b).2.1 := by decide +kernel
theorem tyX8_ok : ∀ k, k < 0 → parseFieldDescriptor (TX8 k).2.2.1 = some (tyX8 k) := by decide +kernel
abbrev cX8_init : ByteArray := prog_10_method_1_code
def yX8_init : MethodName := ⟨RX8, "<init>", "()V"⟩
abbrev cX8_isOne : ByteArray := prog_10_method_2_code
def yX8_isOne : MethodName := ⟨RX8, "isOne", "(I)Z"⟩
abbrev cX8_moves : ByteArray := prog_10_method_3_code
def yX8_moves : MethodName := ⟨RX8, "moves", "(II)Z"⟩
def RX9 : String := "WhereTheSpoonWent$Text"
def TX9 : u_T := fun k => match k with
  | 0 => ("WhereTheSpoonWent$Text", "codes", "[I", true)
  | 1 => ("WhereTheSpoonWent$Text", "starts", "[I", true)
  | 2 => ("WhereTheSpoonWent$Text", "stack", "[I", true)
  | 3 => ("WhereTheSpoonWent$Text", "used", "I", false)
  | _ => ("WhereTheSpoonWent$Text", "parts", "I", false)
def tyX9 : Nat → FieldType := fun k => match k with
  | 0 => .array .int
  | 1 => .array .int
  | 2 => .array .int
  | 3 => .int
  | _ => .int
abbrev wsX90 : List Cond := u_ws RX9 TX9 5
theorem nmX9 : ∀ a, a < 5 → ∀ b, b < 5 → a ≠ b → (TX9 a).2.1 ≠ (TX9 b).2.1 := by decide +kernel
theorem tyX9_ok : ∀ k, k < 5 → parseFieldDescriptor (TX9 k).2.2.1 = some (tyX9 k) := by decide +kernel
abbrev cX9_init : ByteArray := prog_11_method_1_code
def yX9_init : MethodName := ⟨RX9, "<init>", "([I)V"⟩
abbrev cX9_clear : ByteArray := prog_11_method_2_code
def yX9_clear : MethodName := ⟨RX9, "clear", "()V"⟩
abbrev cX9_add : ByteArray := prog_11_method_3_code
def yX9_add : MethodName := ⟨RX9, "add", "(I)V"⟩
abbrev cX9_endPart : ByteArray := prog_11_method_4_code
def yX9_endPart : MethodName := ⟨RX9, "endPart", "()V"⟩
abbrev cX9_becomeNumbers : ByteArray := prog_11_method_5_code
def yX9_becomeNumbers : MethodName := ⟨RX9, "becomeNumbers", "(III)V"⟩
abbrev cX9_says : ByteArray := prog_11_method_6_code
def yX9_says : MethodName := ⟨RX9, "says", "(IIIII)I"⟩
abbrev cX9_leaf : ByteArray := prog_11_method_7_code
def yX9_leaf : MethodName := ⟨RX9, "leaf", "(IIIII)I"⟩
abbrev cX9_joined : ByteArray := prog_11_method_8_code
def yX9_joined : MethodName := ⟨RX9, "joined", "(III)I"⟩
def RX10 : String := "WhereTheSpoonWent$Thing"
def TX10 : u_T := fun k => match k with
  | _ => ("", "", "", false)
def tyX10 : Nat → FieldType := fun k => match k with
  | _ => .int
abbrev wsX100 : List Cond := u_ws RX10 TX10 0
theorem nmX10 : ∀ a, a < 0 → ∀ b, b < 0 → a ≠ b → (TX10 a).2.1 ≠ (TX10 b).2.1 := by decide +kernel
theorem tyX10_ok : ∀ k, k < 0 → parseFieldDescriptor (TX10 k).2.2.1 = some (tyX10 k) := by decide +kernel
abbrev cX10_init : ByteArray := prog_12_method_1_code
def yX10_init : MethodName := ⟨RX10, "<init>", "()V"⟩
abbrev cX10_isOne : ByteArray := prog_12_method_2_code
def yX10_isOne : MethodName := ⟨RX10, "isOne", "(I)Z"⟩
abbrev cX10_touching : ByteArray := prog_12_method_3_code
def yX10_touching : MethodName := ⟨RX10, "touching", "(I)I"⟩
abbrev cX10_moves : ByteArray := prog_12_method_4_code
def yX10_moves : MethodName := ⟨RX10, "moves", "(II)Z"⟩
abbrev cX10_blown : ByteArray := prog_12_method_5_code
def yX10_blown : MethodName := ⟨RX10, "blown", "(II)I"⟩
def RX11 : String := "WhereTheSpoonWent"
def TX11 : u_T := fun k => match k with
  | 0 => ("WhereTheSpoonWent", "now", "LWhereTheSpoonWent$House;", true)
  | 1 => ("WhereTheSpoonWent", "kept", "LWhereTheSpoonWent$House;", true)
  | 2 => ("WhereTheSpoonWent", "isKept", "Z", false)
  | 3 => ("WhereTheSpoonWent", "kinds", "[LWhereTheSpoonWent$Thing;", true)
  | 4 => ("WhereTheSpoonWent", "texts", "[LWhereTheSpoonWent$Text;", true)
  | 5 => ("WhereTheSpoonWent", "textCount", "I", false)
  | 6 => ("WhereTheSpoonWent", "reader", "LWhereTheSpoonWent$Reader;", true)
  | 7 => ("WhereTheSpoonWent", "sheets", "[LWhereTheSpoonWent$Sheet;", true)
  | 8 => ("WhereTheSpoonWent", "flight", "LWhereTheSpoonWent$Flight;", true)
  | 9 => ("WhereTheSpoonWent", "path", "[I", true)
  | 10 => ("WhereTheSpoonWent", "far", "[I", true)
  | 11 => ("WhereTheSpoonWent", "queue", "[I", true)
  | 12 => ("WhereTheSpoonWent", "ends", "[I", true)
  | _ => ("WhereTheSpoonWent", "tally", "[I", true)
def tyX11 : Nat → FieldType := fun k => match k with
  | 0 => .object "WhereTheSpoonWent$House"
  | 1 => .object "WhereTheSpoonWent$House"
  | 2 => .boolean
  | 3 => .array (.object "WhereTheSpoonWent$Thing")
  | 4 => .array (.object "WhereTheSpoonWent$Text")
  | 5 => .int
  | 6 => .object "WhereTheSpoonWent$Reader"
  | 7 => .array (.object "WhereTheSpoonWent$Sheet")
  | 8 => .object "WhereTheSpoonWent$Flight"
  | 9 => .array .int
  | 10 => .array .int
  | 11 => .array .int
  | 12 => .array .int
  | _ => .array .int
abbrev wsX110 : List Cond := u_ws RX11 TX11 14
theorem nmX11 : ∀ a, a < 14 → ∀ b, b < 14 → a ≠ b → (TX11 a).2.1 ≠ (TX11 b).2.1 := by decide +kernel
theorem tyX11_ok : ∀ k, k < 14 → parseFieldDescriptor (TX11 k).2.2.1 = some (tyX11 k) := by decide +kernel
abbrev cX11_init : ByteArray := prog_1_method_1_code
def yX11_init : MethodName := ⟨RX11, "<init>", "()V"⟩
abbrev cX11_house : ByteArray := prog_1_method_2_code
def yX11_house : MethodName := ⟨RX11, "house", "(III)I"⟩
abbrev cX11_set : ByteArray := prog_1_method_3_code
def yX11_set : MethodName := ⟨RX11, "set", "(I)I"⟩
abbrev cX11_count : ByteArray := prog_1_method_4_code
def yX11_count : MethodName := ⟨RX11, "count", "(I)I"⟩
abbrev cX11_feed : ByteArray := prog_1_method_5_code
def yX11_feed : MethodName := ⟨RX11, "feed", "(IIIIII)I"⟩
abbrev cX11_text : ByteArray := prog_1_method_6_code
def yX11_text : MethodName := ⟨RX11, "text", "()I"⟩
abbrev cX11_force : ByteArray := prog_1_method_7_code
def yX11_force : MethodName := ⟨RX11, "force", "(I)I"⟩
abbrev cX11_asks : ByteArray := prog_1_method_8_code
def yX11_asks : MethodName := ⟨RX11, "asks", "(IIII)I"⟩
abbrev cX11_thing : ByteArray := prog_1_method_9_code
def yX11_thing : MethodName := ⟨RX11, "thing", "(III)I"⟩
abbrev cX11_put : ByteArray := prog_1_method_10_code
def yX11_put : MethodName := ⟨RX11, "put", "(III)I"⟩
abbrev cX11_told : ByteArray := prog_1_method_11_code
def yX11_told : MethodName := ⟨RX11, "told", "(II)I"⟩
abbrev cX11_at : ByteArray := prog_1_method_12_code
def yX11_at : MethodName := ⟨RX11, "at", "(III)I"⟩
abbrev cX11_run : ByteArray := prog_1_method_13_code
def yX11_run : MethodName := ⟨RX11, "run", "(I)I"⟩
abbrev cX11_when : ByteArray := prog_1_method_14_code
def yX11_when : MethodName := ⟨RX11, "when", "(II)I"⟩
abbrev cX11_meet : ByteArray := prog_1_method_15_code
def yX11_meet : MethodName := ⟨RX11, "meet", "(II)I"⟩
abbrev cX11_inside : ByteArray := prog_1_method_16_code
def yX11_inside : MethodName := ⟨RX11, "inside", "(II)I"⟩
abbrev cX11_hand : ByteArray := prog_1_method_17_code
def yX11_hand : MethodName := ⟨RX11, "hand", "(II)I"⟩
abbrev cX11_first : ByteArray := prog_1_method_18_code
def yX11_first : MethodName := ⟨RX11, "first", "(II)I"⟩
abbrev cX11_wait : ByteArray := prog_1_method_19_code
def yX11_wait : MethodName := ⟨RX11, "wait", "(II)I"⟩
abbrev cX11_toss : ByteArray := prog_1_method_20_code
def yX11_toss : MethodName := ⟨RX11, "toss", "(III)I"⟩
abbrev cX11_key : ByteArray := prog_1_method_21_code
def yX11_key : MethodName := ⟨RX11, "key", "()I"⟩
abbrev cX11_turn : ByteArray := prog_1_method_22_code
def yX11_turn : MethodName := ⟨RX11, "turn", "(III)I"⟩
abbrev cX11_net : ByteArray := prog_1_method_23_code
def yX11_net : MethodName := ⟨RX11, "net", "(II)I"⟩
abbrev cX11_can : ByteArray := prog_1_method_24_code
def yX11_can : MethodName := ⟨RX11, "can", "(II)I"⟩
abbrev cX11_look : ByteArray := prog_1_method_25_code
def yX11_look : MethodName := ⟨RX11, "look", "(III)I"⟩
abbrev cX11_went : ByteArray := prog_1_method_26_code
def yX11_went : MethodName := ⟨RX11, "went", "(III)I"⟩
abbrev cX11_search : ByteArray := prog_1_method_27_code
def yX11_search : MethodName := ⟨RX11, "search", "(III)J"⟩
abbrev cX11_judge : ByteArray := prog_1_method_28_code
def yX11_judge : MethodName := ⟨RX11, "judge", "(II)I"⟩
abbrev cX11_times : ByteArray := prog_1_method_29_code
def yX11_times : MethodName := ⟨RX11, "times", "(I)J"⟩
abbrev cX11_laws : ByteArray := prog_1_method_30_code
def yX11_laws : MethodName := ⟨RX11, "laws", "(II)I"⟩
abbrev cX11_film : ByteArray := prog_1_method_31_code
def yX11_film : MethodName := ⟨RX11, "film", "(II)I"⟩
abbrev cX11_drawn : ByteArray := prog_1_method_32_code
def yX11_drawn : MethodName := ⟨RX11, "drawn", "(III)I"⟩
abbrev cX11_mean : ByteArray := prog_1_method_33_code
def yX11_mean : MethodName := ⟨RX11, "mean", "(IIII)J"⟩
abbrev cX11_image : ByteArray := prog_1_method_34_code
def yX11_image : MethodName := ⟨RX11, "image", "()I"⟩
abbrev cX11_back : ByteArray := prog_1_method_35_code
def yX11_back : MethodName := ⟨RX11, "back", "()I"⟩
abbrev cX11_sheet : ByteArray := prog_1_method_36_code
def yX11_sheet : MethodName := ⟨RX11, "sheet", "(III)I"⟩
abbrev cX11_cell : ByteArray := prog_1_method_37_code
def yX11_cell : MethodName := ⟨RX11, "cell", "(III)I"⟩
abbrev cX11_copy : ByteArray := prog_1_method_38_code
def yX11_copy : MethodName := ⟨RX11, "copy", "(IIIII)I"⟩
abbrev cX11_thingsBy : ByteArray := prog_1_method_39_code
def yX11_thingsBy : MethodName := ⟨RX11, "thingsBy", "(IIII)I"⟩
abbrev cX11_taken : ByteArray := prog_1_method_40_code
def yX11_taken : MethodName := ⟨RX11, "taken", "(II)I"⟩
abbrev cX11_isCell : ByteArray := prog_1_method_41_code
def yX11_isCell : MethodName := ⟨RX11, "isCell", "(I)Z"⟩
abbrev cX11_isOpen : ByteArray := prog_1_method_42_code
def yX11_isOpen : MethodName := ⟨RX11, "isOpen", "(I)Z"⟩
abbrev cX11_isWay : ByteArray := prog_1_method_43_code
def yX11_isWay : MethodName := ⟨RX11, "isWay", "(I)Z"⟩
abbrev cX11_isStep : ByteArray := prog_1_method_44_code
def yX11_isStep : MethodName := ⟨RX11, "isStep", "(I)Z"⟩
abbrev cX11_isBehind : ByteArray := prog_1_method_45_code
def yX11_isBehind : MethodName := ⟨RX11, "isBehind", "(I)Z"⟩
abbrev cX11_isByte : ByteArray := prog_1_method_46_code
def yX11_isByte : MethodName := ⟨RX11, "isByte", "(I)Z"⟩
abbrev cX11_isSeed : ByteArray := prog_1_method_47_code
def yX11_isSeed : MethodName := ⟨RX11, "isSeed", "(I)Z"⟩
abbrev cX11_isSheet : ByteArray := prog_1_method_48_code
def yX11_isSheet : MethodName := ⟨RX11, "isSheet", "(I)Z"⟩
abbrev cX11_isChoice : ByteArray := prog_1_method_49_code
def yX11_isChoice : MethodName := ⟨RX11, "isChoice", "(I)Z"⟩
abbrev cX11_isThing : ByteArray := prog_1_method_50_code
def yX11_isThing : MethodName := ⟨RX11, "isThing", "(I)Z"⟩
abbrev cX11_has : ByteArray := prog_1_method_51_code
def yX11_has : MethodName := ⟨RX11, "has", "(II)Z"⟩
abbrev cX11_turned : ByteArray := prog_1_method_52_code
def yX11_turned : MethodName := ⟨RX11, "turned", "(I)I"⟩
abbrev cX11_isAnyThingIn : ByteArray := prog_1_method_53_code
def yX11_isAnyThingIn : MethodName := ⟨RX11, "isAnyThingIn", "(I)Z"⟩
abbrev cX11_law : ByteArray := prog_1_method_54_code
def yX11_law : MethodName := ⟨RX11, "law", "()LWhereTheSpoonWent$Text;"⟩
abbrev cX11_says : ByteArray := prog_1_method_55_code
def yX11_says : MethodName := ⟨RX11, "says", "(III)I"⟩
abbrev cX11_lift : ByteArray := prog_1_method_56_code
def yX11_lift : MethodName := ⟨RX11, "lift", "(I)LWhereTheSpoonWent$Flight;"⟩
abbrev cX11_letGo : ByteArray := prog_1_method_57_code
def yX11_letGo : MethodName := ⟨RX11, "letGo", "(II)LWhereTheSpoonWent$Flight;"⟩
abbrev cX11_behind : ByteArray := prog_1_method_58_code
def yX11_behind : MethodName := ⟨RX11, "behind", "(II)LWhereTheSpoonWent$Flight;"⟩
abbrev cX11_endOf : ByteArray := prog_1_method_59_code
def yX11_endOf : MethodName := ⟨RX11, "endOf", "(III)I"⟩
abbrev cX11_follow : ByteArray := prog_1_method_60_code
def yX11_follow : MethodName := ⟨RX11, "follow", "(LWhereTheSpoonWent$Flight;)V"⟩
abbrev cX11_followTurned : ByteArray := prog_1_method_61_code
def yX11_followTurned : MethodName := ⟨RX11, "followTurned", "(LWhereTheSpoonWent$Flight;I)V"⟩
abbrev cX11_firstIn : ByteArray := prog_1_method_62_code
def yX11_firstIn : MethodName := ⟨RX11, "firstIn", "(I)I"⟩
abbrev cX11_measure : ByteArray := prog_1_method_63_code
def yX11_measure : MethodName := ⟨RX11, "measure", "(I)V"⟩
abbrev cX11_soonest : ByteArray := prog_1_method_64_code
def yX11_soonest : MethodName := ⟨RX11, "soonest", "(II)I"⟩
abbrev cX11_caught : ByteArray := prog_1_method_65_code
def yX11_caught : MethodName := ⟨RX11, "caught", "(II)I"⟩
abbrev cX11_tallyEnds : ByteArray := prog_1_method_66_code
def yX11_tallyEnds : MethodName := ⟨RX11, "tallyEnds", "(II)V"⟩
abbrev cX11_countAhead : ByteArray := prog_1_method_67_code
def yX11_countAhead : MethodName := ⟨RX11, "countAhead", "(I)I"⟩
abbrev cX11_fraction : ByteArray := prog_1_method_68_code
def yX11_fraction : MethodName := ⟨RX11, "fraction", "(III)J"⟩
abbrev cX11_refusalOfPlaces : ByteArray := prog_1_method_69_code
def yX11_refusalOfPlaces : MethodName := ⟨RX11, "refusalOfPlaces", "(I)I"⟩
abbrev cX11_firstElsewhere : ByteArray := prog_1_method_70_code
def yX11_firstElsewhere : MethodName := ⟨RX11, "firstElsewhere", "(IILWhereTheSpoonWent$Text;)I"⟩
abbrev cX11_listEnds : ByteArray := prog_1_method_71_code
def yX11_listEnds : MethodName := ⟨RX11, "listEnds", "(I)V"⟩
abbrev cX11_countDrawn : ByteArray := prog_1_method_72_code
def yX11_countDrawn : MethodName := ⟨RX11, "countDrawn", "(II)I"⟩
abbrev cX11_takenCell : ByteArray := prog_1_method_73_code
def yX11_takenCell : MethodName := ⟨RX11, "takenCell", "(II)I"⟩
abbrev cX11_takenThing : ByteArray := prog_1_method_74_code
def yX11_takenThing : MethodName := ⟨RX11, "takenThing", "(II)I"⟩
def RX12 : String := "WhereTheSpoonWentModel"
def TX12 : u_T := fun k => match k with
  | 0 => ("WhereTheSpoonWentModel", "sets", "[I", true)
  | 1 => ("WhereTheSpoonWentModel", "step", "I", false)
  | 2 => ("WhereTheSpoonWentModel", "things", "I", false)
  | 3 => ("WhereTheSpoonWentModel", "kind", "[I", true)
  | 4 => ("WhereTheSpoonWentModel", "moreOf", "[I", true)
  | 5 => ("WhereTheSpoonWentModel", "cellOf", "[I", true)
  | 6 => ("WhereTheSpoonWentModel", "wayOf", "[I", true)
  | 7 => ("WhereTheSpoonWentModel", "tape", "[I", true)
  | 8 => ("WhereTheSpoonWentModel", "taped", "I", false)
  | 9 => ("WhereTheSpoonWentModel", "codes", "[I", true)
  | 10 => ("WhereTheSpoonWentModel", "starts", "[I", true)
  | 11 => ("WhereTheSpoonWentModel", "texts", "I", false)
  | 12 => ("WhereTheSpoonWentModel", "rule", "I", false)
  | 13 => ("WhereTheSpoonWentModel", "hasImage", "Z", false)
  | 14 => ("WhereTheSpoonWentModel", "imageThings", "I", false)
  | 15 => ("WhereTheSpoonWentModel", "imageRule", "I", false)
  | 16 => ("WhereTheSpoonWentModel", "imageRows", "[I", true)
  | 17 => ("WhereTheSpoonWentModel", "sheetSort", "[I", true)
  | 18 => ("WhereTheSpoonWentModel", "sheetSize", "[I", true)
  | 19 => ("WhereTheSpoonWentModel", "cells", "[I", true)
  | 20 => ("WhereTheSpoonWentModel", "law", "[I", true)
  | 21 => ("WhereTheSpoonWentModel", "at", "I", false)
  | 22 => ("WhereTheSpoonWentModel", "begun", "I", false)
  | 23 => ("WhereTheSpoonWentModel", "token", "I", false)
  | 24 => ("WhereTheSpoonWentModel", "value", "I", false)
  | 25 => ("WhereTheSpoonWentModel", "words", "[I", true)
  | 26 => ("WhereTheSpoonWentModel", "held", "[I", true)
  | 27 => ("WhereTheSpoonWentModel", "heldMany", "I", false)
  | 28 => ("WhereTheSpoonWentModel", "opens", "I", false)
  | 29 => ("WhereTheSpoonWentModel", "out", "I", false)
  | 30 => ("WhereTheSpoonWentModel", "stack", "[I", true)
  | 31 => ("WhereTheSpoonWentModel", "named", "[I", true)
  | 32 => ("WhereTheSpoonWentModel", "now", "I", false)
  | 33 => ("WhereTheSpoonWentModel", "way", "I", false)
  | 34 => ("WhereTheSpoonWentModel", "far", "[I", true)
  | _ => ("WhereTheSpoonWentModel", "wentTo", "[I", true)
def tyX12 : Nat → FieldType := fun k => match k with
  | 0 => .array .int
  | 1 => .int
  | 2 => .int
  | 3 => .array .int
  | 4 => .array .int
  | 5 => .array .int
  | 6 => .array .int
  | 7 => .array .int
  | 8 => .int
  | 9 => .array .int
  | 10 => .array .int
  | 11 => .int
  | 12 => .int
  | 13 => .boolean
  | 14 => .int
  | 15 => .int
  | 16 => .array .int
  | 17 => .array .int
  | 18 => .array .int
  | 19 => .array .int
  | 20 => .array .int
  | 21 => .int
  | 22 => .int
  | 23 => .int
  | 24 => .int
  | 25 => .array .int
  | 26 => .array .int
  | 27 => .int
  | 28 => .int
  | 29 => .int
  | 30 => .array .int
  | 31 => .array .int
  | 32 => .int
  | 33 => .int
  | 34 => .array .int
  | _ => .array .int
abbrev wsX120 : List Cond := u_ws RX12 TX12 36
theorem nmX12 : ∀ a, a < 36 → ∀ b, b < 36 → a ≠ b → (TX12 a).2.1 ≠ (TX12 b).2.1 := by decide +kernel
theorem tyX12_ok : ∀ k, k < 36 → parseFieldDescriptor (TX12 k).2.2.1 = some (tyX12 k) := by decide +kernel
abbrev cX12_init : ByteArray := prog_14_method_1_code
def yX12_init : MethodName := ⟨RX12, "<init>", "()V"⟩
abbrev cX12_in : ByteArray := prog_14_method_3_code
def yX12_in : MethodName := ⟨RX12, "in", "(III)Z"⟩
abbrev cX12_within : ByteArray := prog_14_method_4_code
def yX12_within : MethodName := ⟨RX12, "within", "(III)I"⟩
abbrev cX12_isCell : ByteArray := prog_14_method_5_code
def yX12_isCell : MethodName := ⟨RX12, "isCell", "(I)Z"⟩
abbrev cX12_has : ByteArray := prog_14_method_6_code
def yX12_has : MethodName := ⟨RX12, "has", "(II)Z"⟩
abbrev cX12_isFree : ByteArray := prog_14_method_7_code
def yX12_isFree : MethodName := ⟨RX12, "isFree", "(I)Z"⟩
abbrev cX12_isThing : ByteArray := prog_14_method_8_code
def yX12_isThing : MethodName := ⟨RX12, "isThing", "(I)Z"⟩
abbrev cX12_areSteps : ByteArray := prog_14_method_9_code
def yX12_areSteps : MethodName := ⟨RX12, "areSteps", "(I)Z"⟩
abbrev cX12_isThere : ByteArray := prog_14_method_10_code
def yX12_isThere : MethodName := ⟨RX12, "isThere", "(I)Z"⟩
abbrev cX12_house : ByteArray := prog_14_method_11_code
def yX12_house : MethodName := ⟨RX12, "house", "(III)I"⟩
abbrev cX12_set : ByteArray := prog_14_method_12_code
def yX12_set : MethodName := ⟨RX12, "set", "(I)I"⟩
abbrev cX12_count : ByteArray := prog_14_method_13_code
def yX12_count : MethodName := ⟨RX12, "count", "(I)I"⟩
abbrev cX12_isByte : ByteArray := prog_14_method_14_code
def yX12_isByte : MethodName := ⟨RX12, "isByte", "(I)Z"⟩
abbrev cX12_feed : ByteArray := prog_14_method_15_code
def yX12_feed : MethodName := ⟨RX12, "feed", "(IIIIII)I"⟩
abbrev cX12_wordFrom : ByteArray := prog_14_method_16_code
def yX12_wordFrom : MethodName := ⟨RX12, "wordFrom", "(II)I"⟩
abbrev cX12_next : ByteArray := prog_14_method_17_code
def yX12_next : MethodName := ⟨RX12, "next", "()V"⟩
abbrev cX12_rank : ByteArray := prog_14_method_18_code
def yX12_rank : MethodName := ⟨RX12, "rank", "(I)I"⟩
abbrev cX12_puts : ByteArray := prog_14_method_19_code
def yX12_puts : MethodName := ⟨RX12, "puts", "(I)V"⟩
abbrev cX12_unwinds : ByteArray := prog_14_method_20_code
def yX12_unwinds : MethodName := ⟨RX12, "unwinds", "(I)V"⟩
abbrev cX12_holds : ByteArray := prog_14_method_21_code
def yX12_holds : MethodName := ⟨RX12, "holds", "(I)V"⟩
abbrev cX12_opensOne : ByteArray := prog_14_method_22_code
def yX12_opensOne : MethodName := ⟨RX12, "opensOne", "(I)Z"⟩
abbrev cX12_between : ByteArray := prog_14_method_23_code
def yX12_between : MethodName := ⟨RX12, "between", "(I)Z"⟩
abbrev cX12_signOf : ByteArray := prog_14_method_24_code
def yX12_signOf : MethodName := ⟨RX12, "signOf", "()I"⟩
abbrev cX12_eRead : ByteArray := prog_14_method_25_code
def yX12_eRead : MethodName := ⟨RX12, "eRead", "()Z"⟩
abbrev cX12_text : ByteArray := prog_14_method_26_code
def yX12_text : MethodName := ⟨RX12, "text", "()I"⟩
abbrev cX12_two : ByteArray := prog_14_method_27_code
def yX12_two : MethodName := ⟨RX12, "two", "(III)I"⟩
abbrev cX12_says : ByteArray := prog_14_method_28_code
def yX12_says : MethodName := ⟨RX12, "says", "(I)I"⟩
abbrev cX12_force : ByteArray := prog_14_method_29_code
def yX12_force : MethodName := ⟨RX12, "force", "(I)I"⟩
abbrev cX12_asksOf : ByteArray := prog_14_method_30_code
def yX12_asksOf : MethodName := ⟨RX12, "asksOf", "(IIIII)I"⟩
abbrev cX12_asks : ByteArray := prog_14_method_31_code
def yX12_asks : MethodName := ⟨RX12, "asks", "(IIII)I"⟩
abbrev cX12_thing : ByteArray := prog_14_method_32_code
def yX12_thing : MethodName := ⟨RX12, "thing", "(III)I"⟩
abbrev cX12_put : ByteArray := prog_14_method_33_code
def yX12_put : MethodName := ⟨RX12, "put", "(III)I"⟩
abbrev cX12_told : ByteArray := prog_14_method_34_code
def yX12_told : MethodName := ⟨RX12, "told", "(II)I"⟩
abbrev cX12_touching : ByteArray := prog_14_method_35_code
def yX12_touching : MethodName := ⟨RX12, "touching", "(II)I"⟩
abbrev cX12_blown : ByteArray := prog_14_method_36_code
def yX12_blown : MethodName := ⟨RX12, "blown", "(III)I"⟩
abbrev cX12_beside : ByteArray := prog_14_method_37_code
def yX12_beside : MethodName := ⟨RX12, "beside", "(II)I"⟩
abbrev cX12_steps : ByteArray := prog_14_method_38_code
def yX12_steps : MethodName := ⟨RX12, "steps", "(II)V"⟩
abbrev cX12_begins : ByteArray := prog_14_method_39_code
def yX12_begins : MethodName := ⟨RX12, "begins", "(I)V"⟩
abbrev cX12_goesBehind : ByteArray := prog_14_method_40_code
def yX12_goesBehind : MethodName := ⟨RX12, "goesBehind", "(II)V"⟩
abbrev cX12_cellBehind : ByteArray := prog_14_method_41_code
def yX12_cellBehind : MethodName := ⟨RX12, "cellBehind", "(II)I"⟩
abbrev cX12_at : ByteArray := prog_14_method_42_code
def yX12_at : MethodName := ⟨RX12, "at", "(III)I"⟩
abbrev cX12_run : ByteArray := prog_14_method_43_code
def yX12_run : MethodName := ⟨RX12, "run", "(I)I"⟩
abbrev cX12_first0 : ByteArray := prog_14_method_44_code
def yX12_first0 : MethodName := ⟨RX12, "first0", "(II)I"⟩
abbrev cX12_when : ByteArray := prog_14_method_45_code
def yX12_when : MethodName := ⟨RX12, "when", "(II)I"⟩
abbrev cX12_meet : ByteArray := prog_14_method_46_code
def yX12_meet : MethodName := ⟨RX12, "meet", "(II)I"⟩
abbrev cX12_inside : ByteArray := prog_14_method_47_code
def yX12_inside : MethodName := ⟨RX12, "inside", "(II)I"⟩
abbrev cX12_spreads : ByteArray := prog_14_method_48_code
def yX12_spreads : MethodName := ⟨RX12, "spreads", "(I)V"⟩
abbrev cX12_soonest : ByteArray := prog_14_method_49_code
def yX12_soonest : MethodName := ⟨RX12, "soonest", "(II)I"⟩
abbrev cX12_hand : ByteArray := prog_14_method_50_code
def yX12_hand : MethodName := ⟨RX12, "hand", "(II)I"⟩
abbrev cX12_first : ByteArray := prog_14_method_51_code
def yX12_first : MethodName := ⟨RX12, "first", "(II)I"⟩
abbrev cX12_wait : ByteArray := prog_14_method_52_code
def yX12_wait : MethodName := ⟨RX12, "wait", "(II)I"⟩
abbrev cX12_toss : ByteArray := prog_14_method_53_code
def yX12_toss : MethodName := ⟨RX12, "toss", "(III)I"⟩
abbrev cX12_key : ByteArray := prog_14_method_54_code
def yX12_key : MethodName := ⟨RX12, "key", "()I"⟩
abbrev cX12_turnedFirst : ByteArray := prog_14_method_55_code
def yX12_turnedFirst : MethodName := ⟨RX12, "turnedFirst", "(III)I"⟩
abbrev cX12_turn : ByteArray := prog_14_method_56_code
def yX12_turn : MethodName := ⟨RX12, "turn", "(III)I"⟩
abbrev cX12_netted : ByteArray := prog_14_method_57_code
def yX12_netted : MethodName := ⟨RX12, "netted", "(I)I"⟩
abbrev cX12_net : ByteArray := prog_14_method_58_code
def yX12_net : MethodName := ⟨RX12, "net", "(II)I"⟩
abbrev cX12_letsGo : ByteArray := prog_14_method_59_code
def yX12_letsGo : MethodName := ⟨RX12, "letsGo", "(II)V"⟩
abbrev cX12_byHowMany : ByteArray := prog_14_method_60_code
def yX12_byHowMany : MethodName := ⟨RX12, "byHowMany", "(I)I"⟩
abbrev cX12_can : ByteArray := prog_14_method_61_code
def yX12_can : MethodName := ⟨RX12, "can", "(II)I"⟩
abbrev cX12_look : ByteArray := prog_14_method_62_code
def yX12_look : MethodName := ⟨RX12, "look", "(III)I"⟩
abbrev cX12_went : ByteArray := prog_14_method_63_code
def yX12_went : MethodName := ⟨RX12, "went", "(III)I"⟩
abbrev cX12_lowest : ByteArray := prog_14_method_64_code
def yX12_lowest : MethodName := ⟨RX12, "lowest", "(JJI)J"⟩
abbrev cX12_lookFor : ByteArray := prog_14_method_65_code
def yX12_lookFor : MethodName := ⟨RX12, "lookFor", "(I)I"⟩
abbrev cX12_search : ByteArray := prog_14_method_66_code
def yX12_search : MethodName := ⟨RX12, "search", "(III)J"⟩
abbrev cX12_sheetWrong : ByteArray := prog_14_method_67_code
def yX12_sheetWrong : MethodName := ⟨RX12, "sheetWrong", "(I)I"⟩
abbrev cX12_toldWrong : ByteArray := prog_14_method_68_code
def yX12_toldWrong : MethodName := ⟨RX12, "toldWrong", "(II)I"⟩
abbrev cX12_unlike : ByteArray := prog_14_method_69_code
def yX12_unlike : MethodName := ⟨RX12, "unlike", "(II)I"⟩
abbrev cX12_judge : ByteArray := prog_14_method_70_code
def yX12_judge : MethodName := ⟨RX12, "judge", "(II)I"⟩
abbrev cX12_times : ByteArray := prog_14_method_71_code
def yX12_times : MethodName := ⟨RX12, "times", "(I)J"⟩
abbrev cX12_laws : ByteArray := prog_14_method_72_code
def yX12_laws : MethodName := ⟨RX12, "laws", "(II)I"⟩
abbrev cX12_film : ByteArray := prog_14_method_73_code
def yX12_film : MethodName := ⟨RX12, "film", "(II)I"⟩
abbrev cX12_insideBy : ByteArray := prog_14_method_74_code
def yX12_insideBy : MethodName := ⟨RX12, "insideBy", "(III)I"⟩
abbrev cX12_isDrawn : ByteArray := prog_14_method_75_code
def yX12_isDrawn : MethodName := ⟨RX12, "isDrawn", "(III)Z"⟩
abbrev cX12_drawn : ByteArray := prog_14_method_76_code
def yX12_drawn : MethodName := ⟨RX12, "drawn", "(III)I"⟩
abbrev cX12_mean : ByteArray := prog_14_method_77_code
def yX12_mean : MethodName := ⟨RX12, "mean", "(IIII)J"⟩
abbrev cX12_image : ByteArray := prog_14_method_78_code
def yX12_image : MethodName := ⟨RX12, "image", "()I"⟩
abbrev cX12_back : ByteArray := prog_14_method_79_code
def yX12_back : MethodName := ⟨RX12, "back", "()I"⟩
abbrev cX12_sheet : ByteArray := prog_14_method_80_code
def yX12_sheet : MethodName := ⟨RX12, "sheet", "(III)I"⟩
abbrev cX12_cell : ByteArray := prog_14_method_81_code
def yX12_cell : MethodName := ⟨RX12, "cell", "(III)I"⟩
abbrev cX12_copy : ByteArray := prog_14_method_82_code
def yX12_copy : MethodName := ⟨RX12, "copy", "(IIIII)I"⟩
abbrev cX12_thingsBy : ByteArray := prog_14_method_83_code
def yX12_thingsBy : MethodName := ⟨RX12, "thingsBy", "(IIII)I"⟩
abbrev cX12_isUnder : ByteArray := prog_14_method_84_code
def yX12_isUnder : MethodName := ⟨RX12, "isUnder", "(II)Z"⟩
abbrev cX12_taken : ByteArray := prog_14_method_85_code
def yX12_taken : MethodName := ⟨RX12, "taken", "(II)I"⟩
def RJ9 : String := "java/lang/Math"
def TJ9 : u_T := fun k => match k with
  | _ => ("", "", "", false)
def tyJ9 : Nat → FieldType := fun k => match k with
  | _ => .int
abbrev wsJ90 : List Cond := u_ws RJ9 TJ9 0
theorem nmJ9 : ∀ a, a < 0 → ∀ b, b < 0 → a ≠ b → (TJ9 a).2.1 ≠ (TJ9 b).2.1 := by decide +kernel
theorem tyJ9_ok : ∀ k, k < 0 → parseFieldDescriptor (TJ9 k).2.2.1 = some (tyJ9 k) := by decide +kernel
abbrev cJ9_floorMod_7cf53 : ByteArray := prog_15_method_50_code
def yJ9_floorMod_7cf53 : MethodName := ⟨RJ9, "floorMod", "(II)I"⟩
abbrev cJ9_max_7cf53 : ByteArray := prog_15_method_65_code
def yJ9_max_7cf53 : MethodName := ⟨RJ9, "max", "(II)I"⟩
abbrev cJ9_min_7cf53 : ByteArray := prog_15_method_69_code
def yJ9_min_7cf53 : MethodName := ⟨RJ9, "min", "(II)I"⟩
def RJ0 : String := "java/lang/String"
def TJ0 : u_T := fun k => match k with
  | _ => ("", "", "", false)
def tyJ0 : Nat → FieldType := fun k => match k with
  | _ => .int
abbrev wsJ00 : List Cond := u_ws RJ0 TJ0 0
theorem nmJ0 : ∀ a, a < 0 → ∀ b, b < 0 → a ≠ b → (TJ0 a).2.1 ≠ (TJ0 b).2.1 := by decide +kernel
theorem tyJ0_ok : ∀ k, k < 0 → parseFieldDescriptor (TJ0 k).2.2.1 = some (tyJ0 k) := by decide +kernel
abbrev cJ0_length_8abf5 : ByteArray := prog_16_method_54_code
def yJ0_length_8abf5 : MethodName := ⟨RJ0, "length", "()I"⟩
abbrev cJ0_charAt_5068e : ByteArray := prog_16_method_56_code
def yJ0_charAt_5068e : MethodName := ⟨RJ0, "charAt", "(I)C"⟩
abbrev cJ0_coder_7d493 : ByteArray := prog_16_method_152_code
def yJ0_coder_7d493 : MethodName := ⟨RJ0, "coder", "()B"⟩
abbrev cJ0_isLatin1_aae02 : ByteArray := prog_16_method_154_code
def yJ0_isLatin1_aae02 : MethodName := ⟨RJ0, "isLatin1", "()Z"⟩
abbrev cJ0_checkIndex_df160 : ByteArray := prog_16_method_155_code
def yJ0_checkIndex_df160 : MethodName := ⟨RJ0, "checkIndex", "(II)V"⟩
def RJ1 : String := "java/lang/StringLatin1"
def TJ1 : u_T := fun k => match k with
  | _ => ("", "", "", false)
def tyJ1 : Nat → FieldType := fun k => match k with
  | _ => .int
abbrev wsJ10 : List Cond := u_ws RJ1 TJ1 0
theorem nmJ1 : ∀ a, a < 0 → ∀ b, b < 0 → a ≠ b → (TJ1 a).2.1 ≠ (TJ1 b).2.1 := by decide +kernel
theorem tyJ1_ok : ∀ k, k < 0 → parseFieldDescriptor (TJ1 k).2.2.1 = some (tyJ1 k) := by decide +kernel
abbrev cJ1_charAt_3b067 : ByteArray := prog_17_method_2_code
def yJ1_charAt_3b067 : MethodName := ⟨RJ1, "charAt", "([BI)C"⟩
def RJ2 : String := "java/lang/StringUTF16"
def TJ2 : u_T := fun k => match k with
  | _ => ("", "", "", false)
def tyJ2 : Nat → FieldType := fun k => match k with
  | _ => .int
abbrev wsJ20 : List Cond := u_ws RJ2 TJ2 0
theorem nmJ2 : ∀ a, a < 0 → ∀ b, b < 0 → a ≠ b → (TJ2 a).2.1 ≠ (TJ2 b).2.1 := by decide +kernel
theorem tyJ2_ok : ∀ k, k < 0 → parseFieldDescriptor (TJ2 k).2.2.1 = some (tyJ2 k) := by decide +kernel
abbrev cJ2_getChar_3b067 : ByteArray := prog_18_method_5_code
def yJ2_getChar_3b067 : MethodName := ⟨RJ2, "getChar", "([BI)C"⟩
abbrev cJ2_length_9d52b : ByteArray := prog_18_method_6_code
def yJ2_length_9d52b : MethodName := ⟨RJ2, "length", "([B)I"⟩
abbrev cJ2_charAt_3b067 : ByteArray := prog_18_method_83_code
def yJ2_charAt_3b067 : MethodName := ⟨RJ2, "charAt", "([BI)C"⟩
abbrev cJ2_checkIndex_2214a : ByteArray := prog_18_method_91_code
def yJ2_checkIndex_2214a : MethodName := ⟨RJ2, "checkIndex", "(I[B)V"⟩
def RJ10 : String := "java/lang/System"
def TJ10 : u_T := fun k => match k with
  | _ => ("", "", "", false)
def tyJ10 : Nat → FieldType := fun k => match k with
  | _ => .int
abbrev wsJ100 : List Cond := u_ws RJ10 TJ10 0
theorem nmJ10 : ∀ a, a < 0 → ∀ b, b < 0 → a ≠ b → (TJ10 a).2.1 ≠ (TJ10 b).2.1 := by decide +kernel
theorem tyJ10_ok : ∀ k, k < 0 → parseFieldDescriptor (TJ10 k).2.2.1 = some (tyJ10 k) := by decide +kernel
def RJ3 : String := "jdk/internal/util/Preconditions"
def TJ3 : u_T := fun k => match k with
  | _ => ("", "", "", false)
def tyJ3 : Nat → FieldType := fun k => match k with
  | _ => .int
abbrev wsJ30 : List Cond := u_ws RJ3 TJ3 0
theorem nmJ3 : ∀ a, a < 0 → ∀ b, b < 0 → a ≠ b → (TJ3 a).2.1 ≠ (TJ3 b).2.1 := by decide +kernel
theorem tyJ3_ok : ∀ k, k < 0 → parseFieldDescriptor (TJ3 k).2.2.1 = some (tyJ3 k) := by decide +kernel
abbrev cJ3_checkIndex_8e157 : ByteArray := prog_20_method_11_code
def yJ3_checkIndex_8e157 : MethodName := ⟨RJ3, "checkIndex", "(IILjava/util/function/BiFunction;)I"⟩
def RL : String := "WhereTheSpoonWentLaw"
abbrev cL_law : ByteArray := code
def yL_law : MethodName := ⟨RL, "law", "([I)Z"⟩
abbrev vwCl : List vw_C := [(RX0, TX0, 0), (RX1, TX1, 8), (RX2, TX2, 0), (RX3, TX3, 10), (RX4, TX4, 7), (RX5, TX5, 0), (RX6, TX6, 3), (RX7, TX7, 0), (RX8, TX8, 0), (RX9, TX9, 5), (RX10, TX10, 0), (RX11, TX11, 14), (RX12, TX12, 36)]
/-- the tables' words that a callee may have -/
def wG : List Cond := lw_tbl.filter goodWord
theorem wG_in : ∀ w ∈ wG, w ∈ lw_tbl := fun _ h => (List.mem_filter.mp h).1
theorem wG_good : ∀ w ∈ wG, goodWord w = true := fun _ h => (List.mem_filter.mp h).2
theorem wT_1 : ∀ w ∈ tables_1_1, w ∈ lw_tbl := fun _ h => List.mem_append_right _ (List.mem_append_left _ h)
theorem wT_2 : ∀ w ∈ tables_1_2, w ∈ lw_tbl := fun _ h => List.mem_append_right _ (List.mem_append_right _ (List.mem_append_left _ h))
theorem wT_3 : ∀ w ∈ tables_1_3, w ∈ lw_tbl := fun _ h => List.mem_append_right _ (List.mem_append_right _ (List.mem_append_right _ (List.mem_append_left _ h)))
theorem wT_4 : ∀ w ∈ tables_1_4, w ∈ lw_tbl := fun _ h => List.mem_append_right _ (List.mem_append_right _ (List.mem_append_right _ (List.mem_append_right _ (List.mem_append_left _ h))))
theorem wT_5 : ∀ w ∈ tables_1_5, w ∈ lw_tbl := fun _ h => List.mem_append_right _ (List.mem_append_right _ (List.mem_append_right _ (List.mem_append_right _ (List.mem_append_right _ (List.mem_append_left _ h)))))
theorem wT_6 : ∀ w ∈ tables_1_6, w ∈ lw_tbl := fun _ h => List.mem_append_right _ (List.mem_append_right _ (List.mem_append_right _ (List.mem_append_right _ (List.mem_append_right _ (List.mem_append_right _ (h))))))
end
section
/-! ===== the fixed world: a state is a table of numbers (cell, place); a judgement over such states; its rows ===== -/
abbrev Hp : Type := Nat → Nat → Int32
def hset (σ : Hp) (k : Nat) (r : Nat → Int32) : Hp := fun k' => if k' = k then r else σ k'
def hup (σ : Hp) (k i : Nat) (v : Int32) : Hp := hset σ k (upd (σ k) i v)
/-- addresses, array classes, ids, the literals' addresses, their rows' -/
abbrev wT : Type := (Nat → Nat) × (Nat → ClassId) × va_G × (Nat → Nat) × (Nat → Nat)
abbrev cT : Type := wT → Nat → (Nat → Int32) → va_E
def yw (w : wT) (cf : cT) (n : Nat) (σ : Hp) : va_W := (List.range n).map (fun k => (w.1 k, cf w k (σ k)))
theorem yw_get {w : wT} {cf : cT} {n k : Nat} {σ : Hp} (h : k < n) : (yw w cf n σ)[k]? = some (w.1 k, cf w k (σ k)) := by
  simp [yw, h]
theorem yw_inv {w : wT} {cf : cT} {n k : Nat} {σ : Hp} {q : Nat × va_E} (h : (yw w cf n σ)[k]? = some q) : k < n ∧ q.1 = w.1 k := by
  by_cases hk : k < n
  · rw [yw_get hk] at h
    cases h
    exact ⟨hk, rfl⟩
  · have h2 : (yw w cf n σ)[k]? = none := by
      apply List.getElem?_eq_none
      simp [yw]
      omega
    rw [h2] at h
    cases h
theorem yw_len (w : wT) (cf : cT) (n : Nat) (σ : Hp) : (yw w cf n σ).length = n := by simp [yw]
theorem yw_set {w : wT} {cf : cT} {n k : Nat} {σ : Hp} (h : k < n) {r : Nat → Int32} : (yw w cf n σ).set k (w.1 k, cf w k r) = yw w cf n (hset σ k r) := by
  apply List.ext_getElem?
  intro j
  by_cases hj : j = k
  · subst hj
    rw [List.getElem?_set_self (by rw [yw_len]; exact h), yw_get h]
    simp [hset]
  · rw [List.getElem?_set_ne (Ne.symm hj)]
    by_cases hl : j < n
    · rw [yw_get hl, yw_get hl]
      simp [hset, hj]
    · rw [List.getElem?_eq_none (by rw [yw_len]; omega), List.getElem?_eq_none (by rw [yw_len]; omega)]
def yTys (w : wT) : List (ClassId × FieldType) := [(w.2.1 0, .byte), (w.2.1 1, .int), (w.2.1 2, .object RX6), (w.2.1 3, .object RX9), (w.2.1 4, .object RX10)]
def scIdx : List Nat := [94, 100, 102, 104, 106, 108, 110, 112, 114, 116, 118, 120]
def scTxt : List String := ["cell", "x", "y", "step", "thing", "more", "or", "and", "not", "blows", "worth", "hands"]
def scLen : List Nat := [4, 1, 1, 4, 5, 4, 2, 3, 3, 5, 5, 5]
def scByt : List (List Int32) := [[99, 101, 108, 108], [120], [121], [115, 116, 101, 112], [116, 104, 105, 110, 103], [109, 111, 114, 101], [111, 114], [97, 110, 100], [110, 111, 116], [98, 108, 111, 119, 115], [119, 111, 114, 116, 104], [104, 97, 110, 100, 115]]
def yStr (w : wT) (A : Nat → Prop) (U : State) : Prop :=
  vk_S 12 scLen scByt w.2.2.2.1 w.2.2.2.2 A U U.heap ∧ (∀ i, i < 12 → vk_R RX4 (scIdx.getD i 0) (scTxt.getD i "") (w.2.2.2.1 i) U) ∧
  va_Z "java/lang/String" "COMPACT_STRINGS" "Z" (.int 1) A U U.heap ∧ va_Zq "jdk/internal/util/Preconditions" "SIOOBE_FORMATTER" "Ljava/util/function/BiFunction;" A U U.heap
def yNest : List (String × Nat × MethodName × String) := [
  (RX11, 11, yX3_init, RX11), (RX11, 33, yX4_init, RX11), (RX11, 69, yX10_init, RX11), (RX11, 72, yX7_init, RX11), (RX11, 75, yX5_init, RX11), (RX11, 78, yX8_init, RX11), (RX11, 81, yX0_init, RX11), (RX11, 84, yX2_init, RX11), (RX11, 96, yX6_init, RX11),
  (RX7, 3, yX10_init, RX11), (RX5, 1, yX10_init, RX11), (RX2, 3, yX10_init, RX11), (RX8, 1, yX7_init, RX11), (RX0, 3, yX5_init, RX11),
  (RX3, 49, yX11_has, RX11), (RX1, 34, yX11_has, RX11)]
def yCast : List String := [RX7, RX5, RX8, RX0, RX2]
def yOver : List String := [RX10, RX9, RX6]
def yG (w : wT) (A : Nat → Prop) (U : State) : Prop :=
  va_K w.2.2.1 vwCl (yTys w) U ∧ ((∀ q ∈ yNest, va_Nw (.methodLinkNest q.1 q.2.1 q.2.2.1 q.2.2.2) U) ∧ (∀ C ∈ yCast, va_Nw (.castable C RX10) U) ∧ ∀ C ∈ yOver, va_AO C U) ∧ yStr w A U
theorem yG.calling {w : wT} {A : Nat → Prop} {U : State} (g : JFrame) (mk : MethodId) (a : Array Value) (h : yG w A U) : yG w A (U.calling g mk a) := by
  obtain ⟨h1, ⟨h2, g2, g3⟩, h3, h4, h5, h6⟩ := h
  refine ⟨va_K.moved (u := U) (U := U.calling g mk a) (Vm.Alike.refl U.vm) h1, ⟨fun q hq => va_Nw.same rfl (u := U) (U := U.calling g mk a) rfl (h2 q hq), fun C hC => va_Nw.same rfl (u := U) (U := U.calling g mk a) rfl (g2 C hC), fun C hC => va_AO.moved (u := U) (U := U.calling g mk a) (Vm.Alike.refl U.vm) (g3 C hC)⟩, ?_, fun i hi => vk_R.same (u := U) (U := U.calling g mk a) rfl (h4 i hi), ?_, ?_⟩
  · exact vk_S.moved (u := U) (U := U.calling g mk a) (Vm.Alike.refl U.vm) h3
  · exact va_Z.moved (u := U) (U := U.calling g mk a) (Vm.Alike.refl U.vm) h5
  · exact va_Zq.moved (u := U) (U := U.calling g mk a) (Vm.Alike.refl U.vm) h6
theorem yG.at {w : wT} {A B : Nat → Prop} {s U : State} (h : yG w A s) (hW : s.WarmedH U.vm) (hq : ∀ a : Nat, a < s.heap.size → ¬ A a → U.heap[a]? = s.heap[a]?) (hB : ∀ q, B q → A q) : yG w B U := by
  obtain ⟨h1, ⟨h2, g2, g3⟩, h3, h4, h5, h6⟩ := h
  have hv := hW.alike
  exact ⟨va_K.moved hv h1, ⟨fun q hq => va_Nw.warmM hW (h2 q hq), fun C hC => va_Nw.warmC hW (g2 C hC), fun C hC => va_AO.moved hv (g3 C hC)⟩, ((vk_S.moved hv h3).kept hq).narrow hB, fun i hi => (h4 i hi).warm hW, ((va_Z.moved hv h5).kept hq).narrow hB, ((va_Zq.moved hv h6).kept hq).narrow hB⟩
def YA (w : wT) (n sz : Nat) : Nat → Prop := fun q => (∃ k, k < n ∧ q = w.1 k) ∨ sz ≤ q
def yOk (w : wT) (n : Nat) : Prop := ∀ i j, i < n → j < n → w.1 i = w.1 j → i = j
def yPre (w : wT) (cf : cT) (n : Nat) (σ : Hp) (sz : Nat) : State → Prop := fun U => U.heap.size = sz ∧ va_P w.2.2.1 vwCl (yw w cf n σ) U.heap ∧ yG w (YA w n sz) U
def yRm (d : Nat) : Room := { frames := d, cells := 0, slots := 0, locals := 40 * d }
theorem yRm_le {d d' nL : Nat} (h : d + 1 ≤ d') (h2 : nL ≤ 20) : (yRm d).frames + 1 ≤ (yRm d').frames ∧ 8 + (nL + 11) + (yRm d).locals ≤ (yRm d').locals := by
  simp only [yRm]
  omega
/-- a method's contract over a fixed world -/
def yMet (l : Launch) (w : wT) (cf : cT) (n : Nat) (y : MethodName) (b : ByteArray) (nL : Nat) (r : Option FieldType) (d : Nat) (av : List Value) (σ : Hp) (Qc : (Nat → Prop) → Array Value → State → Outcome → State → Prop) : Prop :=
  ∀ sz : Nat, Met l y (.code y b nL r :: wG) (yRm d) (va_Pc av (yPre w cf n σ sz)) (Qc (YA w n sz)) 0 0 (YA w n sz)
def yB (w : wT) (cf : cT) (n : Nat) (u : Hp) (t : State) : Prop := va_P w.2.2.1 vwCl (yw w cf n u) t.heap
def yQi (w : wT) (cf : cT) (n : Nat) (K : Int32 → Hp → Prop) : (Nat → Prop) → Array Value → State → Outcome → State → Prop := fun A => va_Qi K (yB w cf n) A
def yQl (w : wT) (cf : cT) (n : Nat) (K : Int64 → Hp → Prop) : (Nat → Prop) → Array Value → State → Outcome → State → Prop := fun A => va_Ql K (yB w cf n) A
def yQv (w : wT) (cf : cT) (n : Nat) (K : Hp → Prop) : (Nat → Prop) → Array Value → State → Outcome → State → Prop := fun A => va_Qv K (yB w cf n) A
def yQr (w : wT) (cf : cT) (n : Nat) (K : Nat → Hp → Prop) : (Nat → Prop) → Array Value → State → Outcome → State → Prop := fun A => va_Qr (S := Nat × Hp) (fun u => K u.1 u.2) (fun u a t => a = w.1 u.1 ∧ yB w cf n u.2 t) A
theorem yPre.blind {w : wT} {cf : cT} {n : Nat} {σ : Hp} {sz : Nat} {av : List Value} : FrameBlind (va_Pc av (yPre w cf n σ sz)) := fun a U g mk q => ⟨q.1, q.2.1, q.2.2.1, q.2.2.2.calling g mk a⟩
theorem y_D {w : wT} {cf : cT} {n : Nat} {σ : Hp} {A : Nat → Prop} (h : yOk w n) (hA : ∀ k, k < n → A (w.1 k)) : va_D A (yw w cf n σ) := by
  refine ⟨fun i j x y hi hj hxy => ?_, fun k q hk => ?_⟩
  · obtain ⟨a1, a2⟩ := yw_inv hi
    obtain ⟨b1, b2⟩ := yw_inv hj
    exact h i j a1 b1 (by rw [← a2, ← b2]; exact hxy)
  · obtain ⟨a1, a2⟩ := yw_inv hk
    rw [a2]
    exact hA k a1
/-- what stands for all of a method's walk -/
def YE (p : Program) (m : MethodId) (meth : Method) (c : Code) (cc : ByteArray) (nL : Nat) (s : State) (args : Array Value) (own : String) (r : Option FieldType) (w : wT) (n : Nat) (A : Nat → Prop) : Prop :=
  CallFix p m c cc nL s args wG own ∧ yG w A s ∧ yOk w n ∧ (∀ k, k < n → A (w.1 k)) ∧ (∀ q : Nat, s.heap.size ≤ q → A q) ∧ meth.sig.returnType = r ∧ meth.locks = false
/-- at this state and frame the machine comes to Q -/
def YY (p : Program) (l : Launch) (e : Env) (R : Room) (s : State) (m : MethodId) (args : Array Value) (below : List Frame) (meth : Method) (c : Code) (w : wT) (cf : cT) (n : Nat) (A : Nat → Prop) (Q : State → Prop) (nL : Nat) (σ : Hp) (pc : Nat) (lv : List (Nat × Value)) (st : List Value) : Prop :=
  ∀ (H : Heap) (locs : List Loc) (ls : Array Slot), va_P w.2.2.1 vwCl (yw w cf n σ) H → va_S A s.heap H locs → lv_has ls nL lv → W p l e R s m args below meth c H locs 0 0 Q (F0 m pc ls st)
/-- a call that is made from there -/
def YR (p : Program) (l : Launch) (e : Env) (R : Room) (s : State) (m : MethodId) (args : Array Value) (below : List Frame) (meth : Method) (c : Code) (w : wT) (cf : cT) (n : Nat) (A : Nat → Prop) (nL : Nat) (σ : Hp) (pc : Nat) (lv : List (Nat × Value)) (st rest : List Value) (a : Array Value) (Qc : (Nat → Prop) → Array Value → State → Outcome → State → Prop) : Prop :=
  ∀ (H : Heap) (locs : List Loc) (ls : Array Slot), va_P w.2.2.1 vwCl (yw w cf n σ) H → va_S A s.heap H locs → lv_has ls nL lv → va_Run p l e R s m args below meth c H locs 0 0 0 0 (F0 m pc ls st) rest (Qc (YA w n H.size) a) (YA w n H.size)
theorem ite_t {c a b : Prop} [Decidable c] (h : if c then a else b) (hc : c) : a := by rwa [if_pos hc] at h
theorem ite_f {c a b : Prop} [Decidable c] (h : if c then a else b) (hc : ¬ c) : b := by rwa [if_neg hc] at h
section YROWS
variable {p : Program} {l : Launch} {e : Env} {R : Room} {s : State} {m : MethodId} {args : Array Value} {below : List Frame} {meth : Method} {c : Code}
variable {w : wT} {cf : cT} {n : Nat} {A : Nat → Prop} {Q : State → Prop} {nL : Nat} {σ : Hp} {pc : Nat} {lv : List (Nat × Value)} {st rest : List Value} {cc : ByteArray} {own : String} {r : Option FieldType}
theorem y_nmi {v : Int32} (k : ∀ x : Int32, x = v → YY p l e R s m args below meth c w cf n A Q nL σ pc lv (.int x :: rest)) : YY p l e R s m args below meth c w cf n A Q nL σ pc lv (.int v :: rest) := k v rfl
theorem y_nml {v : Int64} (k : ∀ x : Int64, x = v → YY p l e R s m args below meth c w cf n A Q nL σ pc lv (.long x :: rest)) : YY p l e R s m args below meth c w cf n A Q nL σ pc lv (.long v :: rest) := k v rfl
theorem y_nmr {v : Nat} (k : ∀ x : Nat, x = v → YY p l e R s m args below meth c w cf n A Q nL σ pc lv (.ref (w.1 x) :: rest)) : YY p l e R s m args below meth c w cf n A Q nL σ pc lv (.ref (w.1 v) :: rest) := k v rfl
theorem y_nmH (k : ∀ u : Hp, u = σ → YY p l e R s m args below meth c w cf n A Q nL u pc lv st) : YY p l e R s m args below meth c w cf n A Q nL σ pc lv st := k σ rfl
theorem y_lv {lv' : List (Nat × Value)} (ks : List Nat) (hl : lv_pick lv ks = lv') (k : YY p l e R s m args below meth c w cf n A Q nL σ pc lv' st) : YY p l e R s m args below meth c w cf n A Q nL σ pc lv st := fun H locs ls hP hS h => k H locs ls hP hS (lv_sub h ks hl)
theorem y_iconst (E : YE p m meth c cc nL s args own r w n A) {i : Int} {v : Int32} (hd : decode cc pc = .ok (.iconst i, 1)) (hv : Int32.ofInt i = v) (k : YY p l e R s m args below meth c w cf n A Q nL σ (pc + 1) lv (.int v :: rest)) : YY p l e R s m args below meth c w cf n A Q nL σ pc lv rest := fun H locs ls hP hS hl => lv_iconst E.1.1 E.1.2.1 hd hv (k H locs ls hP hS hl)
theorem y_bipush (E : YE p m meth c cc nL s args own r w n A) {i : Int} {v : Int32} (hd : decode cc pc = .ok (.bipush i, 2)) (hv : (Int8.ofInt i).toInt32 = v) (k : YY p l e R s m args below meth c w cf n A Q nL σ (pc + 2) lv (.int v :: rest)) : YY p l e R s m args below meth c w cf n A Q nL σ pc lv rest := fun H locs ls hP hS hl => lv_bipush E.1.1 E.1.2.1 hd hv (k H locs ls hP hS hl)
theorem y_sipush (E : YE p m meth c cc nL s args own r w n A) {i : Int} {v : Int32} (hd : decode cc pc = .ok (.sipush i, 3)) (hv : (Int16.ofInt i).toInt32 = v) (k : YY p l e R s m args below meth c w cf n A Q nL σ (pc + 3) lv (.int v :: rest)) : YY p l e R s m args below meth c w cf n A Q nL σ pc lv rest := fun H locs ls hP hS hl => lv_sipush E.1.1 E.1.2.1 hd hv (k H locs ls hP hS hl)
theorem y_lconst (E : YE p m meth c cc nL s args own r w n A) {i : Fin 2} {v : Int64} (hd : decode cc pc = .ok (.lconst i, 1)) (hv : Int64.ofNat (i : Nat) = v) (k : YY p l e R s m args below meth c w cf n A Q nL σ (pc + 1) lv (.long v :: rest)) : YY p l e R s m args below meth c w cf n A Q nL σ pc lv rest := fun H locs ls hP hS hl => lv_lconst E.1.1 E.1.2.1 hd hv (k H locs ls hP hS hl)
theorem y_ldc (E : YE p m meth c cc nL s args own r w n A) {index : Nat} {v : Int32} (hc : Jvm.Cond.constant own index v ∈ wG) (hd : decode cc pc = .ok (.ldc index, 2)) (k : YY p l e R s m args below meth c w cf n A Q nL σ (pc + 2) lv (.int v :: rest)) : YY p l e R s m args below meth c w cf n A Q nL σ pc lv rest := fun H locs ls hP hS hl => lv_ldc E.1.1 E.1.2.1 E.1.2.2.2.1 (E.1.2.2.2.2 _ hc) hd (k H locs ls hP hS hl)
theorem y_ldcw (E : YE p m meth c cc nL s args own r w n A) {index : Nat} {v : Int32} (hc : Jvm.Cond.constant own index v ∈ wG) (hd : decode cc pc = .ok (.ldc_w index, 3)) (k : YY p l e R s m args below meth c w cf n A Q nL σ (pc + 3) lv (.int v :: rest)) : YY p l e R s m args below meth c w cf n A Q nL σ pc lv rest := fun H locs ls hP hS hl => lv_ldcw E.1.1 E.1.2.1 E.1.2.2.2.1 (E.1.2.2.2.2 _ hc) hd (k H locs ls hP hS hl)
theorem y_ldc2 (E : YE p m meth c cc nL s args own r w n A) {index : Nat} {v : Int64} (hc : Jvm.Cond.constantLong own index v ∈ wG) (hd : decode cc pc = .ok (.ldc2_w index, 3)) (k : YY p l e R s m args below meth c w cf n A Q nL σ (pc + 3) lv (.long v :: rest)) : YY p l e R s m args below meth c w cf n A Q nL σ pc lv rest := fun H locs ls hP hS hl => lv_ldc2 E.1.1 E.1.2.1 E.1.2.2.2.1 (E.1.2.2.2.2 _ hc) hd (k H locs ls hP hS hl)
theorem y_iload_n (E : YE p m meth c cc nL s args own r w n A) {kk : Fin 4} {x : Int32} (hd : decode cc pc = .ok (.iload_n kk, 1)) (j : Nat) (hj : lv[j]? = some ((kk : Nat), .int x)) (k : YY p l e R s m args below meth c w cf n A Q nL σ (pc + 1) lv (.int x :: rest)) : YY p l e R s m args below meth c w cf n A Q nL σ pc lv rest := fun H locs ls hP hS hl => lv_iload_n E.1.1 E.1.2.1 hd rfl (lv_at hl j hj) (k H locs ls hP hS hl)
theorem y_iload (E : YE p m meth c cc nL s args own r w n A) {i : Nat} {x : Int32} (hd : decode cc pc = .ok (.iload i, 2)) (j : Nat) (hj : lv[j]? = some (i, .int x)) (k : YY p l e R s m args below meth c w cf n A Q nL σ (pc + 2) lv (.int x :: rest)) : YY p l e R s m args below meth c w cf n A Q nL σ pc lv rest := fun H locs ls hP hS hl => lv_iload E.1.1 E.1.2.1 hd (lv_at hl j hj) (k H locs ls hP hS hl)
theorem y_lload_n (E : YE p m meth c cc nL s args own r w n A) {kk : Fin 4} {x : Int64} (hd : decode cc pc = .ok (.lload_n kk, 1)) (j : Nat) (hj : lv[j]? = some ((kk : Nat), .long x)) (k : YY p l e R s m args below meth c w cf n A Q nL σ (pc + 1) lv (.long x :: rest)) : YY p l e R s m args below meth c w cf n A Q nL σ pc lv rest := fun H locs ls hP hS hl => lv_lload_n E.1.1 E.1.2.1 hd rfl (lv_at hl j hj) (k H locs ls hP hS hl)
theorem y_lload (E : YE p m meth c cc nL s args own r w n A) {i : Nat} {x : Int64} (hd : decode cc pc = .ok (.lload i, 2)) (j : Nat) (hj : lv[j]? = some (i, .long x)) (k : YY p l e R s m args below meth c w cf n A Q nL σ (pc + 2) lv (.long x :: rest)) : YY p l e R s m args below meth c w cf n A Q nL σ pc lv rest := fun H locs ls hP hS hl => lv_lload E.1.1 E.1.2.1 hd (lv_at hl j hj) (k H locs ls hP hS hl)
theorem y_aload_n (E : YE p m meth c cc nL s args own r w n A) {kk : Fin 4} {x : Nat} (hd : decode cc pc = .ok (.aload_n kk, 1)) (j : Nat) (hj : lv[j]? = some ((kk : Nat), .ref x)) (k : YY p l e R s m args below meth c w cf n A Q nL σ (pc + 1) lv (.ref x :: rest)) : YY p l e R s m args below meth c w cf n A Q nL σ pc lv rest := fun H locs ls hP hS hl => lv_aload_n E.1.1 E.1.2.1 hd rfl (lv_at hl j hj) (k H locs ls hP hS hl)
theorem y_aload (E : YE p m meth c cc nL s args own r w n A) {i : Nat} {x : Nat} (hd : decode cc pc = .ok (.aload i, 2)) (j : Nat) (hj : lv[j]? = some (i, .ref x)) (k : YY p l e R s m args below meth c w cf n A Q nL σ (pc + 2) lv (.ref x :: rest)) : YY p l e R s m args below meth c w cf n A Q nL σ pc lv rest := fun H locs ls hP hS hl => lv_aload E.1.1 E.1.2.1 hd (lv_at hl j hj) (k H locs ls hP hS hl)
theorem y_istore_n (E : YE p m meth c cc nL s args own r w n A) {kk : Fin 4} {x : Int32} {lv' : List (Nat × Value)} (hd : decode cc pc = .ok (.istore_n kk, 1)) (hn : (kk : Nat) < nL) (hl' : ((kk : Nat), Value.int x) :: lv.filter (fun q => !(q.1 == (kk : Nat)) && !(q.1 + 1 == (kk : Nat) && q.2.category == 2)) = lv') (k : YY p l e R s m args below meth c w cf n A Q nL σ (pc + 1) lv' rest) : YY p l e R s m args below meth c w cf n A Q nL σ pc lv (.int x :: rest) := fun H locs _ hP hS hl => lv_istore_n E.1.1 E.1.2.1 hd rfl hl hn hl' (fun ls hl2 => k H locs ls hP hS hl2)
theorem y_istore (E : YE p m meth c cc nL s args own r w n A) {i : Nat} {x : Int32} {lv' : List (Nat × Value)} (hd : decode cc pc = .ok (.istore i, 2)) (hn : i < nL) (hl' : (i, Value.int x) :: lv.filter (fun q => !(q.1 == i) && !(q.1 + 1 == i && q.2.category == 2)) = lv') (k : YY p l e R s m args below meth c w cf n A Q nL σ (pc + 2) lv' rest) : YY p l e R s m args below meth c w cf n A Q nL σ pc lv (.int x :: rest) := fun H locs _ hP hS hl => lv_istore E.1.1 E.1.2.1 hd hl hn hl' (fun ls hl2 => k H locs ls hP hS hl2)
theorem y_lstore_n (E : YE p m meth c cc nL s args own r w n A) {kk : Fin 4} {x : Int64} {lv' : List (Nat × Value)} (hd : decode cc pc = .ok (.lstore_n kk, 1)) (hn : (kk : Nat) + 1 < nL) (hl' : ((kk : Nat), Value.long x) :: lv.filter (fun q => !(q.1 == (kk : Nat)) && (!(q.1 == (kk : Nat) + 1) && !(q.1 + 1 == (kk : Nat) && q.2.category == 2))) = lv') (k : YY p l e R s m args below meth c w cf n A Q nL σ (pc + 1) lv' rest) : YY p l e R s m args below meth c w cf n A Q nL σ pc lv (.long x :: rest) := fun H locs _ hP hS hl => lv_lstore_n E.1.1 E.1.2.1 hd rfl hl hn hl' (fun ls hl2 => k H locs ls hP hS hl2)
theorem y_lstore (E : YE p m meth c cc nL s args own r w n A) {i : Nat} {x : Int64} {lv' : List (Nat × Value)} (hd : decode cc pc = .ok (.lstore i, 2)) (hn : i + 1 < nL) (hl' : (i, Value.long x) :: lv.filter (fun q => !(q.1 == i) && (!(q.1 == i + 1) && !(q.1 + 1 == i && q.2.category == 2))) = lv') (k : YY p l e R s m args below meth c w cf n A Q nL σ (pc + 2) lv' rest) : YY p l e R s m args below meth c w cf n A Q nL σ pc lv (.long x :: rest) := fun H locs _ hP hS hl => lv_lstore E.1.1 E.1.2.1 hd hl hn hl' (fun ls hl2 => k H locs ls hP hS hl2)
theorem y_astore_n (E : YE p m meth c cc nL s args own r w n A) {kk : Fin 4} {x : Nat} {lv' : List (Nat × Value)} (hd : decode cc pc = .ok (.astore_n kk, 1)) (hn : (kk : Nat) < nL) (hl' : ((kk : Nat), Value.ref x) :: lv.filter (fun q => !(q.1 == (kk : Nat)) && !(q.1 + 1 == (kk : Nat) && q.2.category == 2)) = lv') (k : YY p l e R s m args below meth c w cf n A Q nL σ (pc + 1) lv' rest) : YY p l e R s m args below meth c w cf n A Q nL σ pc lv (.ref x :: rest) := fun H locs _ hP hS hl => lv_astore_n E.1.1 E.1.2.1 hd rfl hl hn hl' (fun ls hl2 => k H locs ls hP hS hl2)
theorem y_astore (E : YE p m meth c cc nL s args own r w n A) {i : Nat} {x : Nat} {lv' : List (Nat × Value)} (hd : decode cc pc = .ok (.astore i, 2)) (hn : i < nL) (hl' : (i, Value.ref x) :: lv.filter (fun q => !(q.1 == i) && !(q.1 + 1 == i && q.2.category == 2)) = lv') (k : YY p l e R s m args below meth c w cf n A Q nL σ (pc + 2) lv' rest) : YY p l e R s m args below meth c w cf n A Q nL σ pc lv (.ref x :: rest) := fun H locs _ hP hS hl => lv_astore E.1.1 E.1.2.1 hd hl hn hl' (fun ls hl2 => k H locs ls hP hS hl2)
theorem y_iinc (E : YE p m meth c cc nL s args own r w n A) {i : Nat} {z : Int} {x v : Int32} {lv' : List (Nat × Value)} (hd : decode cc pc = .ok (.iinc i z, 3)) (j : Nat) (hj : lv[j]? = some (i, .int x)) (hv : x + Int32.ofInt z = v) (hn : i < nL) (hl' : (i, Value.int v) :: lv.filter (fun q => !(q.1 == i) && !(q.1 + 1 == i && q.2.category == 2)) = lv') (k : YY p l e R s m args below meth c w cf n A Q nL σ (pc + 3) lv' rest) : YY p l e R s m args below meth c w cf n A Q nL σ pc lv rest := fun H locs _ hP hS hl => lv_iinc E.1.1 E.1.2.1 hd hl hj hv hn hl' (fun ls hl2 => k H locs ls hP hS hl2)
def jrem (x y : Int32) : Int32 := x - x / y * y
def jlrem (x y : Int64) : Int64 := x - x / y * y
theorem y_iadd (E : YE p m meth c cc nL s args own r w n A) {x y : Int32} (hd : decode cc pc = .ok (.iadd, 1)) (k : YY p l e R s m args below meth c w cf n A Q nL σ (pc + 1) lv (.int (x + y) :: rest)) : YY p l e R s m args below meth c w cf n A Q nL σ pc lv (.int y :: .int x :: rest) := fun H locs ls hP hS hl => lv_iadd E.1.1 E.1.2.1 hd (k H locs ls hP hS hl)
theorem y_isub (E : YE p m meth c cc nL s args own r w n A) {x y : Int32} (hd : decode cc pc = .ok (.isub, 1)) (k : YY p l e R s m args below meth c w cf n A Q nL σ (pc + 1) lv (.int (x - y) :: rest)) : YY p l e R s m args below meth c w cf n A Q nL σ pc lv (.int y :: .int x :: rest) := fun H locs ls hP hS hl => lv_isub E.1.1 E.1.2.1 hd (k H locs ls hP hS hl)
theorem y_imul (E : YE p m meth c cc nL s args own r w n A) {x y : Int32} (hd : decode cc pc = .ok (.imul, 1)) (k : YY p l e R s m args below meth c w cf n A Q nL σ (pc + 1) lv (.int (x * y) :: rest)) : YY p l e R s m args below meth c w cf n A Q nL σ pc lv (.int y :: .int x :: rest) := fun H locs ls hP hS hl => lv_imul E.1.1 E.1.2.1 hd (k H locs ls hP hS hl)
theorem y_iand (E : YE p m meth c cc nL s args own r w n A) {x y : Int32} (hd : decode cc pc = .ok (.iand, 1)) (k : YY p l e R s m args below meth c w cf n A Q nL σ (pc + 1) lv (.int (x &&& y) :: rest)) : YY p l e R s m args below meth c w cf n A Q nL σ pc lv (.int y :: .int x :: rest) := fun H locs ls hP hS hl => lv_iand E.1.1 E.1.2.1 hd (k H locs ls hP hS hl)
theorem y_ior (E : YE p m meth c cc nL s args own r w n A) {x y : Int32} (hd : decode cc pc = .ok (.ior, 1)) (k : YY p l e R s m args below meth c w cf n A Q nL σ (pc + 1) lv (.int (x ||| y) :: rest)) : YY p l e R s m args below meth c w cf n A Q nL σ pc lv (.int y :: .int x :: rest) := fun H locs ls hP hS hl => lv_ior E.1.1 E.1.2.1 hd (k H locs ls hP hS hl)
theorem y_ixor (E : YE p m meth c cc nL s args own r w n A) {x y : Int32} (hd : decode cc pc = .ok (.ixor, 1)) (k : YY p l e R s m args below meth c w cf n A Q nL σ (pc + 1) lv (.int (x ^^^ y) :: rest)) : YY p l e R s m args below meth c w cf n A Q nL σ pc lv (.int y :: .int x :: rest) := fun H locs ls hP hS hl => lv_ixor E.1.1 E.1.2.1 hd (k H locs ls hP hS hl)
theorem y_ishl (E : YE p m meth c cc nL s args own r w n A) {x y : Int32} (hd : decode cc pc = .ok (.ishl, 1)) (k : YY p l e R s m args below meth c w cf n A Q nL σ (pc + 1) lv (.int (x <<< (y &&& 31)) :: rest)) : YY p l e R s m args below meth c w cf n A Q nL σ pc lv (.int y :: .int x :: rest) := fun H locs ls hP hS hl => lv_ishl E.1.1 E.1.2.1 hd (k H locs ls hP hS hl)
theorem y_ishr (E : YE p m meth c cc nL s args own r w n A) {x y : Int32} (hd : decode cc pc = .ok (.ishr, 1)) (k : YY p l e R s m args below meth c w cf n A Q nL σ (pc + 1) lv (.int (x >>> (y &&& 31)) :: rest)) : YY p l e R s m args below meth c w cf n A Q nL σ pc lv (.int y :: .int x :: rest) := fun H locs ls hP hS hl => lv_ishr E.1.1 E.1.2.1 hd (k H locs ls hP hS hl)
theorem y_ladd (E : YE p m meth c cc nL s args own r w n A) {x y : Int64} (hd : decode cc pc = .ok (.ladd, 1)) (k : YY p l e R s m args below meth c w cf n A Q nL σ (pc + 1) lv (.long (x + y) :: rest)) : YY p l e R s m args below meth c w cf n A Q nL σ pc lv (.long y :: .long x :: rest) := fun H locs ls hP hS hl => lv_ladd E.1.1 E.1.2.1 hd (k H locs ls hP hS hl)
theorem y_lsub (E : YE p m meth c cc nL s args own r w n A) {x y : Int64} (hd : decode cc pc = .ok (.lsub, 1)) (k : YY p l e R s m args below meth c w cf n A Q nL σ (pc + 1) lv (.long (x - y) :: rest)) : YY p l e R s m args below meth c w cf n A Q nL σ pc lv (.long y :: .long x :: rest) := fun H locs ls hP hS hl => lv_lsub E.1.1 E.1.2.1 hd (k H locs ls hP hS hl)
theorem y_lmul (E : YE p m meth c cc nL s args own r w n A) {x y : Int64} (hd : decode cc pc = .ok (.lmul, 1)) (k : YY p l e R s m args below meth c w cf n A Q nL σ (pc + 1) lv (.long (x * y) :: rest)) : YY p l e R s m args below meth c w cf n A Q nL σ pc lv (.long y :: .long x :: rest) := fun H locs ls hP hS hl => lv_lmul E.1.1 E.1.2.1 hd (k H locs ls hP hS hl)
theorem y_land (E : YE p m meth c cc nL s args own r w n A) {x y : Int64} (hd : decode cc pc = .ok (.land, 1)) (k : YY p l e R s m args below meth c w cf n A Q nL σ (pc + 1) lv (.long (x &&& y) :: rest)) : YY p l e R s m args below meth c w cf n A Q nL σ pc lv (.long y :: .long x :: rest) := fun H locs ls hP hS hl => lv_land E.1.1 E.1.2.1 hd (k H locs ls hP hS hl)
theorem y_lor (E : YE p m meth c cc nL s args own r w n A) {x y : Int64} (hd : decode cc pc = .ok (.lor, 1)) (k : YY p l e R s m args below meth c w cf n A Q nL σ (pc + 1) lv (.long (x ||| y) :: rest)) : YY p l e R s m args below meth c w cf n A Q nL σ pc lv (.long y :: .long x :: rest) := fun H locs ls hP hS hl => lv_lor E.1.1 E.1.2.1 hd (k H locs ls hP hS hl)
theorem y_lxor (E : YE p m meth c cc nL s args own r w n A) {x y : Int64} (hd : decode cc pc = .ok (.lxor, 1)) (k : YY p l e R s m args below meth c w cf n A Q nL σ (pc + 1) lv (.long (x ^^^ y) :: rest)) : YY p l e R s m args below meth c w cf n A Q nL σ pc lv (.long y :: .long x :: rest) := fun H locs ls hP hS hl => lv_lxor E.1.1 E.1.2.1 hd (k H locs ls hP hS hl)
theorem y_idiv (E : YE p m meth c cc nL s args own r w n A) {x y : Int32} (hd : decode cc pc = .ok (.idiv, 1)) (hne : ¬ y = 0) (k : YY p l e R s m args below meth c w cf n A Q nL σ (pc + 1) lv (.int (x / y) :: rest)) : YY p l e R s m args below meth c w cf n A Q nL σ pc lv (.int y :: .int x :: rest) := fun H locs ls hP hS hl => lv_idiv E.1.1 E.1.2.1 hd hne (k H locs ls hP hS hl)
theorem y_irem (E : YE p m meth c cc nL s args own r w n A) {x y : Int32} (hd : decode cc pc = .ok (.irem, 1)) (hne : ¬ y = 0) (k : YY p l e R s m args below meth c w cf n A Q nL σ (pc + 1) lv (.int (jrem x y) :: rest)) : YY p l e R s m args below meth c w cf n A Q nL σ pc lv (.int y :: .int x :: rest) := fun H locs ls hP hS hl => lv_irem E.1.1 E.1.2.1 hd hne (k H locs ls hP hS hl)
theorem y_ldiv (E : YE p m meth c cc nL s args own r w n A) {x y : Int64} (hd : decode cc pc = .ok (.ldiv, 1)) (hne : ¬ y = 0) (k : YY p l e R s m args below meth c w cf n A Q nL σ (pc + 1) lv (.long (x / y) :: rest)) : YY p l e R s m args below meth c w cf n A Q nL σ pc lv (.long y :: .long x :: rest) := fun H locs ls hP hS hl => lv_ldiv E.1.1 E.1.2.1 hd hne (k H locs ls hP hS hl)
theorem y_lrem (E : YE p m meth c cc nL s args own r w n A) {x y : Int64} (hd : decode cc pc = .ok (.lrem, 1)) (hne : ¬ y = 0) (k : YY p l e R s m args below meth c w cf n A Q nL σ (pc + 1) lv (.long (jlrem x y) :: rest)) : YY p l e R s m args below meth c w cf n A Q nL σ pc lv (.long y :: .long x :: rest) := fun H locs ls hP hS hl => lv_lrem E.1.1 E.1.2.1 hd hne (k H locs ls hP hS hl)
theorem y_lcmp (E : YE p m meth c cc nL s args own r w n A) {x y : Int64} (hd : decode cc pc = .ok (.lcmp, 1)) (k : YY p l e R s m args below meth c w cf n A Q nL σ (pc + 1) lv (.int (lg_cmp x y) :: rest)) : YY p l e R s m args below meth c w cf n A Q nL σ pc lv (.long y :: .long x :: rest) := fun H locs ls hP hS hl => W.lcmp E.1.1 E.1.2.1 hd (k H locs ls hP hS hl)
theorem y_lshl (E : YE p m meth c cc nL s args own r w n A) {x : Int64} {y : Int32} (hd : decode cc pc = .ok (.lshl, 1)) (k : YY p l e R s m args below meth c w cf n A Q nL σ (pc + 1) lv (.long (x <<< (y.toInt64 &&& 63)) :: rest)) : YY p l e R s m args below meth c w cf n A Q nL σ pc lv (.int y :: .long x :: rest) := fun H locs ls hP hS hl => lv_lshl E.1.1 E.1.2.1 hd rfl (k H locs ls hP hS hl)
theorem y_ineg (E : YE p m meth c cc nL s args own r w n A) {x : Int32} (hd : decode cc pc = .ok (.ineg, 1)) (k : YY p l e R s m args below meth c w cf n A Q nL σ (pc + 1) lv (.int (-x) :: rest)) : YY p l e R s m args below meth c w cf n A Q nL σ pc lv (.int x :: rest) := fun H locs ls hP hS hl => lv_ineg E.1.1 E.1.2.1 hd (k H locs ls hP hS hl)
theorem y_i2l (E : YE p m meth c cc nL s args own r w n A) {x : Int32} (hd : decode cc pc = .ok (.i2l, 1)) (k : YY p l e R s m args below meth c w cf n A Q nL σ (pc + 1) lv (.long (x.toInt64) :: rest)) : YY p l e R s m args below meth c w cf n A Q nL σ pc lv (.int x :: rest) := fun H locs ls hP hS hl => lv_i2l E.1.1 E.1.2.1 hd rfl (k H locs ls hP hS hl)
theorem y_l2i (E : YE p m meth c cc nL s args own r w n A) {x : Int64} (hd : decode cc pc = .ok (.l2i, 1)) (k : YY p l e R s m args below meth c w cf n A Q nL σ (pc + 1) lv (.int (x.toInt32) :: rest)) : YY p l e R s m args below meth c w cf n A Q nL σ pc lv (.long x :: rest) := fun H locs ls hP hS hl => lv_l2i E.1.1 E.1.2.1 hd rfl (k H locs ls hP hS hl)
theorem y_i2b (E : YE p m meth c cc nL s args own r w n A) {x : Int32} (hd : decode cc pc = .ok (.i2b, 1)) (k : YY p l e R s m args below meth c w cf n A Q nL σ (pc + 1) lv (.int (x.toInt8.toInt32) :: rest)) : YY p l e R s m args below meth c w cf n A Q nL σ pc lv (.int x :: rest) := fun H locs ls hP hS hl => lv_i2b E.1.1 E.1.2.1 hd rfl (k H locs ls hP hS hl)
theorem y_i2s (E : YE p m meth c cc nL s args own r w n A) {x : Int32} (hd : decode cc pc = .ok (.i2s, 1)) (k : YY p l e R s m args below meth c w cf n A Q nL σ (pc + 1) lv (.int (x.toInt16.toInt32) :: rest)) : YY p l e R s m args below meth c w cf n A Q nL σ pc lv (.int x :: rest) := fun H locs ls hP hS hl => lv_i2s E.1.1 E.1.2.1 hd rfl (k H locs ls hP hS hl)
theorem y_dup (E : YE p m meth c cc nL s args own r w n A) {va : Value} (hd : decode cc pc = .ok (.dup, 1)) (hva : va.category = 1) (k : YY p l e R s m args below meth c w cf n A Q nL σ (pc + 1) lv (va :: va :: rest)) : YY p l e R s m args below meth c w cf n A Q nL σ pc lv (va :: rest) := fun H locs ls hP hS hl => lv_dup E.1.1 E.1.2.1 hd hva (k H locs ls hP hS hl)
theorem y_dup2 (E : YE p m meth c cc nL s args own r w n A) {va vb : Value} (hd : decode cc pc = .ok (.dup2, 1)) (hva : va.category = 1) (hvb : vb.category = 1) (k : YY p l e R s m args below meth c w cf n A Q nL σ (pc + 1) lv (va :: vb :: va :: vb :: rest)) : YY p l e R s m args below meth c w cf n A Q nL σ pc lv (va :: vb :: rest) := fun H locs ls hP hS hl => lv_dup2_11 E.1.1 E.1.2.1 hd hva hvb (k H locs ls hP hS hl)
theorem y_pop (E : YE p m meth c cc nL s args own r w n A) {va : Value} (hd : decode cc pc = .ok (.pop, 1)) (hva : va.category = 1) (k : YY p l e R s m args below meth c w cf n A Q nL σ (pc + 1) lv rest) : YY p l e R s m args below meth c w cf n A Q nL σ pc lv (va :: rest) := fun H locs ls hP hS hl => lv_pop E.1.1 E.1.2.1 hd hva (k H locs ls hP hS hl)
theorem y_if_eq (E : YE p m meth c cc nL s args own r w n A) {x : Int32} {off : Int} {tgt : Nat} (hd : decode cc pc = .ok (.ifCond .eq off, 3)) (ht : (pc : Int) + off = (tgt : Int)) (kt : x = 0 → YY p l e R s m args below meth c w cf n A Q nL σ tgt lv rest) (kf : ¬ (x = 0) → YY p l e R s m args below meth c w cf n A Q nL σ (pc + 3) lv rest) : YY p l e R s m args below meth c w cf n A Q nL σ pc lv (.int x :: rest) := fun H locs ls hP hS hl => lv_if_eq E.1.1 E.1.2.1 hd ht (fun h => kt h H locs ls hP hS hl) (fun h => kf h H locs ls hP hS hl)
theorem y_icmp_eq (E : YE p m meth c cc nL s args own r w n A) {x y : Int32} {off : Int} {tgt : Nat} (hd : decode cc pc = .ok (.if_icmp .eq off, 3)) (ht : (pc : Int) + off = (tgt : Int)) (kt : x = y → YY p l e R s m args below meth c w cf n A Q nL σ tgt lv rest) (kf : ¬ (x = y) → YY p l e R s m args below meth c w cf n A Q nL σ (pc + 3) lv rest) : YY p l e R s m args below meth c w cf n A Q nL σ pc lv (.int y :: .int x :: rest) := fun H locs ls hP hS hl => lv_icmp_eq E.1.1 E.1.2.1 hd ht (fun h => kt h H locs ls hP hS hl) (fun h => kf h H locs ls hP hS hl)
theorem y_if_ne (E : YE p m meth c cc nL s args own r w n A) {x : Int32} {off : Int} {tgt : Nat} (hd : decode cc pc = .ok (.ifCond .ne off, 3)) (ht : (pc : Int) + off = (tgt : Int)) (kt : ¬ x = 0 → YY p l e R s m args below meth c w cf n A Q nL σ tgt lv rest) (kf : x = 0 → YY p l e R s m args below meth c w cf n A Q nL σ (pc + 3) lv rest) : YY p l e R s m args below meth c w cf n A Q nL σ pc lv (.int x :: rest) := fun H locs ls hP hS hl => lv_if_ne E.1.1 E.1.2.1 hd ht (fun h => kt h H locs ls hP hS hl) (fun h => kf h H locs ls hP hS hl)
theorem y_icmp_ne (E : YE p m meth c cc nL s args own r w n A) {x y : Int32} {off : Int} {tgt : Nat} (hd : decode cc pc = .ok (.if_icmp .ne off, 3)) (ht : (pc : Int) + off = (tgt : Int)) (kt : ¬ x = y → YY p l e R s m args below meth c w cf n A Q nL σ tgt lv rest) (kf : x = y → YY p l e R s m args below meth c w cf n A Q nL σ (pc + 3) lv rest) : YY p l e R s m args below meth c w cf n A Q nL σ pc lv (.int y :: .int x :: rest) := fun H locs ls hP hS hl => lv_icmp_ne E.1.1 E.1.2.1 hd ht (fun h => kt h H locs ls hP hS hl) (fun h => kf h H locs ls hP hS hl)
theorem y_if_lt (E : YE p m meth c cc nL s args own r w n A) {x : Int32} {off : Int} {tgt : Nat} (hd : decode cc pc = .ok (.ifCond .lt off, 3)) (ht : (pc : Int) + off = (tgt : Int)) (kt : x < 0 → YY p l e R s m args below meth c w cf n A Q nL σ tgt lv rest) (kf : ¬ (x < 0) → YY p l e R s m args below meth c w cf n A Q nL σ (pc + 3) lv rest) : YY p l e R s m args below meth c w cf n A Q nL σ pc lv (.int x :: rest) := fun H locs ls hP hS hl => lv_if_lt E.1.1 E.1.2.1 hd ht (fun h => kt h H locs ls hP hS hl) (fun h => kf h H locs ls hP hS hl)
theorem y_icmp_lt (E : YE p m meth c cc nL s args own r w n A) {x y : Int32} {off : Int} {tgt : Nat} (hd : decode cc pc = .ok (.if_icmp .lt off, 3)) (ht : (pc : Int) + off = (tgt : Int)) (kt : x < y → YY p l e R s m args below meth c w cf n A Q nL σ tgt lv rest) (kf : ¬ (x < y) → YY p l e R s m args below meth c w cf n A Q nL σ (pc + 3) lv rest) : YY p l e R s m args below meth c w cf n A Q nL σ pc lv (.int y :: .int x :: rest) := fun H locs ls hP hS hl => lv_icmp_lt E.1.1 E.1.2.1 hd ht (fun h => kt h H locs ls hP hS hl) (fun h => kf h H locs ls hP hS hl)
theorem y_if_ge (E : YE p m meth c cc nL s args own r w n A) {x : Int32} {off : Int} {tgt : Nat} (hd : decode cc pc = .ok (.ifCond .ge off, 3)) (ht : (pc : Int) + off = (tgt : Int)) (kt : 0 ≤ x → YY p l e R s m args below meth c w cf n A Q nL σ tgt lv rest) (kf : ¬ (0 ≤ x) → YY p l e R s m args below meth c w cf n A Q nL σ (pc + 3) lv rest) : YY p l e R s m args below meth c w cf n A Q nL σ pc lv (.int x :: rest) := fun H locs ls hP hS hl => lv_if_ge E.1.1 E.1.2.1 hd ht (fun h => kt h H locs ls hP hS hl) (fun h => kf h H locs ls hP hS hl)
theorem y_icmp_ge (E : YE p m meth c cc nL s args own r w n A) {x y : Int32} {off : Int} {tgt : Nat} (hd : decode cc pc = .ok (.if_icmp .ge off, 3)) (ht : (pc : Int) + off = (tgt : Int)) (kt : y ≤ x → YY p l e R s m args below meth c w cf n A Q nL σ tgt lv rest) (kf : ¬ (y ≤ x) → YY p l e R s m args below meth c w cf n A Q nL σ (pc + 3) lv rest) : YY p l e R s m args below meth c w cf n A Q nL σ pc lv (.int y :: .int x :: rest) := fun H locs ls hP hS hl => lv_icmp_ge E.1.1 E.1.2.1 hd ht (fun h => kt h H locs ls hP hS hl) (fun h => kf h H locs ls hP hS hl)
theorem y_if_gt (E : YE p m meth c cc nL s args own r w n A) {x : Int32} {off : Int} {tgt : Nat} (hd : decode cc pc = .ok (.ifCond .gt off, 3)) (ht : (pc : Int) + off = (tgt : Int)) (kt : 0 < x → YY p l e R s m args below meth c w cf n A Q nL σ tgt lv rest) (kf : ¬ (0 < x) → YY p l e R s m args below meth c w cf n A Q nL σ (pc + 3) lv rest) : YY p l e R s m args below meth c w cf n A Q nL σ pc lv (.int x :: rest) := fun H locs ls hP hS hl => lv_if_gt E.1.1 E.1.2.1 hd ht (fun h => kt h H locs ls hP hS hl) (fun h => kf h H locs ls hP hS hl)
theorem y_icmp_gt (E : YE p m meth c cc nL s args own r w n A) {x y : Int32} {off : Int} {tgt : Nat} (hd : decode cc pc = .ok (.if_icmp .gt off, 3)) (ht : (pc : Int) + off = (tgt : Int)) (kt : y < x → YY p l e R s m args below meth c w cf n A Q nL σ tgt lv rest) (kf : ¬ (y < x) → YY p l e R s m args below meth c w cf n A Q nL σ (pc + 3) lv rest) : YY p l e R s m args below meth c w cf n A Q nL σ pc lv (.int y :: .int x :: rest) := fun H locs ls hP hS hl => lv_icmp_gt E.1.1 E.1.2.1 hd ht (fun h => kt h H locs ls hP hS hl) (fun h => kf h H locs ls hP hS hl)
theorem y_if_le (E : YE p m meth c cc nL s args own r w n A) {x : Int32} {off : Int} {tgt : Nat} (hd : decode cc pc = .ok (.ifCond .le off, 3)) (ht : (pc : Int) + off = (tgt : Int)) (kt : x ≤ 0 → YY p l e R s m args below meth c w cf n A Q nL σ tgt lv rest) (kf : ¬ (x ≤ 0) → YY p l e R s m args below meth c w cf n A Q nL σ (pc + 3) lv rest) : YY p l e R s m args below meth c w cf n A Q nL σ pc lv (.int x :: rest) := fun H locs ls hP hS hl => lv_if_le E.1.1 E.1.2.1 hd ht (fun h => kt h H locs ls hP hS hl) (fun h => kf h H locs ls hP hS hl)
theorem y_icmp_le (E : YE p m meth c cc nL s args own r w n A) {x y : Int32} {off : Int} {tgt : Nat} (hd : decode cc pc = .ok (.if_icmp .le off, 3)) (ht : (pc : Int) + off = (tgt : Int)) (kt : x ≤ y → YY p l e R s m args below meth c w cf n A Q nL σ tgt lv rest) (kf : ¬ (x ≤ y) → YY p l e R s m args below meth c w cf n A Q nL σ (pc + 3) lv rest) : YY p l e R s m args below meth c w cf n A Q nL σ pc lv (.int y :: .int x :: rest) := fun H locs ls hP hS hl => lv_icmp_le E.1.1 E.1.2.1 hd ht (fun h => kt h H locs ls hP hS hl) (fun h => kf h H locs ls hP hS hl)
theorem y_goto (E : YE p m meth c cc nL s args own r w n A) {off : Int} {tgt : Nat} (hd : decode cc pc = .ok (.goto off, 3)) (ht : (pc : Int) + off = (tgt : Int)) (k : YY p l e R s m args below meth c w cf n A Q nL σ tgt lv st) : YY p l e R s m args below meth c w cf n A Q nL σ pc lv st := fun H locs ls hP hS hl => lv_goto E.1.1 E.1.2.1 hd ht (k H locs ls hP hS hl)
theorem y_ifnull (E : YE p m meth c cc nL s args own r w n A) {x : Nat} {off : Int} (hd : decode cc pc = .ok (.ifnull off, 3)) (k : YY p l e R s m args below meth c w cf n A Q nL σ (pc + 3) lv rest) : YY p l e R s m args below meth c w cf n A Q nL σ pc lv (.ref x :: rest) := fun H locs ls hP hS hl => lv_ifnull E.1.1 E.1.2.1 hd (k H locs ls hP hS hl)
theorem y_ifnonnull (E : YE p m meth c cc nL s args own r w n A) {x : Nat} {off : Int} {tgt : Nat} (hd : decode cc pc = .ok (.ifnonnull off, 3)) (ht : (pc : Int) + off = (tgt : Int)) (k : YY p l e R s m args below meth c w cf n A Q nL σ tgt lv rest) : YY p l e R s m args below meth c w cf n A Q nL σ pc lv (.ref x :: rest) := fun H locs ls hP hS hl => lv_ifnonnull E.1.1 E.1.2.1 hd ht (k H locs ls hP hS hl)
theorem y_tableIn (E : YE p m meth c cc nL s args own r w n A) {dflt lo hi : Int} {offs : Array Int} {len : Nat} {x : Int32} {off : Int} {tgt : Nat} (hd : decode cc pc = .ok (.tableswitch dflt lo hi offs, len)) (h1 : ¬ x.toInt < lo) (h2 : ¬ hi < x.toInt) (ho : offs[(x.toInt - lo).toNat]? = some off) (ht : (pc : Int) + off = (tgt : Int)) (k : YY p l e R s m args below meth c w cf n A Q nL σ tgt lv rest) : YY p l e R s m args below meth c w cf n A Q nL σ pc lv (.int x :: rest) := fun H locs ls hP hS hl => lv_tableIn E.1.1 E.1.2.1 hd h1 h2 ho ht (k H locs ls hP hS hl)
theorem y_tableOut (E : YE p m meth c cc nL s args own r w n A) {dflt lo hi : Int} {offs : Array Int} {len : Nat} {x : Int32} {tgt : Nat} (hd : decode cc pc = .ok (.tableswitch dflt lo hi offs, len)) (h : x.toInt < lo ∨ hi < x.toInt) (ht : (pc : Int) + dflt = (tgt : Int)) (k : YY p l e R s m args below meth c w cf n A Q nL σ tgt lv rest) : YY p l e R s m args below meth c w cf n A Q nL σ pc lv (.int x :: rest) := fun H locs ls hP hS hl => lv_tableOut E.1.1 E.1.2.1 hd h ht (k H locs ls hP hS hl)
theorem y_get (E : YE p m meth c cc nL s args own r w n A) {o ci index k N : Nat} {C : String} {T : u_T} {fs : List Value} {v : Value} (ho : o < n) (hcell : cf w o (σ o) = .inr (ci, fs)) (hc : vwCl[ci]? = some (C, T, N)) (hin : ∀ x ∈ u_ws C T N, x ∈ wG) (hk : k < N) (hlink : Cond.fieldLink own index (T k).1 (T k).2.1 (T k).2.2.1 ∈ wG) (hv : fs[k]? = some v) (hd : decode cc pc = .ok (.getfield index, 3)) (kk : YY p l e R s m args below meth c w cf n A Q nL σ (pc + 3) lv (v :: rest)) : YY p l e R s m args below meth c w cf n A Q nL σ pc lv (.ref (w.1 o) :: rest) := fun H locs ls hP hS hl =>
  va_get (tys := yTys w) E.1.1 E.1.2.1 E.1.2.2.2.2 hin E.1.2.2.2.1 E.2.1.1 hP o (by rw [yw_get ho, hcell]) hc k hk (E.1.2.2.2.2 _ hlink) (fun _ h => h) hv hd (kk H locs ls hP hS hl)
theorem y_put (E : YE p m meth c cc nL s args own r w n A) {o ci index k N : Nat} {C : String} {T : u_T} {fs : List Value} {v : Value} {ty : FieldType} {z : Int32} (ho : o < n) (hcell : cf w o (σ o) = .inr (ci, fs)) (hset' : cf w o (upd (σ o) k z) = .inr (ci, fs.set k v)) (hc : vwCl[ci]? = some (C, T, N)) (hin : ∀ x ∈ u_ws C T N, x ∈ wG) (ty0 : Nat → FieldType) (hty : ∀ k, k < N → parseFieldDescriptor (T k).2.2.1 = some (ty0 k)) (hnm : ∀ a, a < N → ∀ b, b < N → a ≠ b → (T a).2.1 ≠ (T b).2.1) (hk : k < N) (hlink : Cond.fieldLink own index (T k).1 (T k).2.1 (T k).2.2.1 ∈ wG) (hfin : (T k).2.2.2 = false) (hdd : parseFieldDescriptor (T k).2.2.1 = some ty) (hn : narrow ty v = v) (hfit : fits ty v = true) (hl0 : k < fs.length) (hd : decode cc pc = .ok (.putfield index, 3)) (kk : YY p l e R s m args below meth c w cf n A Q nL (hup σ o k z) (pc + 3) lv rest) : YY p l e R s m args below meth c w cf n A Q nL σ pc lv (v :: .ref (w.1 o) :: rest) := fun H locs ls hP hS hl =>
  va_put (tys := yTys w) E.1.1 E.1.2.1 E.1.2.2.2.2 hin ty0 hty hnm E.1.2.2.2.1 E.2.1.1 hP (y_D E.2.2.1 E.2.2.2.1) hS o (by rw [yw_get ho, hcell]) hc k hk (E.1.2.2.2.2 _ hlink) (fun _ h => h) hfin hdd hn hfit hl0 hd (fun H1 locs1 hP1 _ hS1 => kk H1 locs1 ls (by
    rw [← hset', yw_set ho] at hP1
    exact hP1) hS1 hl)
theorem y_iald (E : YE p m meth c cc nL s args own r w n A) {o N : Nat} {i : Int32} (ho : o < n) (hcell : cf w o (σ o) = .inl (w.2.1 1, N, .inl (σ o))) (hin : vp_in i N) (hd : decode cc pc = .ok (.iaload, 1)) (kk : YY p l e R s m args below meth c w cf n A Q nL σ (pc + 1) lv (.int (σ o i.toNatClampNeg) :: rest)) : YY p l e R s m args below meth c w cf n A Q nL σ pc lv (.int i :: .ref (w.1 o) :: rest) := fun H locs ls hP hS hl =>
  va_iald (tys := yTys w) E.1.1 E.1.2.1 E.2.1.1 hP o 1 (by rw [yw_get ho, hcell]) rfl hin hd (kk H locs ls hP hS hl)
theorem y_bald (E : YE p m meth c cc nL s args own r w n A) {o N : Nat} {i : Int32} (ho : o < n) (hcell : cf w o (σ o) = .inl (w.2.1 0, N, .inl (σ o))) (hin : vp_in i N) (hd : decode cc pc = .ok (.baload, 1)) (kk : YY p l e R s m args below meth c w cf n A Q nL σ (pc + 1) lv (.int (σ o i.toNatClampNeg) :: rest)) : YY p l e R s m args below meth c w cf n A Q nL σ pc lv (.int i :: .ref (w.1 o) :: rest) := fun H locs ls hP hS hl =>
  va_bald (tys := yTys w) E.1.1 E.1.2.1 E.2.1.1 hP o 0 (by rw [yw_get ho, hcell]) rfl hin hd (kk H locs ls hP hS hl)
theorem y_iast (E : YE p m meth c cc nL s args own r w n A) {o N : Nat} {i x : Int32} (ho : o < n) (hcell : ∀ f : Nat → Int32, cf w o f = .inl (w.2.1 1, N, .inl f)) (hin : vp_in i N) (hd : decode cc pc = .ok (.iastore, 1)) (kk : YY p l e R s m args below meth c w cf n A Q nL (hup σ o i.toNatClampNeg x) (pc + 1) lv rest) : YY p l e R s m args below meth c w cf n A Q nL σ pc lv (.int x :: .int i :: .ref (w.1 o) :: rest) := fun H locs ls hP hS hl =>
  va_iast (tys := yTys w) E.1.1 E.1.2.1 E.2.1.1 hP (y_D E.2.2.1 E.2.2.2.1) hS o 1 (by rw [yw_get ho, hcell]) rfl hin hd (fun H1 locs1 hP1 _ hS1 => kk H1 locs1 ls (by
    rw [← hcell, yw_set ho] at hP1
    exact hP1) hS1 hl)
theorem y_bast (E : YE p m meth c cc nL s args own r w n A) {o N : Nat} {i x : Int32} (ho : o < n) (hcell : ∀ f : Nat → Int32, cf w o f = .inl (w.2.1 0, N, .inl f)) (hin : vp_in i N) (hd : decode cc pc = .ok (.bastore, 1)) (kk : YY p l e R s m args below meth c w cf n A Q nL (hup σ o i.toNatClampNeg (vp_nar .byte x)) (pc + 1) lv rest) : YY p l e R s m args below meth c w cf n A Q nL σ pc lv (.int x :: .int i :: .ref (w.1 o) :: rest) := fun H locs ls hP hS hl =>
  va_bast (tys := yTys w) E.1.1 E.1.2.1 E.2.1.1 hP (y_D E.2.2.1 E.2.2.2.1) hS o 0 (by rw [yw_get ho, hcell]) rfl hin hd (fun H1 locs1 hP1 _ hS1 => kk H1 locs1 ls (by
    rw [← hcell, yw_set ho] at hP1
    exact hP1) hS1 hl)
theorem y_aald (E : YE p m meth c cc nL s args own r w n A) {o N t0 b : Nat} {cA : ClassId} {C : String} {i : Int32} (ho : o < n) (hcell : cf w o (σ o) = .inl (cA, N, .inr (.inr (.inr (.inr (fun j => some (w.1 (b + j)))))))) (ht : (yTys w)[t0]? = some (cA, .object C)) (hin : vp_in i N) (hd : decode cc pc = .ok (.aaload, 1)) (kk : YY p l e R s m args below meth c w cf n A Q nL σ (pc + 1) lv (.ref (w.1 (b + i.toNatClampNeg)) :: rest)) : YY p l e R s m args below meth c w cf n A Q nL σ pc lv (.int i :: .ref (w.1 o) :: rest) := fun H locs ls hP hS hl =>
  va_aldq (tys := yTys w) (f := fun j => some (w.1 (b + j))) E.1.1 E.1.2.1 E.2.1.1 hP o t0 (by rw [yw_get ho, hcell]) ht hin hd (kk H locs ls hP hS hl)
theorem y_copyi (E : YE p m meth c cc nL s args own r w n A) {o1 o2 N1 N2 index : Nat} {sp dp k : Int32} (ho1 : o1 < n) (ho2 : o2 < n) (hc1 : cf w o1 (σ o1) = .inl (w.2.1 1, N1, .inl (σ o1))) (hc2 : ∀ f : Nat → Int32, cf w o2 f = .inl (w.2.1 1, N2, .inl f)) (hlink : Cond.methodLink own index arraycopyName ∈ wG) (hnat : Cond.native arraycopyName ∈ wG) (hstat : Cond.static arraycopyName ∈ wG) (hini : Cond.initialized "java/lang/System" ∈ wG) (h1 : ¬ sp < 0) (h2 : ¬ dp < 0) (h3 : ¬ k < 0) (h4 : sp.toNatClampNeg + k.toNatClampNeg ≤ N1) (h5 : dp.toNatClampNeg + k.toNatClampNeg ≤ N2)
    (hf : 1 ≤ R.frames) (hlo : (rest.map fun v => v.category).sum + (nativeFrameWords "java/lang/System" "arraycopy" 5 + 11) ≤ R.locals) (hd : decode cc pc = .ok (.invokestatic index, 3)) (kk : YY p l e R s m args below meth c w cf n A Q nL (hset σ o2 (va_cpy (σ o1) (σ o2) sp.toNatClampNeg dp.toNatClampNeg k.toNatClampNeg)) (pc + 3) lv rest) : YY p l e R s m args below meth c w cf n A Q nL σ pc lv (.int k :: .int dp :: .ref (w.1 o2) :: .int sp :: .ref (w.1 o1) :: rest) := fun H locs ls hP hS hl =>
  va_copyi (tys := yTys w) E.1.1 E.1.2.1 (E.1.2.2.1.trans hl.1.symm) E.1.2.2.2.1 (E.1.2.2.2.2 _ hlink) (E.1.2.2.2.2 _ hnat) (E.1.2.2.2.2 _ hstat) (E.1.2.2.2.2 _ hini) E.2.1.1 hP (y_D E.2.2.1 E.2.2.2.1) hS o1 o2 1 1 (ty := .int) (by rw [yw_get ho1, hc1]) (by rw [yw_get ho2, hc2]) rfl rfl rfl h1 h2 h3 h4 h5 (fun _ _ => rfl) hf hlo hd (fun H1 locs1 hP1 _ hS1 => kk H1 locs1 ls (by
    rw [← hc2, yw_set ho2] at hP1
    exact hP1) hS1 hl)
theorem y_mmax (E : YE p m meth c cc nL s args own r w n A) {index : Nat} {x y : Int32} (hlink : Cond.methodLink own index Lib.Math.max.name ∈ wG) (hstat : Cond.static Lib.Math.max.name ∈ wG) (hini : Cond.initialized "java/lang/Math" ∈ wG) (hcode : Cond.code Lib.Math.max.name Lib.Math.max.code 2 (some .int) ∈ wG) (hf : 1 ≤ R.frames) (hlo : (rest.map fun v => v.category).sum + 13 ≤ R.locals) (hd : decode cc pc = .ok (.invokestatic index, 3)) (kk : YY p l e R s m args below meth c w cf n A Q nL σ (pc + 3) lv (.int (if x < y then y else x) :: rest)) : YY p l e R s m args below meth c w cf n A Q nL σ pc lv (.int y :: .int x :: rest) := fun H locs ls hP hS hl =>
  va_mmax E.1.1 E.1.2.1 (E.1.2.2.1.trans hl.1.symm) E.1.2.2.2.1 (E.1.2.2.2.2 _ hlink) (E.1.2.2.2.2 _ hstat) (E.1.2.2.2.2 _ hini) (E.1.2.2.2.2 _ hcode) hf hlo (Nat.zero_le _) (Nat.zero_le _) hd (kk H locs ls hP hS hl)
theorem y_mmin (E : YE p m meth c cc nL s args own r w n A) {index : Nat} {x y : Int32} (hlink : Cond.methodLink own index Lib.Math.min.name ∈ wG) (hstat : Cond.static Lib.Math.min.name ∈ wG) (hini : Cond.initialized "java/lang/Math" ∈ wG) (hcode : Cond.code Lib.Math.min.name Lib.Math.min.code 2 (some .int) ∈ wG) (hf : 1 ≤ R.frames) (hlo : (rest.map fun v => v.category).sum + 13 ≤ R.locals) (hd : decode cc pc = .ok (.invokestatic index, 3)) (kk : YY p l e R s m args below meth c w cf n A Q nL σ (pc + 3) lv (.int (if y < x then y else x) :: rest)) : YY p l e R s m args below meth c w cf n A Q nL σ pc lv (.int y :: .int x :: rest) := fun H locs ls hP hS hl =>
  va_mmin E.1.1 E.1.2.1 (E.1.2.2.1.trans hl.1.symm) E.1.2.2.2.1 (E.1.2.2.2.2 _ hlink) (E.1.2.2.2.2 _ hstat) (E.1.2.2.2.2 _ hini) (E.1.2.2.2.2 _ hcode) hf hlo (Nat.zero_le _) (Nat.zero_le _) hd (kk H locs ls hP hS hl)
theorem y_free (E : YE p m meth c cc nL s args own r w n A) {H : Heap} {locs : List Loc} (hS : va_S A s.heap H locs) : ∀ q, YA w n H.size q → A q := by
  rintro q (⟨k, hk, rfl⟩ | h)
  · exact E.2.2.2.1 k hk
  · exact E.2.2.2.2.1 q (Nat.le_trans hS.1 h)
theorem y_pre (E : YE p m meth c cc nL s args own r w n A) {H : Heap} {locs : List Loc} (hP : va_P w.2.2.1 vwCl (yw w cf n σ) H) (hS : va_S A s.heap H locs) {av : List Value} {a : Array Value} (ha : a = av.toArray) : ∀ U : State, U.heap = H → s.WarmedH U.vm → va_Pc av (yPre w cf n σ H.size) a U := by
  intro U hU hW
  refine ⟨ha, by rw [hU], by rw [hU]; exact hP, E.2.1.at hW ?_ (y_free E hS)⟩
  intro q h1 h2
  rw [hU]
  exact hS.2.1 q h1 h2
variable {y x0 : MethodName} {b : ByteArray} {nL' d k o ci N index : Nat} {r' : Option FieldType} {As : List Value} {C host owner : String} {T : u_T} {fs : List Value} {Qc : (Nat → Prop) → Array Value → State → Outcome → State → Prop} {a : Array Value}
theorem y_runV (E : YE p m meth c cc nL s args own r w n A) (hM : yMet l w cf n y b nL' r' d (.ref (w.1 o) :: As) σ Qc) (cw : CallW R s args own C index y b nL' r' (.code y b nL' r' :: wG) (yRm d) 0 0 k) (ho : o < n) (hcell : cf w o (σ o) = .inr (ci, fs)) (hc : vwCl[ci]? = some (C, T, N)) (hk : As.length = k) (hst : st = As.reverse ++ .ref (w.1 o) :: rest) (hr : (rest.map fun v => v.category).sum ≤ 8) (hd : decode cc pc = .ok (.invokevirtual index, 3)) : YR p l e R s m args below meth c w cf n A nL σ pc lv st rest (Value.ref (w.1 o) :: As).toArray Qc := fun H locs ls hP hS hl =>
  va_runV E.1 (hM H.size) cw ⟨yPre.blind, va_recv E.2.1.1 hP (ci := ci) (q0 := o) hc (by rw [yw_get ho, hcell]), y_pre E hP hS rfl⟩ rfl hk hl.1 hst (lv_room hr) hd ⟨Nat.zero_le _, Nat.zero_le _⟩
theorem y_runU (E : YE p m meth c cc nL s args own r w n A) (hM : yMet l w cf n y b nL' r' d (.ref (w.1 o) :: As) σ Qc) (cw : va_CU R s args own C owner index x0 y b nL' r' (.code y b nL' r' :: wG) (yRm d) 0 0 k) (ho : o < n) (hcell : cf w o (σ o) = .inr (ci, fs)) (hc : vwCl[ci]? = some (C, T, N)) (hk : As.length = k) (hst : st = As.reverse ++ .ref (w.1 o) :: rest) (hr : (rest.map fun v => v.category).sum ≤ 8) (hd : decode cc pc = .ok (.invokevirtual index, 3)) : YR p l e R s m args below meth c w cf n A nL σ pc lv st rest (Value.ref (w.1 o) :: As).toArray Qc := fun H locs ls hP hS hl =>
  va_runU E.1 (hM H.size) cw ⟨yPre.blind, va_recv E.2.1.1 hP (ci := ci) (q0 := o) hc (by rw [yw_get ho, hcell]), y_pre E hP hS rfl⟩ rfl hk hl.1 hst (lv_room hr) hd ⟨Nat.zero_le _, Nat.zero_le _⟩
theorem y_runSU (E : YE p m meth c cc nL s args own r w n A) (hM : yMet l w cf n y b nL' r' d (.ref (w.1 o) :: As) σ Qc) (cw : va_CS R s args own index y b nL' r' (.code y b nL' r' :: wG) (yRm d) 0 0 k) (ho : o < n) (hcell : cf w o (σ o) = .inr (ci, fs)) (hc : vwCl[ci]? = some (C, T, N)) (hk : As.length = k) (hst : st = As.reverse ++ .ref (w.1 o) :: rest) (hr : (rest.map fun v => v.category).sum ≤ 8) (hd : decode cc pc = .ok (.invokespecial index, 3)) : YR p l e R s m args below meth c w cf n A nL σ pc lv st rest (Value.ref (w.1 o) :: As).toArray Qc := fun H locs ls hP hS hl =>
  va_runSU (E.2.1.1.1 ci _ hc).2 E.1 (hM H.size) cw ⟨yPre.blind, va_recv E.2.1.1 hP (ci := ci) (q0 := o) hc (by rw [yw_get ho, hcell]), y_pre E hP hS rfl⟩ rfl hk hl.1 hst (lv_room hr) hd ⟨Nat.zero_le _, Nat.zero_le _⟩
theorem y_runS (E : YE p m meth c cc nL s args own r w n A) (hM : yMet l w cf n y b nL' r' d As σ Qc) (cw : CallB R s args own index y b nL' r' (.code y b nL' r' :: wG) (yRm d) 0 0 k ∧ (Cond.static y).before args s = true) (hk : As.length = k) (hst : st = As.reverse ++ rest) (hr : (rest.map fun v => v.category).sum ≤ 8) (hd : decode cc pc = .ok (.invokestatic index, 3)) : YR p l e R s m args below meth c w cf n A nL σ pc lv st rest As.toArray Qc := fun H locs ls hP hS hl =>
  va_runS E.1 (hM H.size) cw ⟨yPre.blind, y_pre E hP hS rfl⟩ rfl hk hl.1 hst (lv_room hr) hd ⟨Nat.zero_le _, Nat.zero_le _⟩
theorem y_runSN (E : YE p m meth c cc nL s args own r w n A) (hM : yMet l w cf n y b nL' r' d As σ Qc) (cw : va_CN R s args own index y host b nL' r' (.code y b nL' r' :: wG) (yRm d) 0 0 k ∧ (Cond.static y).before args s = true ∧ True) (hk : As.length = k) (hst : st = As.reverse ++ rest) (hr : (rest.map fun v => v.category).sum ≤ 8) (hd : decode cc pc = .ok (.invokestatic index, 3)) : YR p l e R s m args below meth c w cf n A nL σ pc lv st rest As.toArray Qc := fun H locs ls hP hS hl =>
  va_runSN E.1 (hM H.size) cw ⟨yPre.blind, y_pre E hP hS rfl⟩ rfl hk hl.1 hst (lv_room hr) hd ⟨Nat.zero_le _, Nat.zero_le _⟩
theorem y_calli {K : Int32 → Hp → Prop} (E : YE p m meth c cc nL s args own r w n A) (hR : YR p l e R s m args below meth c w cf n A nL σ pc lv st rest a (yQi w cf n K)) (kk : ∀ (v : Int32) (u : Hp), K v u → YY p l e R s m args below meth c w cf n A Q nL u (pc + 3) lv (.int v :: rest)) : YY p l e R s m args below meth c w cf n A Q nL σ pc lv st := fun H locs ls hP hS hl =>
  va_calli (S := Hp) (post := K) (B := yB w cf n) (A1 := YA w n H.size) (hR H locs ls hP hS hl) hS (fun q _ h => y_free E hS q h) (y_free E hS) (fun v u t H1 locs1 ht _ hk hB _ _ hS1 => kk v u hk H1 locs1 ls (by rw [← ht]; exact hB) hS1 hl)
theorem y_calll {K : Int64 → Hp → Prop} (E : YE p m meth c cc nL s args own r w n A) (hR : YR p l e R s m args below meth c w cf n A nL σ pc lv st rest a (yQl w cf n K)) (kk : ∀ (v : Int64) (u : Hp), K v u → YY p l e R s m args below meth c w cf n A Q nL u (pc + 3) lv (.long v :: rest)) : YY p l e R s m args below meth c w cf n A Q nL σ pc lv st := fun H locs ls hP hS hl =>
  va_calll (S := Hp) (post := K) (B := yB w cf n) (A1 := YA w n H.size) (hR H locs ls hP hS hl) hS (fun q _ h => y_free E hS q h) (y_free E hS) (fun v u t H1 locs1 ht _ hk hB _ _ hS1 => kk v u hk H1 locs1 ls (by rw [← ht]; exact hB) hS1 hl)
theorem y_callv {K : Hp → Prop} (E : YE p m meth c cc nL s args own r w n A) (hR : YR p l e R s m args below meth c w cf n A nL σ pc lv st rest a (yQv w cf n K)) (kk : ∀ (u : Hp), K u → YY p l e R s m args below meth c w cf n A Q nL u (pc + 3) lv rest) : YY p l e R s m args below meth c w cf n A Q nL σ pc lv st := fun H locs ls hP hS hl =>
  va_callv (S := Hp) (post := K) (B := yB w cf n) (A1 := YA w n H.size) (hR H locs ls hP hS hl) hS (fun q _ h => y_free E hS q h) (y_free E hS) (fun u t H1 locs1 ht _ hk hB _ _ hS1 => kk u hk H1 locs1 ls (by rw [← ht]; exact hB) hS1 hl)
theorem y_callr {K : Nat → Hp → Prop} (E : YE p m meth c cc nL s args own r w n A) (hR : YR p l e R s m args below meth c w cf n A nL σ pc lv st rest a (yQr w cf n K)) (kk : ∀ (v : Nat) (u : Hp), K v u → YY p l e R s m args below meth c w cf n A Q nL u (pc + 3) lv (.ref (w.1 v) :: rest)) : YY p l e R s m args below meth c w cf n A Q nL σ pc lv st := fun H locs ls hP hS hl =>
  va_callr (S := Nat × Hp) (post := fun u => K u.1 u.2) (B := fun u a t => a = w.1 u.1 ∧ yB w cf n u.2 t) (A1 := YA w n H.size) (hR H locs ls hP hS hl) hS (fun q _ h => y_free E hS q h) (y_free E hS) (fun u ra t H1 locs1 ht _ hk hB _ _ hS1 => by
    obtain ⟨rfl, hB⟩ := hB
    exact kk u.1 u.2 hk H1 locs1 ls (by rw [← ht]; exact hB) hS1 hl)
theorem y_iret {K : Int32 → Hp → Prop} {v : Int32} (E : YE p m meth c cc nL s args own (some .int) w n A) (hd : decode cc pc = .ok (.ireturn, 1)) (hv : K v σ) : YY p l e R s m args below meth c w cf n A (MQ below (yQi w cf n K A) args s 0 0 A) nL σ pc lv [.int v] := fun H locs ls hP hS hl =>
  W.iret E.1.1 E.1.2.1 E.2.2.2.2.2.1 (fun t ht hW => ⟨⟨v, σ, rfl, hv, by rw [yB, ht]; exact hP⟩, hS.F ht⟩) hS.2.2 hd E.2.2.2.2.2.2
theorem y_nret {ty : FieldType} {K : Int32 → Hp → Prop} {v : Int32} (E : YE p m meth c cc nL s args own (some ty) w n A) (hd : decode cc pc = .ok (.ireturn, 1)) (hn : narrow ty (.int v) = .int v) (hv : K v σ) : YY p l e R s m args below meth c w cf n A (MQ below (yQi w cf n K A) args s 0 0 A) nL σ pc lv [.int v] := fun H locs ls hP hS hl =>
  W.zret E.1.1 E.1.2.1 E.2.2.2.2.2.1 hn (fun t ht hW => ⟨⟨v, σ, rfl, hv, by rw [yB, ht]; exact hP⟩, hS.F ht⟩) hS.2.2 hd E.2.2.2.2.2.2
theorem y_lret {K : Int64 → Hp → Prop} {v : Int64} (E : YE p m meth c cc nL s args own (some .long) w n A) (hd : decode cc pc = .ok (.lreturn, 1)) (hv : K v σ) : YY p l e R s m args below meth c w cf n A (MQ below (yQl w cf n K A) args s 0 0 A) nL σ pc lv [.long v] := fun H locs ls hP hS hl =>
  W.lret E.1.1 E.1.2.1 E.2.2.2.2.2.1 (fun t ht hW => ⟨⟨v, σ, rfl, hv, by rw [yB, ht]; exact hP⟩, hS.F ht⟩) hS.2.2 hd E.2.2.2.2.2.2
theorem y_vret {K : Hp → Prop} (E : YE p m meth c cc nL s args own none w n A) (hd : decode cc pc = .ok (.return_, 1)) (hv : K σ) : YY p l e R s m args below meth c w cf n A (MQ below (yQv w cf n K A) args s 0 0 A) nL σ pc lv [] := fun H locs ls hP hS hl =>
  W.vret E.1.1 E.1.2.1 E.2.2.2.2.2.1 (fun t ht hW => ⟨⟨σ, rfl, hv, by rw [yB, ht]; exact hP⟩, hS.F ht⟩) hS.2.2 hd E.2.2.2.2.2.2
theorem y_aret {CC : String} {K : Nat → Hp → Prop} {v : Nat} (E : YE p m meth c cc nL s args own (some (.object CC)) w n A) (hd : decode cc pc = .ok (.areturn, 1)) (hv : K v σ) : YY p l e R s m args below meth c w cf n A (MQ below (yQr w cf n K A) args s 0 0 A) nL σ pc lv [.ref (w.1 v)] := fun H locs ls hP hS hl =>
  W.aret (rt := .object CC) E.1.1 E.1.2.1 E.2.2.2.2.2.1 (Or.inl ⟨CC, rfl⟩) (Or.inr ⟨_, rfl⟩) (fun t ht hW => ⟨⟨(v, σ), w.1 v, rfl, hv, rfl, by rw [yB, ht]; exact hP⟩, hS.F ht⟩) hS.2.2 hd E.2.2.2.2.2.2
end YROWS
theorem y_start {l : Launch} {w : wT} {cf : cT} {n : Nat} {y : MethodName} {b : ByteArray} {nL : Nat} {r : Option FieldType} {d : Nat} {av : List Value} {σ : Hp} {Qc : (Nat → Prop) → Array Value → State → Outcome → State → Prop} {own : String} {lv0 : List (Nat × Value)} (hy : plainName y.cls = true) (hown : y.cls = own) (hw : yOk w n) (hlen : (lg_sl av).length ≤ nL) (hlv : lv_args 0 av = lv0)
    (body : ∀ p e s m below meth c A, YE p m meth c b nL s av.toArray own r w n A → YY p l e (yRm d) s m av.toArray below meth c w cf n A (MQ below (Qc A) av.toArray s 0 0 A) nL σ 0 lv0 []) : yMet l w cf n y b nL r d av σ Qc := by
  intro sz
  refine Met.ofW (cc := b) (maxL := nL) (ret := r) hy rfl ?_
  intro p e s m args below meth c s₁ B hml hv
  obtain ⟨rfl, hsz, hP, hG⟩ := hv
  subst hsz
  have hts := atoms_spec (ws := .code y b nL r :: wG) B.pre
  have hown2 : s.vm.findClass own = some m.cls := by rw [← hown]; exact findClass_of_methodNamed B.named
  have h := body p e s m below meth c (YA w n s.heap.size) ⟨⟨B.exec, B.bytes, hml, hown2, fun w hw => hts w (List.mem_cons_of_mem _ hw)⟩, hG, hw, fun k hk => Or.inl ⟨k, hk, rfl⟩, fun q hq => Or.inr hq, B.returns, B.notSynchronized⟩
  have hl := lv_entry av (n := nL) hlen
  rw [hlv] at hl
  rw [lg_entry_eq]
  exact h s.heap [] _ hP va_S.rf hl
theorem gI {y : MethodName} {b : ByteArray} {nL : Nat} {r : Option FieldType} (h : .code y b nL r ∈ wG) : GoodIn wG (.code y b nL r :: wG) := by
  intro w hw
  have h1 : w ∈ wG := by
    rcases List.mem_cons.mp hw with rfl | h2
    · exact h
    · exact h2
  exact ⟨h1, good_of_word (wG_good w h1)⟩
theorem gApp {a : List Cond} {b : List Cond} (h1 : ∀ w ∈ a, w ∈ wG) (h2 : GoodIn wG b) : GoodIn wG (a ++ b) := by
  intro w hw
  rcases List.mem_append.mp hw with h | h
  · exact ⟨h1 w h, good_of_word (wG_good w (h1 w h))⟩
  · exact h2 w h
theorem gL0 : ∀ w ∈ ([] : List Cond), w ∈ wG := fun _ h => absurd h List.not_mem_nil
theorem gL1 {a : Cond} {l : List Cond} (h : a ∈ wG) (h2 : ∀ w ∈ l, w ∈ wG) : ∀ w ∈ a :: l, w ∈ wG := fun w hw => by
  rcases List.mem_cons.mp hw with rfl | h3
  · exact h
  · exact h2 w h3
section YCW
variable {s : State} {args : Array Value} {own C host owner : String} {index nL d d' : Nat} {y x0 : MethodName} {b : ByteArray} {r : Option FieldType} {R : Room}
theorem y_cwV (k : Nat) (hts : ∀ w ∈ wG, w.before args s = true) (h1 : .methodLink own index y ∈ wG) (h2 : .instanceMethod y ∈ wG) (h3 : .selects C y y ∈ wG) (h4 : .initialized C ∈ wG) (h5 : .code y b nL r ∈ wG) (hd : y.cls = C ∧ y.cls ≠ "java/lang/invoke/MethodHandle" ∧ y.cls ≠ "java/lang/invoke/VarHandle" ∧ (parseMethodDescriptor y.desc).map (fun d => d.parameters.length) = some k) (hR : (yRm d).frames + 1 ≤ R.frames ∧ 8 + (nL + 11) + (yRm d).locals ≤ R.locals) : CallW R s args own C index y b nL r (.code y b nL r :: wG) (yRm d) 0 0 k :=
  cwV k hts (gApp (gL1 h1 (gL1 h2 (gL1 h3 (gL1 h4 gL0)))) (gI h5)) rfl rfl rfl hd hR
theorem y_cwS (k : Nat) (hts : ∀ w ∈ wG, w.before args s = true) (h1 : .methodLink own index y ∈ wG) (h2 : .static y ∈ wG) (h4 : .initialized own ∈ wG) (h5 : .code y b nL r ∈ wG) (hd : y.cls = own ∧ y.cls ≠ "java/lang/invoke/MethodHandle" ∧ y.cls ≠ "java/lang/invoke/VarHandle" ∧ (parseMethodDescriptor y.desc).map (fun d => d.parameters.length) = some k) (hR : (yRm d).frames + 1 ≤ R.frames ∧ 8 + (nL + 11) + (yRm d).locals ≤ R.locals) : CallB R s args own index y b nL r (.code y b nL r :: wG) (yRm d) 0 0 k ∧ (Cond.static y).before args s = true :=
  cwS k hts (gApp (gL1 h1 (gL1 h2 (gL1 h4 gL0))) (gI h5)) rfl rfl rfl hd hR
theorem y_cwF (k : Nat) (hts : ∀ w ∈ wG, w.before args s = true) (h1 : .methodLink own index y ∈ wG) (h2 : .static y ∈ wG) (h4 : .initialized y.cls ∈ wG) (h5 : .code y b nL r ∈ wG) (hd : y.cls ≠ "java/lang/invoke/MethodHandle" ∧ y.cls ≠ "java/lang/invoke/VarHandle" ∧ (parseMethodDescriptor y.desc).map (fun d => d.parameters.length) = some k) (hR : (yRm d).frames + 1 ≤ R.frames ∧ 8 + (nL + 11) + (yRm d).locals ≤ R.locals) : CallB R s args own index y b nL r (.code y b nL r :: wG) (yRm d) 0 0 k ∧ (Cond.static y).before args s = true :=
  ⟨callB_of k hts (gI h5) rfl rfl rfl (hts _ h4) (hts _ h1) hd hR, hts _ h2⟩
theorem y_cwSN (k : Nat) (hts : ∀ w ∈ wG, w.before args s = true) (hn : va_Nw (.methodLinkNest own index y host) s) (h2 : .static y ∈ wG) (h4 : .initialized y.cls ∈ wG) (h5 : .code y b nL r ∈ wG) (hd : y.cls ≠ "java/lang/invoke/MethodHandle" ∧ y.cls ≠ "java/lang/invoke/VarHandle" ∧ (parseMethodDescriptor y.desc).map (fun d => d.parameters.length) = some k) (hR : (yRm d).frames + 1 ≤ R.frames ∧ 8 + (nL + 11) + (yRm d).locals ≤ R.locals) : va_CN R s args own index y host b nL r (.code y b nL r :: wG) (yRm d) 0 0 k ∧ (Cond.static y).before args s = true ∧ True :=
  ⟨va_cnB k hts (gI h5) rfl rfl rfl hn (hts _ h4) hd hR, hts _ h2, trivial⟩
theorem y_cwSU (k : Nat) (hts : ∀ w ∈ wG, w.before args s = true) (h1 : .methodLink own index y ∈ wG) (h2 : .sameMethod y.cls y.cls y.name y.desc ∈ wG) (h3 : .superclass own y.cls ∈ wG) (h4 : .instanceMethod y ∈ wG) (h6 : .initialized y.cls ∈ wG) (h5 : .code y b nL r ∈ wG) (hd : y.name ≠ "<init>" ∧ (parseMethodDescriptor y.desc).map (fun d => d.parameters.length) = some k) (hR : (yRm d).frames + 1 ≤ R.frames ∧ 8 + (nL + 11) + (yRm d).locals ≤ R.locals) : va_CS R s args own index y b nL r (.code y b nL r :: wG) (yRm d) 0 0 k :=
  va_cwSU k hts (gApp (gL1 h1 (gL1 h2 (gL1 h3 (gL1 h4 (gL1 h6 gL0))))) (gI h5)) rfl rfl rfl hd hR
theorem y_cwU (k : Nat) (hts : ∀ w ∈ wG, w.before args s = true) (h1 : .methodLink own index x0 ∈ wG) (h2 : .sameMethod x0.cls owner x0.name x0.desc ∈ wG) (h3 : .selects C x0 y ∈ wG) (h4 : .instanceMethod y ∈ wG) (h6 : .initialized y.cls ∈ wG) (h5 : .code y b nL r ∈ wG) (hyx : y = ⟨owner, x0.name, x0.desc⟩) (hd : owner ≠ "java/lang/invoke/MethodHandle" ∧ owner ≠ "java/lang/invoke/VarHandle" ∧ (parseMethodDescriptor x0.desc).map (fun d => d.parameters.length) = some k) (hR : (yRm d).frames + 1 ≤ R.frames ∧ 8 + (nL + 11) + (yRm d).locals ≤ R.locals) : va_CU R s args own C owner index x0 y b nL r (.code y b nL r :: wG) (yRm d) 0 0 k :=
  va_cwU k hts (gApp (gL1 h1 (gL1 h2 (gL1 h3 (gL1 h4 (gL1 h6 gL0))))) (gI h5)) rfl rfl rfl hyx hd hR
theorem y_cwO (k : Nat) (hts : ∀ w ∈ wG, w.before args s = true) (h1 : .methodLink own index x0 ∈ wG) (h2 : .sameMethod x0.cls owner x0.name x0.desc ∈ wG) (h7 : .instanceMethod ⟨owner, x0.name, x0.desc⟩ ∈ wG) (h3 : .selects C x0 y ∈ wG) (h4 : .instanceMethod y ∈ wG) (h6 : .initialized y.cls ∈ wG) (h5 : .code y b nL r ∈ wG) {b0 : ByteArray} {m0 : Nat} {r0 : Option FieldType} (h0 : Cond.code ⟨owner, x0.name, x0.desc⟩ b0 m0 r0 ∈ wG) (hd : owner ≠ "java/lang/invoke/MethodHandle" ∧ owner ≠ "java/lang/invoke/VarHandle" ∧ (parseMethodDescriptor x0.desc).map (fun d => d.parameters.length) = some k) (hR : (yRm d).frames + 1 ≤ R.frames ∧ 8 + (nL + 11) + (yRm d).locals ≤ R.locals) : va_CU R s args own C owner index x0 y b nL r (.code y b nL r :: wG) (yRm d) 0 0 k :=
  va_cwO k hts (gApp (gL1 h1 (gL1 h2 (gL1 h7 (gL1 h3 (gL1 h4 (gL1 h6 gL0)))))) (gI h5)) rfl rfl rfl h0 hd hR
end YCW
end
section
/-! ===== the layout of the two worlds: by program out of the classes' fields ===== -/
def rfv (w : wT) (v : Int32) : Value := if v = 0 then .null else .ref (w.1 (v.toNatClampNeg - 1))
theorem nI_sne0 {q : Nat} (hq : q < 1000) : ¬ nI (q + 1) = 0 := nI_ne0 (Nat.succ_pos q) (by omega)
theorem rfv_nI {w : wT} {q : Nat} (hq : q < 1000) : rfv w (nI (q + 1)) = .ref (w.1 q) := by
  unfold rfv
  rw [if_neg (nI_sne0 hq), nI_clamp (by omega)]
  rfl
def xcf : cT := fun w o r => if o < 1 then .inr (11, [.ref (w.1 1), .ref (w.1 2), .int (r 2), .ref (w.1 11), .ref (w.1 18), .int (r 5), .ref (w.1 38), .ref (w.1 40), .ref (w.1 49), .ref (w.1 50), .ref (w.1 51), .ref (w.1 52), .ref (w.1 53), .ref (w.1 54)]) else if o < 3 then .inr (3, [.int (r 0), .int (r 1), .int (r 2), .int (r 3), .int (r 4), .int (r 5), .ref (w.1 (3 + 4 * (o - 1))), .ref (w.1 (4 + 4 * (o - 1))), .ref (w.1 (5 + 4 * (o - 1))), .ref (w.1 (6 + 4 * (o - 1)))]) else if o < 11 then .inl (w.2.1 1, 5, .inl r) else if o < 12 then .inl (w.2.1 4, 6, .inr (.inr (.inr (.inr (fun j => some (w.1 (12 + j))))))) else if o < 13 then .inr (10, []) else if o < 14 then .inr (7, []) else if o < 15 then .inr (5, []) else if o < 16 then .inr (8, []) else if o < 17 then .inr (0, []) else if o < 18 then .inr (2, []) else if o < 19 then .inl (w.2.1 3, 6, .inr (.inr (.inr (.inr (fun j => some (w.1 (19 + j))))))) else if o < 25 then .inr (9, [.ref (w.1 (25 + 1 * (o - 19))), .ref (w.1 (31 + 1 * (o - 19))), .ref (w.1 37), .int (r 3), .int (r 4)]) else if o < 31 then .inl (w.2.1 1, 160, .inl r) else if o < 37 then .inl (w.2.1 1, 4, .inl r) else if o < 38 then .inl (w.2.1 1, 160, .inl r) else if o < 39 then .inr (4, [.ref (w.1 39), .int (r 1), .int (r 2), .int (r 3), .int (r 4), .int (r 5), rfv w (r 6)]) else if o < 40 then .inl (w.2.1 0, 160, .inl r) else if o < 41 then .inl (w.2.1 2, 4, .inr (.inr (.inr (.inr (fun j => some (w.1 (41 + j))))))) else if o < 45 then .inr (6, [.ref (w.1 (45 + 1 * (o - 41))), .int (r 1), .int (r 2)]) else if o < 49 then .inl (w.2.1 1, 40, .inl r) else if o < 50 then .inr (1, [.ref (w.1 1), rfv w (r 1), rfv w (r 2), .int (r 3), .int (r 4), .int (r 5), .int (r 6), .int (r 7)]) else if o < 51 then .inl (w.2.1 1, 41, .inl r) else if o < 52 then .inl (w.2.1 1, 30, .inl r) else if o < 53 then .inl (w.2.1 1, 30, .inl r) else if o < 54 then .inl (w.2.1 1, 25, .inl r) else .inl (w.2.1 1, 30, .inl r)
theorem xc_X11 {w : wT} {o : Nat} {r : Nat → Int32} (h1 : 0 ≤ o) (h2 : o < 1) : xcf w o r = .inr (11, [.ref (w.1 1), .ref (w.1 2), .int (r 2), .ref (w.1 11), .ref (w.1 18), .int (r 5), .ref (w.1 38), .ref (w.1 40), .ref (w.1 49), .ref (w.1 50), .ref (w.1 51), .ref (w.1 52), .ref (w.1 53), .ref (w.1 54)]) := by
  unfold xcf
  rw [if_pos h2]
theorem xc_X3 {w : wT} {o : Nat} {r : Nat → Int32} (h1 : 1 ≤ o) (h2 : o < 3) : xcf w o r = .inr (3, [.int (r 0), .int (r 1), .int (r 2), .int (r 3), .int (r 4), .int (r 5), .ref (w.1 (3 + 4 * (o - 1))), .ref (w.1 (4 + 4 * (o - 1))), .ref (w.1 (5 + 4 * (o - 1))), .ref (w.1 (6 + 4 * (o - 1)))]) := by
  unfold xcf
  rw [if_neg (show ¬ o < 1 by omega), if_pos h2]
theorem xc_harr {w : wT} {o : Nat} {r : Nat → Int32} (h1 : 3 ≤ o) (h2 : o < 11) : xcf w o r = .inl (w.2.1 1, 5, .inl r) := by
  unfold xcf
  rw [if_neg (show ¬ o < 1 by omega), if_neg (show ¬ o < 3 by omega), if_pos h2]
theorem xc_rkinds {w : wT} {o : Nat} {r : Nat → Int32} (h1 : 11 ≤ o) (h2 : o < 12) : xcf w o r = .inl (w.2.1 4, 6, .inr (.inr (.inr (.inr (fun j => some (w.1 (12 + j))))))) := by
  unfold xcf
  rw [if_neg (show ¬ o < 1 by omega), if_neg (show ¬ o < 3 by omega), if_neg (show ¬ o < 11 by omega), if_pos h2]
theorem xc_t0 {w : wT} {o : Nat} {r : Nat → Int32} (h1 : 12 ≤ o) (h2 : o < 13) : xcf w o r = .inr (10, []) := by
  unfold xcf
  rw [if_neg (show ¬ o < 1 by omega), if_neg (show ¬ o < 3 by omega), if_neg (show ¬ o < 11 by omega), if_neg (show ¬ o < 12 by omega), if_pos h2]
theorem xc_t1 {w : wT} {o : Nat} {r : Nat → Int32} (h1 : 13 ≤ o) (h2 : o < 14) : xcf w o r = .inr (7, []) := by
  unfold xcf
  rw [if_neg (show ¬ o < 1 by omega), if_neg (show ¬ o < 3 by omega), if_neg (show ¬ o < 11 by omega), if_neg (show ¬ o < 12 by omega), if_neg (show ¬ o < 13 by omega), if_pos h2]
theorem xc_t2 {w : wT} {o : Nat} {r : Nat → Int32} (h1 : 14 ≤ o) (h2 : o < 15) : xcf w o r = .inr (5, []) := by
  unfold xcf
  rw [if_neg (show ¬ o < 1 by omega), if_neg (show ¬ o < 3 by omega), if_neg (show ¬ o < 11 by omega), if_neg (show ¬ o < 12 by omega), if_neg (show ¬ o < 13 by omega), if_neg (show ¬ o < 14 by omega), if_pos h2]
theorem xc_t3 {w : wT} {o : Nat} {r : Nat → Int32} (h1 : 15 ≤ o) (h2 : o < 16) : xcf w o r = .inr (8, []) := by
  unfold xcf
  rw [if_neg (show ¬ o < 1 by omega), if_neg (show ¬ o < 3 by omega), if_neg (show ¬ o < 11 by omega), if_neg (show ¬ o < 12 by omega), if_neg (show ¬ o < 13 by omega), if_neg (show ¬ o < 14 by omega), if_neg (show ¬ o < 15 by omega), if_pos h2]
theorem xc_t4 {w : wT} {o : Nat} {r : Nat → Int32} (h1 : 16 ≤ o) (h2 : o < 17) : xcf w o r = .inr (0, []) := by
  unfold xcf
  rw [if_neg (show ¬ o < 1 by omega), if_neg (show ¬ o < 3 by omega), if_neg (show ¬ o < 11 by omega), if_neg (show ¬ o < 12 by omega), if_neg (show ¬ o < 13 by omega), if_neg (show ¬ o < 14 by omega), if_neg (show ¬ o < 15 by omega), if_neg (show ¬ o < 16 by omega), if_pos h2]
theorem xc_t5 {w : wT} {o : Nat} {r : Nat → Int32} (h1 : 17 ≤ o) (h2 : o < 18) : xcf w o r = .inr (2, []) := by
  unfold xcf
  rw [if_neg (show ¬ o < 1 by omega), if_neg (show ¬ o < 3 by omega), if_neg (show ¬ o < 11 by omega), if_neg (show ¬ o < 12 by omega), if_neg (show ¬ o < 13 by omega), if_neg (show ¬ o < 14 by omega), if_neg (show ¬ o < 15 by omega), if_neg (show ¬ o < 16 by omega), if_neg (show ¬ o < 17 by omega), if_pos h2]
theorem xc_rtexts {w : wT} {o : Nat} {r : Nat → Int32} (h1 : 18 ≤ o) (h2 : o < 19) : xcf w o r = .inl (w.2.1 3, 6, .inr (.inr (.inr (.inr (fun j => some (w.1 (19 + j))))))) := by
  unfold xcf
  rw [if_neg (show ¬ o < 1 by omega), if_neg (show ¬ o < 3 by omega), if_neg (show ¬ o < 11 by omega), if_neg (show ¬ o < 12 by omega), if_neg (show ¬ o < 13 by omega), if_neg (show ¬ o < 14 by omega), if_neg (show ¬ o < 15 by omega), if_neg (show ¬ o < 16 by omega), if_neg (show ¬ o < 17 by omega), if_neg (show ¬ o < 18 by omega), if_pos h2]
theorem xc_X9 {w : wT} {o : Nat} {r : Nat → Int32} (h1 : 19 ≤ o) (h2 : o < 25) : xcf w o r = .inr (9, [.ref (w.1 (25 + 1 * (o - 19))), .ref (w.1 (31 + 1 * (o - 19))), .ref (w.1 37), .int (r 3), .int (r 4)]) := by
  unfold xcf
  rw [if_neg (show ¬ o < 1 by omega), if_neg (show ¬ o < 3 by omega), if_neg (show ¬ o < 11 by omega), if_neg (show ¬ o < 12 by omega), if_neg (show ¬ o < 13 by omega), if_neg (show ¬ o < 14 by omega), if_neg (show ¬ o < 15 by omega), if_neg (show ¬ o < 16 by omega), if_neg (show ¬ o < 17 by omega), if_neg (show ¬ o < 18 by omega), if_neg (show ¬ o < 19 by omega), if_pos h2]
theorem xc_codes {w : wT} {o : Nat} {r : Nat → Int32} (h1 : 25 ≤ o) (h2 : o < 31) : xcf w o r = .inl (w.2.1 1, 160, .inl r) := by
  unfold xcf
  rw [if_neg (show ¬ o < 1 by omega), if_neg (show ¬ o < 3 by omega), if_neg (show ¬ o < 11 by omega), if_neg (show ¬ o < 12 by omega), if_neg (show ¬ o < 13 by omega), if_neg (show ¬ o < 14 by omega), if_neg (show ¬ o < 15 by omega), if_neg (show ¬ o < 16 by omega), if_neg (show ¬ o < 17 by omega), if_neg (show ¬ o < 18 by omega), if_neg (show ¬ o < 19 by omega), if_neg (show ¬ o < 25 by omega), if_pos h2]
theorem xc_starts {w : wT} {o : Nat} {r : Nat → Int32} (h1 : 31 ≤ o) (h2 : o < 37) : xcf w o r = .inl (w.2.1 1, 4, .inl r) := by
  unfold xcf
  rw [if_neg (show ¬ o < 1 by omega), if_neg (show ¬ o < 3 by omega), if_neg (show ¬ o < 11 by omega), if_neg (show ¬ o < 12 by omega), if_neg (show ¬ o < 13 by omega), if_neg (show ¬ o < 14 by omega), if_neg (show ¬ o < 15 by omega), if_neg (show ¬ o < 16 by omega), if_neg (show ¬ o < 17 by omega), if_neg (show ¬ o < 18 by omega), if_neg (show ¬ o < 19 by omega), if_neg (show ¬ o < 25 by omega), if_neg (show ¬ o < 31 by omega), if_pos h2]
theorem xc_stack {w : wT} {o : Nat} {r : Nat → Int32} (h1 : 37 ≤ o) (h2 : o < 38) : xcf w o r = .inl (w.2.1 1, 160, .inl r) := by
  unfold xcf
  rw [if_neg (show ¬ o < 1 by omega), if_neg (show ¬ o < 3 by omega), if_neg (show ¬ o < 11 by omega), if_neg (show ¬ o < 12 by omega), if_neg (show ¬ o < 13 by omega), if_neg (show ¬ o < 14 by omega), if_neg (show ¬ o < 15 by omega), if_neg (show ¬ o < 16 by omega), if_neg (show ¬ o < 17 by omega), if_neg (show ¬ o < 18 by omega), if_neg (show ¬ o < 19 by omega), if_neg (show ¬ o < 25 by omega), if_neg (show ¬ o < 31 by omega), if_neg (show ¬ o < 37 by omega), if_pos h2]
theorem xc_X4 {w : wT} {o : Nat} {r : Nat → Int32} (h1 : 38 ≤ o) (h2 : o < 39) : xcf w o r = .inr (4, [.ref (w.1 39), .int (r 1), .int (r 2), .int (r 3), .int (r 4), .int (r 5), rfv w (r 6)]) := by
  unfold xcf
  rw [if_neg (show ¬ o < 1 by omega), if_neg (show ¬ o < 3 by omega), if_neg (show ¬ o < 11 by omega), if_neg (show ¬ o < 12 by omega), if_neg (show ¬ o < 13 by omega), if_neg (show ¬ o < 14 by omega), if_neg (show ¬ o < 15 by omega), if_neg (show ¬ o < 16 by omega), if_neg (show ¬ o < 17 by omega), if_neg (show ¬ o < 18 by omega), if_neg (show ¬ o < 19 by omega), if_neg (show ¬ o < 25 by omega), if_neg (show ¬ o < 31 by omega), if_neg (show ¬ o < 37 by omega), if_neg (show ¬ o < 38 by omega), if_pos h2]
theorem xc_bytes {w : wT} {o : Nat} {r : Nat → Int32} (h1 : 39 ≤ o) (h2 : o < 40) : xcf w o r = .inl (w.2.1 0, 160, .inl r) := by
  unfold xcf
  rw [if_neg (show ¬ o < 1 by omega), if_neg (show ¬ o < 3 by omega), if_neg (show ¬ o < 11 by omega), if_neg (show ¬ o < 12 by omega), if_neg (show ¬ o < 13 by omega), if_neg (show ¬ o < 14 by omega), if_neg (show ¬ o < 15 by omega), if_neg (show ¬ o < 16 by omega), if_neg (show ¬ o < 17 by omega), if_neg (show ¬ o < 18 by omega), if_neg (show ¬ o < 19 by omega), if_neg (show ¬ o < 25 by omega), if_neg (show ¬ o < 31 by omega), if_neg (show ¬ o < 37 by omega), if_neg (show ¬ o < 38 by omega), if_neg (show ¬ o < 39 by omega), if_pos h2]
theorem xc_rsheets {w : wT} {o : Nat} {r : Nat → Int32} (h1 : 40 ≤ o) (h2 : o < 41) : xcf w o r = .inl (w.2.1 2, 4, .inr (.inr (.inr (.inr (fun j => some (w.1 (41 + j))))))) := by
  unfold xcf
  rw [if_neg (show ¬ o < 1 by omega), if_neg (show ¬ o < 3 by omega), if_neg (show ¬ o < 11 by omega), if_neg (show ¬ o < 12 by omega), if_neg (show ¬ o < 13 by omega), if_neg (show ¬ o < 14 by omega), if_neg (show ¬ o < 15 by omega), if_neg (show ¬ o < 16 by omega), if_neg (show ¬ o < 17 by omega), if_neg (show ¬ o < 18 by omega), if_neg (show ¬ o < 19 by omega), if_neg (show ¬ o < 25 by omega), if_neg (show ¬ o < 31 by omega), if_neg (show ¬ o < 37 by omega), if_neg (show ¬ o < 38 by omega), if_neg (show ¬ o < 39 by omega), if_neg (show ¬ o < 40 by omega), if_pos h2]
theorem xc_X6 {w : wT} {o : Nat} {r : Nat → Int32} (h1 : 41 ≤ o) (h2 : o < 45) : xcf w o r = .inr (6, [.ref (w.1 (45 + 1 * (o - 41))), .int (r 1), .int (r 2)]) := by
  unfold xcf
  rw [if_neg (show ¬ o < 1 by omega), if_neg (show ¬ o < 3 by omega), if_neg (show ¬ o < 11 by omega), if_neg (show ¬ o < 12 by omega), if_neg (show ¬ o < 13 by omega), if_neg (show ¬ o < 14 by omega), if_neg (show ¬ o < 15 by omega), if_neg (show ¬ o < 16 by omega), if_neg (show ¬ o < 17 by omega), if_neg (show ¬ o < 18 by omega), if_neg (show ¬ o < 19 by omega), if_neg (show ¬ o < 25 by omega), if_neg (show ¬ o < 31 by omega), if_neg (show ¬ o < 37 by omega), if_neg (show ¬ o < 38 by omega), if_neg (show ¬ o < 39 by omega), if_neg (show ¬ o < 40 by omega), if_neg (show ¬ o < 41 by omega), if_pos h2]
theorem xc_numbers {w : wT} {o : Nat} {r : Nat → Int32} (h1 : 45 ≤ o) (h2 : o < 49) : xcf w o r = .inl (w.2.1 1, 40, .inl r) := by
  unfold xcf
  rw [if_neg (show ¬ o < 1 by omega), if_neg (show ¬ o < 3 by omega), if_neg (show ¬ o < 11 by omega), if_neg (show ¬ o < 12 by omega), if_neg (show ¬ o < 13 by omega), if_neg (show ¬ o < 14 by omega), if_neg (show ¬ o < 15 by omega), if_neg (show ¬ o < 16 by omega), if_neg (show ¬ o < 17 by omega), if_neg (show ¬ o < 18 by omega), if_neg (show ¬ o < 19 by omega), if_neg (show ¬ o < 25 by omega), if_neg (show ¬ o < 31 by omega), if_neg (show ¬ o < 37 by omega), if_neg (show ¬ o < 38 by omega), if_neg (show ¬ o < 39 by omega), if_neg (show ¬ o < 40 by omega), if_neg (show ¬ o < 41 by omega), if_neg (show ¬ o < 45 by omega), if_pos h2]
theorem xc_X1 {w : wT} {o : Nat} {r : Nat → Int32} (h1 : 49 ≤ o) (h2 : o < 50) : xcf w o r = .inr (1, [.ref (w.1 1), rfv w (r 1), rfv w (r 2), .int (r 3), .int (r 4), .int (r 5), .int (r 6), .int (r 7)]) := by
  unfold xcf
  rw [if_neg (show ¬ o < 1 by omega), if_neg (show ¬ o < 3 by omega), if_neg (show ¬ o < 11 by omega), if_neg (show ¬ o < 12 by omega), if_neg (show ¬ o < 13 by omega), if_neg (show ¬ o < 14 by omega), if_neg (show ¬ o < 15 by omega), if_neg (show ¬ o < 16 by omega), if_neg (show ¬ o < 17 by omega), if_neg (show ¬ o < 18 by omega), if_neg (show ¬ o < 19 by omega), if_neg (show ¬ o < 25 by omega), if_neg (show ¬ o < 31 by omega), if_neg (show ¬ o < 37 by omega), if_neg (show ¬ o < 38 by omega), if_neg (show ¬ o < 39 by omega), if_neg (show ¬ o < 40 by omega), if_neg (show ¬ o < 41 by omega), if_neg (show ¬ o < 45 by omega), if_neg (show ¬ o < 49 by omega), if_pos h2]
theorem xc_path {w : wT} {o : Nat} {r : Nat → Int32} (h1 : 50 ≤ o) (h2 : o < 51) : xcf w o r = .inl (w.2.1 1, 41, .inl r) := by
  unfold xcf
  rw [if_neg (show ¬ o < 1 by omega), if_neg (show ¬ o < 3 by omega), if_neg (show ¬ o < 11 by omega), if_neg (show ¬ o < 12 by omega), if_neg (show ¬ o < 13 by omega), if_neg (show ¬ o < 14 by omega), if_neg (show ¬ o < 15 by omega), if_neg (show ¬ o < 16 by omega), if_neg (show ¬ o < 17 by omega), if_neg (show ¬ o < 18 by omega), if_neg (show ¬ o < 19 by omega), if_neg (show ¬ o < 25 by omega), if_neg (show ¬ o < 31 by omega), if_neg (show ¬ o < 37 by omega), if_neg (show ¬ o < 38 by omega), if_neg (show ¬ o < 39 by omega), if_neg (show ¬ o < 40 by omega), if_neg (show ¬ o < 41 by omega), if_neg (show ¬ o < 45 by omega), if_neg (show ¬ o < 49 by omega), if_neg (show ¬ o < 50 by omega), if_pos h2]
theorem xc_far {w : wT} {o : Nat} {r : Nat → Int32} (h1 : 51 ≤ o) (h2 : o < 52) : xcf w o r = .inl (w.2.1 1, 30, .inl r) := by
  unfold xcf
  rw [if_neg (show ¬ o < 1 by omega), if_neg (show ¬ o < 3 by omega), if_neg (show ¬ o < 11 by omega), if_neg (show ¬ o < 12 by omega), if_neg (show ¬ o < 13 by omega), if_neg (show ¬ o < 14 by omega), if_neg (show ¬ o < 15 by omega), if_neg (show ¬ o < 16 by omega), if_neg (show ¬ o < 17 by omega), if_neg (show ¬ o < 18 by omega), if_neg (show ¬ o < 19 by omega), if_neg (show ¬ o < 25 by omega), if_neg (show ¬ o < 31 by omega), if_neg (show ¬ o < 37 by omega), if_neg (show ¬ o < 38 by omega), if_neg (show ¬ o < 39 by omega), if_neg (show ¬ o < 40 by omega), if_neg (show ¬ o < 41 by omega), if_neg (show ¬ o < 45 by omega), if_neg (show ¬ o < 49 by omega), if_neg (show ¬ o < 50 by omega), if_neg (show ¬ o < 51 by omega), if_pos h2]
theorem xc_queue {w : wT} {o : Nat} {r : Nat → Int32} (h1 : 52 ≤ o) (h2 : o < 53) : xcf w o r = .inl (w.2.1 1, 30, .inl r) := by
  unfold xcf
  rw [if_neg (show ¬ o < 1 by omega), if_neg (show ¬ o < 3 by omega), if_neg (show ¬ o < 11 by omega), if_neg (show ¬ o < 12 by omega), if_neg (show ¬ o < 13 by omega), if_neg (show ¬ o < 14 by omega), if_neg (show ¬ o < 15 by omega), if_neg (show ¬ o < 16 by omega), if_neg (show ¬ o < 17 by omega), if_neg (show ¬ o < 18 by omega), if_neg (show ¬ o < 19 by omega), if_neg (show ¬ o < 25 by omega), if_neg (show ¬ o < 31 by omega), if_neg (show ¬ o < 37 by omega), if_neg (show ¬ o < 38 by omega), if_neg (show ¬ o < 39 by omega), if_neg (show ¬ o < 40 by omega), if_neg (show ¬ o < 41 by omega), if_neg (show ¬ o < 45 by omega), if_neg (show ¬ o < 49 by omega), if_neg (show ¬ o < 50 by omega), if_neg (show ¬ o < 51 by omega), if_neg (show ¬ o < 52 by omega), if_pos h2]
theorem xc_ends {w : wT} {o : Nat} {r : Nat → Int32} (h1 : 53 ≤ o) (h2 : o < 54) : xcf w o r = .inl (w.2.1 1, 25, .inl r) := by
  unfold xcf
  rw [if_neg (show ¬ o < 1 by omega), if_neg (show ¬ o < 3 by omega), if_neg (show ¬ o < 11 by omega), if_neg (show ¬ o < 12 by omega), if_neg (show ¬ o < 13 by omega), if_neg (show ¬ o < 14 by omega), if_neg (show ¬ o < 15 by omega), if_neg (show ¬ o < 16 by omega), if_neg (show ¬ o < 17 by omega), if_neg (show ¬ o < 18 by omega), if_neg (show ¬ o < 19 by omega), if_neg (show ¬ o < 25 by omega), if_neg (show ¬ o < 31 by omega), if_neg (show ¬ o < 37 by omega), if_neg (show ¬ o < 38 by omega), if_neg (show ¬ o < 39 by omega), if_neg (show ¬ o < 40 by omega), if_neg (show ¬ o < 41 by omega), if_neg (show ¬ o < 45 by omega), if_neg (show ¬ o < 49 by omega), if_neg (show ¬ o < 50 by omega), if_neg (show ¬ o < 51 by omega), if_neg (show ¬ o < 52 by omega), if_neg (show ¬ o < 53 by omega), if_pos h2]
theorem xc_tally {w : wT} {o : Nat} {r : Nat → Int32} (h1 : 54 ≤ o) (h2 : o < 55) : xcf w o r = .inl (w.2.1 1, 30, .inl r) := by
  unfold xcf
  rw [if_neg (show ¬ o < 1 by omega), if_neg (show ¬ o < 3 by omega), if_neg (show ¬ o < 11 by omega), if_neg (show ¬ o < 12 by omega), if_neg (show ¬ o < 13 by omega), if_neg (show ¬ o < 14 by omega), if_neg (show ¬ o < 15 by omega), if_neg (show ¬ o < 16 by omega), if_neg (show ¬ o < 17 by omega), if_neg (show ¬ o < 18 by omega), if_neg (show ¬ o < 19 by omega), if_neg (show ¬ o < 25 by omega), if_neg (show ¬ o < 31 by omega), if_neg (show ¬ o < 37 by omega), if_neg (show ¬ o < 38 by omega), if_neg (show ¬ o < 39 by omega), if_neg (show ¬ o < 40 by omega), if_neg (show ¬ o < 41 by omega), if_neg (show ¬ o < 45 by omega), if_neg (show ¬ o < 49 by omega), if_neg (show ¬ o < 50 by omega), if_neg (show ¬ o < 51 by omega), if_neg (show ¬ o < 52 by omega), if_neg (show ¬ o < 53 by omega), if_neg (show ¬ o < 54 by omega)]
def mcf : cT := fun w o r => if o < 1 then .inr (12, [.ref (w.1 1), .int (r 1), .int (r 2), .ref (w.1 2), .ref (w.1 3), .ref (w.1 4), .ref (w.1 5), .ref (w.1 6), .int (r 8), .ref (w.1 7), .ref (w.1 8), .int (r 11), .int (r 12), .int (r 13), .int (r 14), .int (r 15), .ref (w.1 9), .ref (w.1 10), .ref (w.1 11), .ref (w.1 12), .ref (w.1 13), .int (r 21), .int (r 22), .int (r 23), .int (r 24), .ref (w.1 14), .ref (w.1 15), .int (r 27), .int (r 28), .int (r 29), .ref (w.1 16), .ref (w.1 17), .int (r 32), .int (r 33), .ref (w.1 18), .ref (w.1 19)]) else if o < 2 then .inl (w.2.1 1, 3, .inl r) else if o < 3 then .inl (w.2.1 1, 5, .inl r) else if o < 4 then .inl (w.2.1 1, 5, .inl r) else if o < 5 then .inl (w.2.1 1, 5, .inl r) else if o < 6 then .inl (w.2.1 1, 5, .inl r) else if o < 7 then .inl (w.2.1 1, 160, .inl r) else if o < 8 then .inl (w.2.1 1, 1200, .inl r) else if o < 9 then .inl (w.2.1 1, 24, .inl r) else if o < 10 then .inl (w.2.1 1, 14, .inl r) else if o < 11 then .inl (w.2.1 1, 4, .inl r) else if o < 12 then .inl (w.2.1 1, 4, .inl r) else if o < 13 then .inl (w.2.1 1, 160, .inl r) else if o < 14 then .inl (w.2.1 1, 29, .inl r) else if o < 15 then .inl (w.2.1 1, 96, .inl r) else if o < 16 then .inl (w.2.1 1, 200, .inl r) else if o < 17 then .inl (w.2.1 1, 200, .inl r) else if o < 18 then .inl (w.2.1 1, 6, .inl r) else if o < 19 then .inl (w.2.1 1, 30, .inl r) else .inl (w.2.1 1, 5, .inl r)
theorem mc_X12 {w : wT} {o : Nat} {r : Nat → Int32} (h1 : 0 ≤ o) (h2 : o < 1) : mcf w o r = .inr (12, [.ref (w.1 1), .int (r 1), .int (r 2), .ref (w.1 2), .ref (w.1 3), .ref (w.1 4), .ref (w.1 5), .ref (w.1 6), .int (r 8), .ref (w.1 7), .ref (w.1 8), .int (r 11), .int (r 12), .int (r 13), .int (r 14), .int (r 15), .ref (w.1 9), .ref (w.1 10), .ref (w.1 11), .ref (w.1 12), .ref (w.1 13), .int (r 21), .int (r 22), .int (r 23), .int (r 24), .ref (w.1 14), .ref (w.1 15), .int (r 27), .int (r 28), .int (r 29), .ref (w.1 16), .ref (w.1 17), .int (r 32), .int (r 33), .ref (w.1 18), .ref (w.1 19)]) := by
  unfold mcf
  rw [if_pos h2]
theorem mc_m_sets {w : wT} {o : Nat} {r : Nat → Int32} (h1 : 1 ≤ o) (h2 : o < 2) : mcf w o r = .inl (w.2.1 1, 3, .inl r) := by
  unfold mcf
  rw [if_neg (show ¬ o < 1 by omega), if_pos h2]
theorem mc_m_kind {w : wT} {o : Nat} {r : Nat → Int32} (h1 : 2 ≤ o) (h2 : o < 3) : mcf w o r = .inl (w.2.1 1, 5, .inl r) := by
  unfold mcf
  rw [if_neg (show ¬ o < 1 by omega), if_neg (show ¬ o < 2 by omega), if_pos h2]
theorem mc_m_moreOf {w : wT} {o : Nat} {r : Nat → Int32} (h1 : 3 ≤ o) (h2 : o < 4) : mcf w o r = .inl (w.2.1 1, 5, .inl r) := by
  unfold mcf
  rw [if_neg (show ¬ o < 1 by omega), if_neg (show ¬ o < 2 by omega), if_neg (show ¬ o < 3 by omega), if_pos h2]
theorem mc_m_cellOf {w : wT} {o : Nat} {r : Nat → Int32} (h1 : 4 ≤ o) (h2 : o < 5) : mcf w o r = .inl (w.2.1 1, 5, .inl r) := by
  unfold mcf
  rw [if_neg (show ¬ o < 1 by omega), if_neg (show ¬ o < 2 by omega), if_neg (show ¬ o < 3 by omega), if_neg (show ¬ o < 4 by omega), if_pos h2]
theorem mc_m_wayOf {w : wT} {o : Nat} {r : Nat → Int32} (h1 : 5 ≤ o) (h2 : o < 6) : mcf w o r = .inl (w.2.1 1, 5, .inl r) := by
  unfold mcf
  rw [if_neg (show ¬ o < 1 by omega), if_neg (show ¬ o < 2 by omega), if_neg (show ¬ o < 3 by omega), if_neg (show ¬ o < 4 by omega), if_neg (show ¬ o < 5 by omega), if_pos h2]
theorem mc_m_tape {w : wT} {o : Nat} {r : Nat → Int32} (h1 : 6 ≤ o) (h2 : o < 7) : mcf w o r = .inl (w.2.1 1, 160, .inl r) := by
  unfold mcf
  rw [if_neg (show ¬ o < 1 by omega), if_neg (show ¬ o < 2 by omega), if_neg (show ¬ o < 3 by omega), if_neg (show ¬ o < 4 by omega), if_neg (show ¬ o < 5 by omega), if_neg (show ¬ o < 6 by omega), if_pos h2]
theorem mc_m_codes {w : wT} {o : Nat} {r : Nat → Int32} (h1 : 7 ≤ o) (h2 : o < 8) : mcf w o r = .inl (w.2.1 1, 1200, .inl r) := by
  unfold mcf
  rw [if_neg (show ¬ o < 1 by omega), if_neg (show ¬ o < 2 by omega), if_neg (show ¬ o < 3 by omega), if_neg (show ¬ o < 4 by omega), if_neg (show ¬ o < 5 by omega), if_neg (show ¬ o < 6 by omega), if_neg (show ¬ o < 7 by omega), if_pos h2]
theorem mc_m_starts {w : wT} {o : Nat} {r : Nat → Int32} (h1 : 8 ≤ o) (h2 : o < 9) : mcf w o r = .inl (w.2.1 1, 24, .inl r) := by
  unfold mcf
  rw [if_neg (show ¬ o < 1 by omega), if_neg (show ¬ o < 2 by omega), if_neg (show ¬ o < 3 by omega), if_neg (show ¬ o < 4 by omega), if_neg (show ¬ o < 5 by omega), if_neg (show ¬ o < 6 by omega), if_neg (show ¬ o < 7 by omega), if_neg (show ¬ o < 8 by omega), if_pos h2]
theorem mc_m_imageRows {w : wT} {o : Nat} {r : Nat → Int32} (h1 : 9 ≤ o) (h2 : o < 10) : mcf w o r = .inl (w.2.1 1, 14, .inl r) := by
  unfold mcf
  rw [if_neg (show ¬ o < 1 by omega), if_neg (show ¬ o < 2 by omega), if_neg (show ¬ o < 3 by omega), if_neg (show ¬ o < 4 by omega), if_neg (show ¬ o < 5 by omega), if_neg (show ¬ o < 6 by omega), if_neg (show ¬ o < 7 by omega), if_neg (show ¬ o < 8 by omega), if_neg (show ¬ o < 9 by omega), if_pos h2]
theorem mc_m_sheetSort {w : wT} {o : Nat} {r : Nat → Int32} (h1 : 10 ≤ o) (h2 : o < 11) : mcf w o r = .inl (w.2.1 1, 4, .inl r) := by
  unfold mcf
  rw [if_neg (show ¬ o < 1 by omega), if_neg (show ¬ o < 2 by omega), if_neg (show ¬ o < 3 by omega), if_neg (show ¬ o < 4 by omega), if_neg (show ¬ o < 5 by omega), if_neg (show ¬ o < 6 by omega), if_neg (show ¬ o < 7 by omega), if_neg (show ¬ o < 8 by omega), if_neg (show ¬ o < 9 by omega), if_neg (show ¬ o < 10 by omega), if_pos h2]
theorem mc_m_sheetSize {w : wT} {o : Nat} {r : Nat → Int32} (h1 : 11 ≤ o) (h2 : o < 12) : mcf w o r = .inl (w.2.1 1, 4, .inl r) := by
  unfold mcf
  rw [if_neg (show ¬ o < 1 by omega), if_neg (show ¬ o < 2 by omega), if_neg (show ¬ o < 3 by omega), if_neg (show ¬ o < 4 by omega), if_neg (show ¬ o < 5 by omega), if_neg (show ¬ o < 6 by omega), if_neg (show ¬ o < 7 by omega), if_neg (show ¬ o < 8 by omega), if_neg (show ¬ o < 9 by omega), if_neg (show ¬ o < 10 by omega), if_neg (show ¬ o < 11 by omega), if_pos h2]
theorem mc_m_cells {w : wT} {o : Nat} {r : Nat → Int32} (h1 : 12 ≤ o) (h2 : o < 13) : mcf w o r = .inl (w.2.1 1, 160, .inl r) := by
  unfold mcf
  rw [if_neg (show ¬ o < 1 by omega), if_neg (show ¬ o < 2 by omega), if_neg (show ¬ o < 3 by omega), if_neg (show ¬ o < 4 by omega), if_neg (show ¬ o < 5 by omega), if_neg (show ¬ o < 6 by omega), if_neg (show ¬ o < 7 by omega), if_neg (show ¬ o < 8 by omega), if_neg (show ¬ o < 9 by omega), if_neg (show ¬ o < 10 by omega), if_neg (show ¬ o < 11 by omega), if_neg (show ¬ o < 12 by omega), if_pos h2]
theorem mc_m_law {w : wT} {o : Nat} {r : Nat → Int32} (h1 : 13 ≤ o) (h2 : o < 14) : mcf w o r = .inl (w.2.1 1, 29, .inl r) := by
  unfold mcf
  rw [if_neg (show ¬ o < 1 by omega), if_neg (show ¬ o < 2 by omega), if_neg (show ¬ o < 3 by omega), if_neg (show ¬ o < 4 by omega), if_neg (show ¬ o < 5 by omega), if_neg (show ¬ o < 6 by omega), if_neg (show ¬ o < 7 by omega), if_neg (show ¬ o < 8 by omega), if_neg (show ¬ o < 9 by omega), if_neg (show ¬ o < 10 by omega), if_neg (show ¬ o < 11 by omega), if_neg (show ¬ o < 12 by omega), if_neg (show ¬ o < 13 by omega), if_pos h2]
theorem mc_m_words {w : wT} {o : Nat} {r : Nat → Int32} (h1 : 14 ≤ o) (h2 : o < 15) : mcf w o r = .inl (w.2.1 1, 96, .inl r) := by
  unfold mcf
  rw [if_neg (show ¬ o < 1 by omega), if_neg (show ¬ o < 2 by omega), if_neg (show ¬ o < 3 by omega), if_neg (show ¬ o < 4 by omega), if_neg (show ¬ o < 5 by omega), if_neg (show ¬ o < 6 by omega), if_neg (show ¬ o < 7 by omega), if_neg (show ¬ o < 8 by omega), if_neg (show ¬ o < 9 by omega), if_neg (show ¬ o < 10 by omega), if_neg (show ¬ o < 11 by omega), if_neg (show ¬ o < 12 by omega), if_neg (show ¬ o < 13 by omega), if_neg (show ¬ o < 14 by omega), if_pos h2]
theorem mc_m_held {w : wT} {o : Nat} {r : Nat → Int32} (h1 : 15 ≤ o) (h2 : o < 16) : mcf w o r = .inl (w.2.1 1, 200, .inl r) := by
  unfold mcf
  rw [if_neg (show ¬ o < 1 by omega), if_neg (show ¬ o < 2 by omega), if_neg (show ¬ o < 3 by omega), if_neg (show ¬ o < 4 by omega), if_neg (show ¬ o < 5 by omega), if_neg (show ¬ o < 6 by omega), if_neg (show ¬ o < 7 by omega), if_neg (show ¬ o < 8 by omega), if_neg (show ¬ o < 9 by omega), if_neg (show ¬ o < 10 by omega), if_neg (show ¬ o < 11 by omega), if_neg (show ¬ o < 12 by omega), if_neg (show ¬ o < 13 by omega), if_neg (show ¬ o < 14 by omega), if_neg (show ¬ o < 15 by omega), if_pos h2]
theorem mc_m_stack {w : wT} {o : Nat} {r : Nat → Int32} (h1 : 16 ≤ o) (h2 : o < 17) : mcf w o r = .inl (w.2.1 1, 200, .inl r) := by
  unfold mcf
  rw [if_neg (show ¬ o < 1 by omega), if_neg (show ¬ o < 2 by omega), if_neg (show ¬ o < 3 by omega), if_neg (show ¬ o < 4 by omega), if_neg (show ¬ o < 5 by omega), if_neg (show ¬ o < 6 by omega), if_neg (show ¬ o < 7 by omega), if_neg (show ¬ o < 8 by omega), if_neg (show ¬ o < 9 by omega), if_neg (show ¬ o < 10 by omega), if_neg (show ¬ o < 11 by omega), if_neg (show ¬ o < 12 by omega), if_neg (show ¬ o < 13 by omega), if_neg (show ¬ o < 14 by omega), if_neg (show ¬ o < 15 by omega), if_neg (show ¬ o < 16 by omega), if_pos h2]
theorem mc_m_named {w : wT} {o : Nat} {r : Nat → Int32} (h1 : 17 ≤ o) (h2 : o < 18) : mcf w o r = .inl (w.2.1 1, 6, .inl r) := by
  unfold mcf
  rw [if_neg (show ¬ o < 1 by omega), if_neg (show ¬ o < 2 by omega), if_neg (show ¬ o < 3 by omega), if_neg (show ¬ o < 4 by omega), if_neg (show ¬ o < 5 by omega), if_neg (show ¬ o < 6 by omega), if_neg (show ¬ o < 7 by omega), if_neg (show ¬ o < 8 by omega), if_neg (show ¬ o < 9 by omega), if_neg (show ¬ o < 10 by omega), if_neg (show ¬ o < 11 by omega), if_neg (show ¬ o < 12 by omega), if_neg (show ¬ o < 13 by omega), if_neg (show ¬ o < 14 by omega), if_neg (show ¬ o < 15 by omega), if_neg (show ¬ o < 16 by omega), if_neg (show ¬ o < 17 by omega), if_pos h2]
theorem mc_m_far {w : wT} {o : Nat} {r : Nat → Int32} (h1 : 18 ≤ o) (h2 : o < 19) : mcf w o r = .inl (w.2.1 1, 30, .inl r) := by
  unfold mcf
  rw [if_neg (show ¬ o < 1 by omega), if_neg (show ¬ o < 2 by omega), if_neg (show ¬ o < 3 by omega), if_neg (show ¬ o < 4 by omega), if_neg (show ¬ o < 5 by omega), if_neg (show ¬ o < 6 by omega), if_neg (show ¬ o < 7 by omega), if_neg (show ¬ o < 8 by omega), if_neg (show ¬ o < 9 by omega), if_neg (show ¬ o < 10 by omega), if_neg (show ¬ o < 11 by omega), if_neg (show ¬ o < 12 by omega), if_neg (show ¬ o < 13 by omega), if_neg (show ¬ o < 14 by omega), if_neg (show ¬ o < 15 by omega), if_neg (show ¬ o < 16 by omega), if_neg (show ¬ o < 17 by omega), if_neg (show ¬ o < 18 by omega), if_pos h2]
theorem mc_m_wentTo {w : wT} {o : Nat} {r : Nat → Int32} (h1 : 19 ≤ o) (h2 : o < 20) : mcf w o r = .inl (w.2.1 1, 5, .inl r) := by
  unfold mcf
  rw [if_neg (show ¬ o < 1 by omega), if_neg (show ¬ o < 2 by omega), if_neg (show ¬ o < 3 by omega), if_neg (show ¬ o < 4 by omega), if_neg (show ¬ o < 5 by omega), if_neg (show ¬ o < 6 by omega), if_neg (show ¬ o < 7 by omega), if_neg (show ¬ o < 8 by omega), if_neg (show ¬ o < 9 by omega), if_neg (show ¬ o < 10 by omega), if_neg (show ¬ o < 11 by omega), if_neg (show ¬ o < 12 by omega), if_neg (show ¬ o < 13 by omega), if_neg (show ¬ o < 14 by omega), if_neg (show ¬ o < 15 by omega), if_neg (show ¬ o < 16 by omega), if_neg (show ¬ o < 17 by omega), if_neg (show ¬ o < 18 by omega), if_neg (show ¬ o < 19 by omega)]
theorem wm_0 : Cond.laysFinal "WhereTheSpoonWent" "WhereTheSpoonWent" "now" "LWhereTheSpoonWent$House;" ∈ wG := List.mem_filter.mpr ⟨wT_2 _ (List.mem_of_getElem? (i := 21) rfl), rfl⟩
theorem wm_1 : Cond.laysFinal "WhereTheSpoonWent" "WhereTheSpoonWent" "kept" "LWhereTheSpoonWent$House;" ∈ wG := List.mem_filter.mpr ⟨wT_2 _ (List.mem_of_getElem? (i := 23) rfl), rfl⟩
theorem wm_2 : Cond.lays "WhereTheSpoonWent" "WhereTheSpoonWent" "isKept" "Z" ∈ wG := List.mem_filter.mpr ⟨wT_2 _ (List.mem_of_getElem? (i := 25) rfl), rfl⟩
theorem wm_3 : Cond.laysFinal "WhereTheSpoonWent" "WhereTheSpoonWent" "kinds" "[LWhereTheSpoonWent$Thing;" ∈ wG := List.mem_filter.mpr ⟨wT_2 _ (List.mem_of_getElem? (i := 27) rfl), rfl⟩
theorem wm_4 : Cond.laysFinal "WhereTheSpoonWent" "WhereTheSpoonWent" "texts" "[LWhereTheSpoonWent$Text;" ∈ wG := List.mem_filter.mpr ⟨wT_2 _ (List.mem_of_getElem? (i := 29) rfl), rfl⟩
theorem wm_5 : Cond.lays "WhereTheSpoonWent" "WhereTheSpoonWent" "textCount" "I" ∈ wG := List.mem_filter.mpr ⟨wT_2 _ (List.mem_of_getElem? (i := 31) rfl), rfl⟩
theorem wm_6 : Cond.laysFinal "WhereTheSpoonWent" "WhereTheSpoonWent" "reader" "LWhereTheSpoonWent$Reader;" ∈ wG := List.mem_filter.mpr ⟨wT_2 _ (List.mem_of_getElem? (i := 33) rfl), rfl⟩
theorem wm_7 : Cond.laysFinal "WhereTheSpoonWent" "WhereTheSpoonWent" "sheets" "[LWhereTheSpoonWent$Sheet;" ∈ wG := List.mem_filter.mpr ⟨wT_2 _ (List.mem_of_getElem? (i := 35) rfl), rfl⟩
theorem wm_8 : Cond.laysFinal "WhereTheSpoonWent" "WhereTheSpoonWent" "flight" "LWhereTheSpoonWent$Flight;" ∈ wG := List.mem_filter.mpr ⟨wT_2 _ (List.mem_of_getElem? (i := 37) rfl), rfl⟩
theorem wm_9 : Cond.laysFinal "WhereTheSpoonWent" "WhereTheSpoonWent" "path" "[I" ∈ wG := List.mem_filter.mpr ⟨wT_2 _ (List.mem_of_getElem? (i := 39) rfl), rfl⟩
theorem wm_10 : Cond.laysFinal "WhereTheSpoonWent" "WhereTheSpoonWent" "far" "[I" ∈ wG := List.mem_filter.mpr ⟨wT_2 _ (List.mem_of_getElem? (i := 41) rfl), rfl⟩
theorem wm_11 : Cond.laysFinal "WhereTheSpoonWent" "WhereTheSpoonWent" "queue" "[I" ∈ wG := List.mem_filter.mpr ⟨wT_2 _ (List.mem_of_getElem? (i := 43) rfl), rfl⟩
theorem wm_12 : Cond.laysFinal "WhereTheSpoonWent" "WhereTheSpoonWent" "ends" "[I" ∈ wG := List.mem_filter.mpr ⟨wT_2 _ (List.mem_of_getElem? (i := 45) rfl), rfl⟩
theorem wm_13 : Cond.laysFinal "WhereTheSpoonWent" "WhereTheSpoonWent" "tally" "[I" ∈ wG := List.mem_filter.mpr ⟨wT_2 _ (List.mem_of_getElem? (i := 47) rfl), rfl⟩
theorem wm_14 : Cond.lays "WhereTheSpoonWent$House" "WhereTheSpoonWent$House" "walls" "I" ∈ wG := List.mem_filter.mpr ⟨wT_1 _ (List.mem_of_getElem? (i := 55) rfl), rfl⟩
theorem wm_15 : Cond.lays "WhereTheSpoonWent$House" "WhereTheSpoonWent$House" "nets" "I" ∈ wG := List.mem_filter.mpr ⟨wT_1 _ (List.mem_of_getElem? (i := 57) rfl), rfl⟩
theorem wm_16 : Cond.lays "WhereTheSpoonWent$House" "WhereTheSpoonWent$House" "fans" "I" ∈ wG := List.mem_filter.mpr ⟨wT_1 _ (List.mem_of_getElem? (i := 59) rfl), rfl⟩
theorem wm_17 : Cond.lays "WhereTheSpoonWent$House" "WhereTheSpoonWent$House" "step" "I" ∈ wG := List.mem_filter.mpr ⟨wT_1 _ (List.mem_of_getElem? (i := 61) rfl), rfl⟩
theorem wm_18 : Cond.lays "WhereTheSpoonWent$House" "WhereTheSpoonWent$House" "law" "I" ∈ wG := List.mem_filter.mpr ⟨wT_1 _ (List.mem_of_getElem? (i := 63) rfl), rfl⟩
theorem wm_19 : Cond.lays "WhereTheSpoonWent$House" "WhereTheSpoonWent$House" "things" "I" ∈ wG := List.mem_filter.mpr ⟨wT_1 _ (List.mem_of_getElem? (i := 65) rfl), rfl⟩
theorem wm_20 : Cond.laysFinal "WhereTheSpoonWent$House" "WhereTheSpoonWent$House" "kinds" "[I" ∈ wG := List.mem_filter.mpr ⟨wT_1 _ (List.mem_of_getElem? (i := 67) rfl), rfl⟩
theorem wm_21 : Cond.laysFinal "WhereTheSpoonWent$House" "WhereTheSpoonWent$House" "mores" "[I" ∈ wG := List.mem_filter.mpr ⟨wT_1 _ (List.mem_of_getElem? (i := 69) rfl), rfl⟩
theorem wm_22 : Cond.laysFinal "WhereTheSpoonWent$House" "WhereTheSpoonWent$House" "cells" "[I" ∈ wG := List.mem_filter.mpr ⟨wT_1 _ (List.mem_of_getElem? (i := 71) rfl), rfl⟩
theorem wm_23 : Cond.laysFinal "WhereTheSpoonWent$House" "WhereTheSpoonWent$House" "ways" "[I" ∈ wG := List.mem_filter.mpr ⟨wT_1 _ (List.mem_of_getElem? (i := 73) rfl), rfl⟩
theorem wm_24 : Cond.laysFinal "WhereTheSpoonWent$Text" "WhereTheSpoonWent$Text" "codes" "[I" ∈ wG := List.mem_filter.mpr ⟨wT_1 _ (List.mem_of_getElem? (i := 202) rfl), rfl⟩
theorem wm_25 : Cond.laysFinal "WhereTheSpoonWent$Text" "WhereTheSpoonWent$Text" "starts" "[I" ∈ wG := List.mem_filter.mpr ⟨wT_1 _ (List.mem_of_getElem? (i := 204) rfl), rfl⟩
theorem wm_26 : Cond.laysFinal "WhereTheSpoonWent$Text" "WhereTheSpoonWent$Text" "stack" "[I" ∈ wG := List.mem_filter.mpr ⟨wT_1 _ (List.mem_of_getElem? (i := 206) rfl), rfl⟩
theorem wm_27 : Cond.lays "WhereTheSpoonWent$Text" "WhereTheSpoonWent$Text" "used" "I" ∈ wG := List.mem_filter.mpr ⟨wT_1 _ (List.mem_of_getElem? (i := 208) rfl), rfl⟩
theorem wm_28 : Cond.lays "WhereTheSpoonWent$Text" "WhereTheSpoonWent$Text" "parts" "I" ∈ wG := List.mem_filter.mpr ⟨wT_1 _ (List.mem_of_getElem? (i := 210) rfl), rfl⟩
theorem wm_29 : Cond.laysFinal "WhereTheSpoonWent$Reader" "WhereTheSpoonWent$Reader" "bytes" "[B" ∈ wG := List.mem_filter.mpr ⟨wT_1 _ (List.mem_of_getElem? (i := 95) rfl), rfl⟩
theorem wm_30 : Cond.lays "WhereTheSpoonWent$Reader" "WhereTheSpoonWent$Reader" "size" "I" ∈ wG := List.mem_filter.mpr ⟨wT_1 _ (List.mem_of_getElem? (i := 97) rfl), rfl⟩
theorem wm_31 : Cond.lays "WhereTheSpoonWent$Reader" "WhereTheSpoonWent$Reader" "token" "I" ∈ wG := List.mem_filter.mpr ⟨wT_1 _ (List.mem_of_getElem? (i := 99) rfl), rfl⟩
theorem wm_32 : Cond.lays "WhereTheSpoonWent$Reader" "WhereTheSpoonWent$Reader" "start" "I" ∈ wG := List.mem_filter.mpr ⟨wT_1 _ (List.mem_of_getElem? (i := 101) rfl), rfl⟩
theorem wm_33 : Cond.lays "WhereTheSpoonWent$Reader" "WhereTheSpoonWent$Reader" "next" "I" ∈ wG := List.mem_filter.mpr ⟨wT_1 _ (List.mem_of_getElem? (i := 103) rfl), rfl⟩
theorem wm_34 : Cond.lays "WhereTheSpoonWent$Reader" "WhereTheSpoonWent$Reader" "fault" "I" ∈ wG := List.mem_filter.mpr ⟨wT_1 _ (List.mem_of_getElem? (i := 105) rfl), rfl⟩
theorem wm_35 : Cond.lays "WhereTheSpoonWent$Reader" "WhereTheSpoonWent$Reader" "out" "LWhereTheSpoonWent$Text;" ∈ wG := List.mem_filter.mpr ⟨wT_1 _ (List.mem_of_getElem? (i := 107) rfl), rfl⟩
theorem wm_36 : Cond.laysFinal "WhereTheSpoonWent$Sheet" "WhereTheSpoonWent$Sheet" "numbers" "[I" ∈ wG := List.mem_filter.mpr ⟨wT_2 _ (List.mem_of_getElem? (i := 0) rfl), rfl⟩
theorem wm_37 : Cond.lays "WhereTheSpoonWent$Sheet" "WhereTheSpoonWent$Sheet" "sort" "I" ∈ wG := List.mem_filter.mpr ⟨wT_2 _ (List.mem_of_getElem? (i := 2) rfl), rfl⟩
theorem wm_38 : Cond.lays "WhereTheSpoonWent$Sheet" "WhereTheSpoonWent$Sheet" "size" "I" ∈ wG := List.mem_filter.mpr ⟨wT_2 _ (List.mem_of_getElem? (i := 4) rfl), rfl⟩
theorem wm_39 : Cond.laysFinal "WhereTheSpoonWent$Flight" "WhereTheSpoonWent$Flight" "house" "LWhereTheSpoonWent$House;" ∈ wG := List.mem_filter.mpr ⟨wT_1 _ (List.mem_of_getElem? (i := 134) rfl), rfl⟩
theorem wm_40 : Cond.lays "WhereTheSpoonWent$Flight" "WhereTheSpoonWent$Flight" "law" "LWhereTheSpoonWent$Text;" ∈ wG := List.mem_filter.mpr ⟨wT_1 _ (List.mem_of_getElem? (i := 136) rfl), rfl⟩
theorem wm_41 : Cond.lays "WhereTheSpoonWent$Flight" "WhereTheSpoonWent$Flight" "kind" "LWhereTheSpoonWent$Thing;" ∈ wG := List.mem_filter.mpr ⟨wT_1 _ (List.mem_of_getElem? (i := 138) rfl), rfl⟩
theorem wm_42 : Cond.lays "WhereTheSpoonWent$Flight" "WhereTheSpoonWent$Flight" "nets" "I" ∈ wG := List.mem_filter.mpr ⟨wT_1 _ (List.mem_of_getElem? (i := 140) rfl), rfl⟩
theorem wm_43 : Cond.lays "WhereTheSpoonWent$Flight" "WhereTheSpoonWent$Flight" "number" "I" ∈ wG := List.mem_filter.mpr ⟨wT_1 _ (List.mem_of_getElem? (i := 142) rfl), rfl⟩
theorem wm_44 : Cond.lays "WhereTheSpoonWent$Flight" "WhereTheSpoonWent$Flight" "more" "I" ∈ wG := List.mem_filter.mpr ⟨wT_1 _ (List.mem_of_getElem? (i := 144) rfl), rfl⟩
theorem wm_45 : Cond.lays "WhereTheSpoonWent$Flight" "WhereTheSpoonWent$Flight" "cell" "I" ∈ wG := List.mem_filter.mpr ⟨wT_1 _ (List.mem_of_getElem? (i := 146) rfl), rfl⟩
theorem wm_46 : Cond.lays "WhereTheSpoonWent$Flight" "WhereTheSpoonWent$Flight" "way" "I" ∈ wG := List.mem_filter.mpr ⟨wT_1 _ (List.mem_of_getElem? (i := 148) rfl), rfl⟩
theorem wm_47 : Cond.laysFinal "WhereTheSpoonWentModel" "WhereTheSpoonWentModel" "sets" "[I" ∈ wG := List.mem_filter.mpr ⟨wT_4 _ (List.mem_of_getElem? (i := 214) rfl), rfl⟩
theorem wm_48 : Cond.lays "WhereTheSpoonWentModel" "WhereTheSpoonWentModel" "step" "I" ∈ wG := List.mem_filter.mpr ⟨wT_4 _ (List.mem_of_getElem? (i := 216) rfl), rfl⟩
theorem wm_49 : Cond.lays "WhereTheSpoonWentModel" "WhereTheSpoonWentModel" "things" "I" ∈ wG := List.mem_filter.mpr ⟨wT_4 _ (List.mem_of_getElem? (i := 218) rfl), rfl⟩
theorem wm_50 : Cond.laysFinal "WhereTheSpoonWentModel" "WhereTheSpoonWentModel" "kind" "[I" ∈ wG := List.mem_filter.mpr ⟨wT_4 _ (List.mem_of_getElem? (i := 220) rfl), rfl⟩
theorem wm_51 : Cond.laysFinal "WhereTheSpoonWentModel" "WhereTheSpoonWentModel" "moreOf" "[I" ∈ wG := List.mem_filter.mpr ⟨wT_4 _ (List.mem_of_getElem? (i := 222) rfl), rfl⟩
theorem wm_52 : Cond.laysFinal "WhereTheSpoonWentModel" "WhereTheSpoonWentModel" "cellOf" "[I" ∈ wG := List.mem_filter.mpr ⟨wT_4 _ (List.mem_of_getElem? (i := 224) rfl), rfl⟩
theorem wm_53 : Cond.laysFinal "WhereTheSpoonWentModel" "WhereTheSpoonWentModel" "wayOf" "[I" ∈ wG := List.mem_filter.mpr ⟨wT_4 _ (List.mem_of_getElem? (i := 226) rfl), rfl⟩
theorem wm_54 : Cond.laysFinal "WhereTheSpoonWentModel" "WhereTheSpoonWentModel" "tape" "[I" ∈ wG := List.mem_filter.mpr ⟨wT_4 _ (List.mem_of_getElem? (i := 228) rfl), rfl⟩
theorem wm_55 : Cond.lays "WhereTheSpoonWentModel" "WhereTheSpoonWentModel" "taped" "I" ∈ wG := List.mem_filter.mpr ⟨wT_4 _ (List.mem_of_getElem? (i := 230) rfl), rfl⟩
theorem wm_56 : Cond.laysFinal "WhereTheSpoonWentModel" "WhereTheSpoonWentModel" "codes" "[I" ∈ wG := List.mem_filter.mpr ⟨wT_4 _ (List.mem_of_getElem? (i := 232) rfl), rfl⟩
theorem wm_57 : Cond.laysFinal "WhereTheSpoonWentModel" "WhereTheSpoonWentModel" "starts" "[I" ∈ wG := List.mem_filter.mpr ⟨wT_4 _ (List.mem_of_getElem? (i := 234) rfl), rfl⟩
theorem wm_58 : Cond.lays "WhereTheSpoonWentModel" "WhereTheSpoonWentModel" "texts" "I" ∈ wG := List.mem_filter.mpr ⟨wT_4 _ (List.mem_of_getElem? (i := 236) rfl), rfl⟩
theorem wm_59 : Cond.lays "WhereTheSpoonWentModel" "WhereTheSpoonWentModel" "rule" "I" ∈ wG := List.mem_filter.mpr ⟨wT_4 _ (List.mem_of_getElem? (i := 238) rfl), rfl⟩
theorem wm_60 : Cond.lays "WhereTheSpoonWentModel" "WhereTheSpoonWentModel" "hasImage" "Z" ∈ wG := List.mem_filter.mpr ⟨wT_5 _ (List.mem_of_getElem? (i := 0) rfl), rfl⟩
theorem wm_61 : Cond.lays "WhereTheSpoonWentModel" "WhereTheSpoonWentModel" "imageThings" "I" ∈ wG := List.mem_filter.mpr ⟨wT_5 _ (List.mem_of_getElem? (i := 2) rfl), rfl⟩
theorem wm_62 : Cond.lays "WhereTheSpoonWentModel" "WhereTheSpoonWentModel" "imageRule" "I" ∈ wG := List.mem_filter.mpr ⟨wT_5 _ (List.mem_of_getElem? (i := 4) rfl), rfl⟩
theorem wm_63 : Cond.laysFinal "WhereTheSpoonWentModel" "WhereTheSpoonWentModel" "imageRows" "[I" ∈ wG := List.mem_filter.mpr ⟨wT_5 _ (List.mem_of_getElem? (i := 6) rfl), rfl⟩
theorem wm_64 : Cond.laysFinal "WhereTheSpoonWentModel" "WhereTheSpoonWentModel" "sheetSort" "[I" ∈ wG := List.mem_filter.mpr ⟨wT_5 _ (List.mem_of_getElem? (i := 8) rfl), rfl⟩
theorem wm_65 : Cond.laysFinal "WhereTheSpoonWentModel" "WhereTheSpoonWentModel" "sheetSize" "[I" ∈ wG := List.mem_filter.mpr ⟨wT_5 _ (List.mem_of_getElem? (i := 10) rfl), rfl⟩
theorem wm_66 : Cond.laysFinal "WhereTheSpoonWentModel" "WhereTheSpoonWentModel" "cells" "[I" ∈ wG := List.mem_filter.mpr ⟨wT_5 _ (List.mem_of_getElem? (i := 12) rfl), rfl⟩
theorem wm_67 : Cond.laysFinal "WhereTheSpoonWentModel" "WhereTheSpoonWentModel" "law" "[I" ∈ wG := List.mem_filter.mpr ⟨wT_5 _ (List.mem_of_getElem? (i := 14) rfl), rfl⟩
theorem wm_68 : Cond.lays "WhereTheSpoonWentModel" "WhereTheSpoonWentModel" "at" "I" ∈ wG := List.mem_filter.mpr ⟨wT_5 _ (List.mem_of_getElem? (i := 16) rfl), rfl⟩
theorem wm_69 : Cond.lays "WhereTheSpoonWentModel" "WhereTheSpoonWentModel" "begun" "I" ∈ wG := List.mem_filter.mpr ⟨wT_5 _ (List.mem_of_getElem? (i := 18) rfl), rfl⟩
theorem wm_70 : Cond.lays "WhereTheSpoonWentModel" "WhereTheSpoonWentModel" "token" "I" ∈ wG := List.mem_filter.mpr ⟨wT_5 _ (List.mem_of_getElem? (i := 20) rfl), rfl⟩
theorem wm_71 : Cond.lays "WhereTheSpoonWentModel" "WhereTheSpoonWentModel" "value" "I" ∈ wG := List.mem_filter.mpr ⟨wT_5 _ (List.mem_of_getElem? (i := 22) rfl), rfl⟩
theorem wm_72 : Cond.laysFinal "WhereTheSpoonWentModel" "WhereTheSpoonWentModel" "words" "[I" ∈ wG := List.mem_filter.mpr ⟨wT_5 _ (List.mem_of_getElem? (i := 24) rfl), rfl⟩
theorem wm_73 : Cond.laysFinal "WhereTheSpoonWentModel" "WhereTheSpoonWentModel" "held" "[I" ∈ wG := List.mem_filter.mpr ⟨wT_5 _ (List.mem_of_getElem? (i := 26) rfl), rfl⟩
theorem wm_74 : Cond.lays "WhereTheSpoonWentModel" "WhereTheSpoonWentModel" "heldMany" "I" ∈ wG := List.mem_filter.mpr ⟨wT_5 _ (List.mem_of_getElem? (i := 28) rfl), rfl⟩
theorem wm_75 : Cond.lays "WhereTheSpoonWentModel" "WhereTheSpoonWentModel" "opens" "I" ∈ wG := List.mem_filter.mpr ⟨wT_5 _ (List.mem_of_getElem? (i := 30) rfl), rfl⟩
theorem wm_76 : Cond.lays "WhereTheSpoonWentModel" "WhereTheSpoonWentModel" "out" "I" ∈ wG := List.mem_filter.mpr ⟨wT_5 _ (List.mem_of_getElem? (i := 32) rfl), rfl⟩
theorem wm_77 : Cond.laysFinal "WhereTheSpoonWentModel" "WhereTheSpoonWentModel" "stack" "[I" ∈ wG := List.mem_filter.mpr ⟨wT_5 _ (List.mem_of_getElem? (i := 34) rfl), rfl⟩
theorem wm_78 : Cond.laysFinal "WhereTheSpoonWentModel" "WhereTheSpoonWentModel" "named" "[I" ∈ wG := List.mem_filter.mpr ⟨wT_5 _ (List.mem_of_getElem? (i := 36) rfl), rfl⟩
theorem wm_79 : Cond.lays "WhereTheSpoonWentModel" "WhereTheSpoonWentModel" "now" "I" ∈ wG := List.mem_filter.mpr ⟨wT_5 _ (List.mem_of_getElem? (i := 38) rfl), rfl⟩
theorem wm_80 : Cond.lays "WhereTheSpoonWentModel" "WhereTheSpoonWentModel" "way" "I" ∈ wG := List.mem_filter.mpr ⟨wT_5 _ (List.mem_of_getElem? (i := 40) rfl), rfl⟩
theorem wm_81 : Cond.laysFinal "WhereTheSpoonWentModel" "WhereTheSpoonWentModel" "far" "[I" ∈ wG := List.mem_filter.mpr ⟨wT_5 _ (List.mem_of_getElem? (i := 42) rfl), rfl⟩
theorem wm_82 : Cond.laysFinal "WhereTheSpoonWentModel" "WhereTheSpoonWentModel" "wentTo" "[I" ∈ wG := List.mem_filter.mpr ⟨wT_5 _ (List.mem_of_getElem? (i := 44) rfl), rfl⟩
theorem wm_83 : Cond.methodLink RX0 9 yX5_isOne ∈ wG := List.mem_filter.mpr ⟨wT_4 _ (List.mem_of_getElem? (i := 107) rfl), rfl⟩
theorem wm_84 : Cond.sameMethod "WhereTheSpoonWent$Screw" "WhereTheSpoonWent$Screw" "isOne" "(I)Z" ∈ wG := List.mem_filter.mpr ⟨wT_6 _ (List.mem_of_getElem? (i := 89) rfl), rfl⟩
theorem wm_85 : Cond.superclass RX0 RX5 ∈ wG := List.mem_filter.mpr ⟨wT_1 _ (List.mem_of_getElem? (i := 184) rfl), rfl⟩
theorem wm_86 : Cond.instanceMethod yX5_isOne ∈ wG := List.mem_filter.mpr ⟨wT_4 _ (List.mem_of_getElem? (i := 108) rfl), rfl⟩
theorem wm_87 : Cond.initialized RX5 ∈ wG := List.mem_filter.mpr ⟨wT_1 _ (List.mem_of_getElem? (i := 7) rfl), rfl⟩
theorem wm_88 : Cond.code yX5_isOne cX5_isOne 2 (some .boolean) ∈ wG := List.mem_filter.mpr ⟨wT_4 _ (List.mem_of_getElem? (i := 109) rfl), rfl⟩
theorem wm_89 : Cond.methodLink RX0 13 ⟨RX5, "blown", "(II)I"⟩ ∈ wG := List.mem_filter.mpr ⟨wT_3 _ (List.mem_of_getElem? (i := 72) rfl), rfl⟩
theorem wm_90 : Cond.sameMethod "WhereTheSpoonWent$Screw" "WhereTheSpoonWent$Thing" "blown" "(II)I" ∈ wG := List.mem_filter.mpr ⟨wT_3 _ (List.mem_of_getElem? (i := 73) rfl), rfl⟩
theorem wm_91 : Cond.superclass RX5 RX10 ∈ wG := List.mem_filter.mpr ⟨wT_1 _ (List.mem_of_getElem? (i := 170) rfl), rfl⟩
theorem wm_92 : Cond.instanceMethod yX10_blown ∈ wG := List.mem_filter.mpr ⟨wT_3 _ (List.mem_of_getElem? (i := 66) rfl), rfl⟩
theorem wm_93 : Cond.initialized RX10 ∈ wG := List.mem_filter.mpr ⟨wT_1 _ (List.mem_of_getElem? (i := 5) rfl), rfl⟩
theorem wm_94 : Cond.code yX10_blown cX10_blown 3 (some .int) ∈ wG := List.mem_filter.mpr ⟨wT_3 _ (List.mem_of_getElem? (i := 82) rfl), rfl⟩
theorem wm_95 : Cond.methodLink RX1 15 yX1_pass ∈ wG := List.mem_filter.mpr ⟨wT_3 _ (List.mem_of_getElem? (i := 59) rfl), rfl⟩
theorem wm_96 : Cond.instanceMethod yX1_pass ∈ wG := List.mem_filter.mpr ⟨wT_3 _ (List.mem_of_getElem? (i := 60) rfl), rfl⟩
theorem wm_97 : Cond.selects RX1 yX1_pass yX1_pass ∈ wG := List.mem_filter.mpr ⟨wT_3 _ (List.mem_of_getElem? (i := 61) rfl), rfl⟩
theorem wm_98 : Cond.initialized RX1 ∈ wG := List.mem_filter.mpr ⟨wT_1 _ (List.mem_of_getElem? (i := 4) rfl), rfl⟩
theorem wm_99 : Cond.code yX1_pass cX1_pass 3 none ∈ wG := List.mem_filter.mpr ⟨wT_3 _ (List.mem_of_getElem? (i := 62) rfl), rfl⟩
theorem wm_100 : Cond.fieldLink RX1 9 "WhereTheSpoonWent$Flight" "house" "LWhereTheSpoonWent$House;" ∈ wG := List.mem_filter.mpr ⟨wT_1 _ (List.mem_of_getElem? (i := 119) rfl), rfl⟩
theorem wm_101 : Cond.fieldLink RX1 19 "WhereTheSpoonWent$Flight" "law" "LWhereTheSpoonWent$Text;" ∈ wG := List.mem_filter.mpr ⟨wT_1 _ (List.mem_of_getElem? (i := 120) rfl), rfl⟩
theorem wm_102 : Cond.fieldLink RX1 23 "WhereTheSpoonWent$Flight" "kind" "LWhereTheSpoonWent$Thing;" ∈ wG := List.mem_filter.mpr ⟨wT_1 _ (List.mem_of_getElem? (i := 122) rfl), rfl⟩
theorem wm_103 : Cond.fieldLink RX1 27 "WhereTheSpoonWent$Flight" "nets" "I" ∈ wG := List.mem_filter.mpr ⟨wT_1 _ (List.mem_of_getElem? (i := 124) rfl), rfl⟩
theorem wm_104 : Cond.fieldLink RX1 31 "WhereTheSpoonWent$Flight" "cell" "I" ∈ wG := List.mem_filter.mpr ⟨wT_1 _ (List.mem_of_getElem? (i := 130) rfl), rfl⟩
theorem wm_105 : Cond.fieldLink RX1 41 "WhereTheSpoonWent$House" "fans" "I" ∈ wG := List.mem_filter.mpr ⟨wT_1 _ (List.mem_of_getElem? (i := 39) rfl), rfl⟩
theorem wm_106 : Cond.fieldLink RX1 46 "WhereTheSpoonWent$Flight" "number" "I" ∈ wG := List.mem_filter.mpr ⟨wT_1 _ (List.mem_of_getElem? (i := 126) rfl), rfl⟩
theorem wm_107 : Cond.fieldLink RX1 49 "WhereTheSpoonWent$Flight" "more" "I" ∈ wG := List.mem_filter.mpr ⟨wT_1 _ (List.mem_of_getElem? (i := 128) rfl), rfl⟩
theorem wm_108 : Cond.methodLink RX1 52 yX9_says ∈ wG := List.mem_filter.mpr ⟨wT_3 _ (List.mem_of_getElem? (i := 64) rfl), rfl⟩
theorem wm_109 : Cond.fieldLink RX1 38 "WhereTheSpoonWent$Flight" "way" "I" ∈ wG := List.mem_filter.mpr ⟨wT_1 _ (List.mem_of_getElem? (i := 132) rfl), rfl⟩
theorem wm_110 : Cond.methodLink RX1 58 yX10_blown ∈ wG := List.mem_filter.mpr ⟨wT_3 _ (List.mem_of_getElem? (i := 65) rfl), rfl⟩
theorem wm_111 : Cond.instanceMethod yX9_says ∈ wG := List.mem_filter.mpr ⟨wT_2 _ (List.mem_of_getElem? (i := 239) rfl), rfl⟩
theorem wm_112 : Cond.selects RX9 yX9_says yX9_says ∈ wG := List.mem_filter.mpr ⟨wT_3 _ (List.mem_of_getElem? (i := 0) rfl), rfl⟩
theorem wm_113 : Cond.initialized RX9 ∈ wG := List.mem_filter.mpr ⟨wT_1 _ (List.mem_of_getElem? (i := 11) rfl), rfl⟩
theorem wm_114 : Cond.code yX9_says cX9_says 9 (some .int) ∈ wG := List.mem_filter.mpr ⟨wT_3 _ (List.mem_of_getElem? (i := 1) rfl), rfl⟩
theorem wm_115 : Cond.static yX11_has ∈ wG := List.mem_filter.mpr ⟨wT_2 _ (List.mem_of_getElem? (i := 66) rfl), rfl⟩
theorem wm_116 : Cond.initialized RX11 ∈ wG := List.mem_filter.mpr ⟨wT_1 _ (List.mem_of_getElem? (i := 1) rfl), rfl⟩
theorem wm_117 : Cond.code yX11_has cX11_has 2 (some .boolean) ∈ wG := List.mem_filter.mpr ⟨wT_2 _ (List.mem_of_getElem? (i := 67) rfl), rfl⟩
theorem wm_118 : Cond.methodLink RX1 64 yX10_moves ∈ wG := List.mem_filter.mpr ⟨wT_3 _ (List.mem_of_getElem? (i := 83) rfl), rfl⟩
theorem wm_119 : Cond.methodLink RX1 67 yX3_beyond ∈ wG := List.mem_filter.mpr ⟨wT_3 _ (List.mem_of_getElem? (i := 98) rfl), rfl⟩
theorem wm_120 : Cond.methodLink RX1 70 yX10_touching ∈ wG := List.mem_filter.mpr ⟨wT_3 _ (List.mem_of_getElem? (i := 103) rfl), rfl⟩
theorem wm_121 : Cond.instanceMethod yX3_beyond ∈ wG := List.mem_filter.mpr ⟨wT_3 _ (List.mem_of_getElem? (i := 99) rfl), rfl⟩
theorem wm_122 : Cond.selects RX3 yX3_beyond yX3_beyond ∈ wG := List.mem_filter.mpr ⟨wT_3 _ (List.mem_of_getElem? (i := 100) rfl), rfl⟩
theorem wm_123 : Cond.initialized RX3 ∈ wG := List.mem_filter.mpr ⟨wT_1 _ (List.mem_of_getElem? (i := 2) rfl), rfl⟩
theorem wm_124 : Cond.code yX3_beyond cX3_beyond 6 (some .int) ∈ wG := List.mem_filter.mpr ⟨wT_3 _ (List.mem_of_getElem? (i := 101) rfl), rfl⟩
theorem wm_125 : Cond.methodLink RX2 9 yX10_isOne ∈ wG := List.mem_filter.mpr ⟨wT_4 _ (List.mem_of_getElem? (i := 114) rfl), rfl⟩
theorem wm_126 : Cond.sameMethod "WhereTheSpoonWent$Thing" "WhereTheSpoonWent$Thing" "isOne" "(I)Z" ∈ wG := List.mem_filter.mpr ⟨wT_4 _ (List.mem_of_getElem? (i := 103) rfl), rfl⟩
theorem wm_127 : Cond.superclass RX2 RX10 ∈ wG := List.mem_filter.mpr ⟨wT_1 _ (List.mem_of_getElem? (i := 191) rfl), rfl⟩
theorem wm_128 : Cond.instanceMethod yX10_isOne ∈ wG := List.mem_filter.mpr ⟨wT_4 _ (List.mem_of_getElem? (i := 101) rfl), rfl⟩
theorem wm_129 : Cond.code yX10_isOne cX10_isOne 2 (some .boolean) ∈ wG := List.mem_filter.mpr ⟨wT_4 _ (List.mem_of_getElem? (i := 124) rfl), rfl⟩
theorem wm_130 : Cond.methodLink RX2 13 yX10_blown ∈ wG := List.mem_filter.mpr ⟨wT_3 _ (List.mem_of_getElem? (i := 78) rfl), rfl⟩
theorem wm_131 : Cond.sameMethod "WhereTheSpoonWent$Thing" "WhereTheSpoonWent$Thing" "blown" "(II)I" ∈ wG := List.mem_filter.mpr ⟨wT_3 _ (List.mem_of_getElem? (i := 68) rfl), rfl⟩
theorem wm_132 : Cond.fieldLink RX3 24 "WhereTheSpoonWent$House" "walls" "I" ∈ wG := List.mem_filter.mpr ⟨wT_1 _ (List.mem_of_getElem? (i := 34) rfl), rfl⟩
theorem wm_133 : Cond.fieldLink RX3 28 "WhereTheSpoonWent$House" "nets" "I" ∈ wG := List.mem_filter.mpr ⟨wT_1 _ (List.mem_of_getElem? (i := 36) rfl), rfl⟩
theorem wm_134 : Cond.fieldLink RX3 31 "WhereTheSpoonWent$House" "fans" "I" ∈ wG := List.mem_filter.mpr ⟨wT_1 _ (List.mem_of_getElem? (i := 38) rfl), rfl⟩
theorem wm_135 : Cond.fieldLink RX3 34 "WhereTheSpoonWent$House" "step" "I" ∈ wG := List.mem_filter.mpr ⟨wT_1 _ (List.mem_of_getElem? (i := 41) rfl), rfl⟩
theorem wm_136 : Cond.fieldLink RX3 37 "WhereTheSpoonWent$House" "law" "I" ∈ wG := List.mem_filter.mpr ⟨wT_1 _ (List.mem_of_getElem? (i := 43) rfl), rfl⟩
theorem wm_137 : Cond.fieldLink RX3 40 "WhereTheSpoonWent$House" "things" "I" ∈ wG := List.mem_filter.mpr ⟨wT_1 _ (List.mem_of_getElem? (i := 45) rfl), rfl⟩
theorem wm_138 : Cond.fieldLink RX3 9 "WhereTheSpoonWent$House" "kinds" "[I" ∈ wG := List.mem_filter.mpr ⟨wT_1 _ (List.mem_of_getElem? (i := 47) rfl), rfl⟩
theorem wm_139 : Cond.methodLink RX3 43 arraycopyName ∈ wG := List.mem_filter.mpr ⟨wT_4 _ (List.mem_of_getElem? (i := 55) rfl), rfl⟩
theorem wm_140 : Cond.fieldLink RX3 15 "WhereTheSpoonWent$House" "mores" "[I" ∈ wG := List.mem_filter.mpr ⟨wT_1 _ (List.mem_of_getElem? (i := 49) rfl), rfl⟩
theorem wm_141 : Cond.fieldLink RX3 18 "WhereTheSpoonWent$House" "cells" "[I" ∈ wG := List.mem_filter.mpr ⟨wT_1 _ (List.mem_of_getElem? (i := 51) rfl), rfl⟩
theorem wm_142 : Cond.fieldLink RX3 21 "WhereTheSpoonWent$House" "ways" "[I" ∈ wG := List.mem_filter.mpr ⟨wT_1 _ (List.mem_of_getElem? (i := 53) rfl), rfl⟩
theorem wm_143 : Cond.native arraycopyName ∈ wG := List.mem_filter.mpr ⟨wT_4 _ (List.mem_of_getElem? (i := 57) rfl), rfl⟩
theorem wm_144 : Cond.static arraycopyName ∈ wG := List.mem_filter.mpr ⟨wT_4 _ (List.mem_of_getElem? (i := 56) rfl), rfl⟩
theorem wm_145 : Cond.initialized RJ10 ∈ wG := List.mem_filter.mpr ⟨wT_1 _ (List.mem_of_getElem? (i := 19) rfl), rfl⟩
theorem wm_146 : Cond.fieldLink RX4 15 "WhereTheSpoonWent$Reader" "size" "I" ∈ wG := List.mem_filter.mpr ⟨wT_1 _ (List.mem_of_getElem? (i := 88) rfl), rfl⟩
theorem wm_147 : Cond.fieldLink RX4 9 "WhereTheSpoonWent$Reader" "bytes" "[B" ∈ wG := List.mem_filter.mpr ⟨wT_1 _ (List.mem_of_getElem? (i := 87) rfl), rfl⟩
theorem wm_148 : Cond.fieldLink RX4 19 "WhereTheSpoonWent$Reader" "out" "LWhereTheSpoonWent$Text;" ∈ wG := List.mem_filter.mpr ⟨wT_1 _ (List.mem_of_getElem? (i := 94) rfl), rfl⟩
theorem wm_149 : Cond.methodLink RX4 23 yX9_clear ∈ wG := List.mem_filter.mpr ⟨wT_2 _ (List.mem_of_getElem? (i := 102) rfl), rfl⟩
theorem wm_150 : Cond.fieldLink RX4 28 "WhereTheSpoonWent$Reader" "fault" "I" ∈ wG := List.mem_filter.mpr ⟨wT_1 _ (List.mem_of_getElem? (i := 93) rfl), rfl⟩
theorem wm_151 : Cond.fieldLink RX4 31 "WhereTheSpoonWent$Reader" "next" "I" ∈ wG := List.mem_filter.mpr ⟨wT_1 _ (List.mem_of_getElem? (i := 92) rfl), rfl⟩
theorem wm_152 : Cond.methodLink RX4 34 yX4_goOn ∈ wG := List.mem_filter.mpr ⟨wT_2 _ (List.mem_of_getElem? (i := 103) rfl), rfl⟩
theorem wm_153 : Cond.methodLink RX4 37 yX4_readPart ∈ wG := List.mem_filter.mpr ⟨wT_2 _ (List.mem_of_getElem? (i := 188) rfl), rfl⟩
theorem wm_154 : Cond.methodLink RX4 41 yX4_take ∈ wG := List.mem_filter.mpr ⟨wT_2 _ (List.mem_of_getElem? (i := 192) rfl), rfl⟩
theorem wm_155 : Cond.instanceMethod yX4_take ∈ wG := List.mem_filter.mpr ⟨wT_2 _ (List.mem_of_getElem? (i := 194) rfl), rfl⟩
theorem wm_156 : Cond.selects RX4 yX4_take yX4_take ∈ wG := List.mem_filter.mpr ⟨List.mem_append_left _ (List.mem_of_getElem? (i := 6) rfl), rfl⟩
theorem wm_157 : Cond.initialized RX4 ∈ wG := List.mem_filter.mpr ⟨wT_1 _ (List.mem_of_getElem? (i := 3) rfl), rfl⟩
theorem wm_158 : Cond.code yX4_take cX4_take 2 none ∈ wG := List.mem_filter.mpr ⟨wT_2 _ (List.mem_of_getElem? (i := 195) rfl), rfl⟩
theorem wm_159 : Cond.instanceMethod yX4_readPart ∈ wG := List.mem_filter.mpr ⟨wT_2 _ (List.mem_of_getElem? (i := 190) rfl), rfl⟩
theorem wm_160 : Cond.selects RX4 yX4_readPart yX4_readPart ∈ wG := List.mem_filter.mpr ⟨List.mem_append_left _ (List.mem_of_getElem? (i := 5) rfl), rfl⟩
theorem wm_161 : Cond.code yX4_readPart cX4_readPart 2 none ∈ wG := List.mem_filter.mpr ⟨wT_2 _ (List.mem_of_getElem? (i := 191) rfl), rfl⟩
theorem wm_162 : Cond.instanceMethod yX4_goOn ∈ wG := List.mem_filter.mpr ⟨wT_2 _ (List.mem_of_getElem? (i := 105) rfl), rfl⟩
theorem wm_163 : Cond.selects RX4 yX4_goOn yX4_goOn ∈ wG := List.mem_filter.mpr ⟨List.mem_append_left _ (List.mem_of_getElem? (i := 1) rfl), rfl⟩
theorem wm_164 : Cond.code yX4_goOn cX4_goOn 1 none ∈ wG := List.mem_filter.mpr ⟨wT_2 _ (List.mem_of_getElem? (i := 106) rfl), rfl⟩
theorem wm_165 : Cond.instanceMethod yX9_clear ∈ wG := List.mem_filter.mpr ⟨wT_1 _ (List.mem_of_getElem? (i := 218) rfl), rfl⟩
theorem wm_166 : Cond.selects RX9 yX9_clear yX9_clear ∈ wG := List.mem_filter.mpr ⟨wT_1 _ (List.mem_of_getElem? (i := 219) rfl), rfl⟩
theorem wm_167 : Cond.code yX9_clear cX9_clear 1 none ∈ wG := List.mem_filter.mpr ⟨wT_1 _ (List.mem_of_getElem? (i := 220) rfl), rfl⟩
theorem wm_168 : Cond.methodLink RX4 44 yX4_readOr ∈ wG := List.mem_filter.mpr ⟨wT_2 _ (List.mem_of_getElem? (i := 200) rfl), rfl⟩
theorem wm_169 : Cond.methodLink RX4 47 yX9_endPart ∈ wG := List.mem_filter.mpr ⟨wT_2 _ (List.mem_of_getElem? (i := 225) rfl), rfl⟩
theorem wm_170 : Cond.instanceMethod yX9_endPart ∈ wG := List.mem_filter.mpr ⟨wT_1 _ (List.mem_of_getElem? (i := 226) rfl), rfl⟩
theorem wm_171 : Cond.selects RX9 yX9_endPart yX9_endPart ∈ wG := List.mem_filter.mpr ⟨wT_1 _ (List.mem_of_getElem? (i := 227) rfl), rfl⟩
theorem wm_172 : Cond.code yX9_endPart cX9_endPart 1 none ∈ wG := List.mem_filter.mpr ⟨wT_1 _ (List.mem_of_getElem? (i := 228) rfl), rfl⟩
theorem wm_173 : Cond.instanceMethod yX4_readOr ∈ wG := List.mem_filter.mpr ⟨wT_2 _ (List.mem_of_getElem? (i := 202) rfl), rfl⟩
theorem wm_174 : Cond.selects RX4 yX4_readOr yX4_readOr ∈ wG := List.mem_filter.mpr ⟨List.mem_append_left _ (List.mem_of_getElem? (i := 8) rfl), rfl⟩
theorem wm_175 : Cond.code yX4_readOr cX4_readOr 3 none ∈ wG := List.mem_filter.mpr ⟨wT_2 _ (List.mem_of_getElem? (i := 203) rfl), rfl⟩
theorem wm_176 : Cond.methodLink RX4 50 yX4_readAnd ∈ wG := List.mem_filter.mpr ⟨wT_2 _ (List.mem_of_getElem? (i := 204) rfl), rfl⟩
theorem wm_177 : Cond.instanceMethod yX4_readAnd ∈ wG := List.mem_filter.mpr ⟨wT_2 _ (List.mem_of_getElem? (i := 206) rfl), rfl⟩
theorem wm_178 : Cond.selects RX4 yX4_readAnd yX4_readAnd ∈ wG := List.mem_filter.mpr ⟨List.mem_append_left _ (List.mem_of_getElem? (i := 9) rfl), rfl⟩
theorem wm_179 : Cond.code yX4_readAnd cX4_readAnd 3 none ∈ wG := List.mem_filter.mpr ⟨wT_2 _ (List.mem_of_getElem? (i := 207) rfl), rfl⟩
theorem wm_180 : Cond.fieldLink RX4 53 "WhereTheSpoonWent$Reader" "token" "I" ∈ wG := List.mem_filter.mpr ⟨wT_1 _ (List.mem_of_getElem? (i := 90) rfl), rfl⟩
theorem wm_181 : Cond.methodLink RX4 56 yX9_add ∈ wG := List.mem_filter.mpr ⟨wT_2 _ (List.mem_of_getElem? (i := 212) rfl), rfl⟩
theorem wm_182 : Cond.instanceMethod yX9_add ∈ wG := List.mem_filter.mpr ⟨wT_1 _ (List.mem_of_getElem? (i := 222) rfl), rfl⟩
theorem wm_183 : Cond.selects RX9 yX9_add yX9_add ∈ wG := List.mem_filter.mpr ⟨wT_1 _ (List.mem_of_getElem? (i := 223) rfl), rfl⟩
theorem wm_184 : Cond.code yX9_add cX9_add 2 none ∈ wG := List.mem_filter.mpr ⟨wT_1 _ (List.mem_of_getElem? (i := 224) rfl), rfl⟩
theorem wm_185 : Cond.methodLink RX4 59 yX4_readNot ∈ wG := List.mem_filter.mpr ⟨wT_2 _ (List.mem_of_getElem? (i := 208) rfl), rfl⟩
theorem wm_186 : Cond.instanceMethod yX4_readNot ∈ wG := List.mem_filter.mpr ⟨wT_2 _ (List.mem_of_getElem? (i := 210) rfl), rfl⟩
theorem wm_187 : Cond.selects RX4 yX4_readNot yX4_readNot ∈ wG := List.mem_filter.mpr ⟨List.mem_append_left _ (List.mem_of_getElem? (i := 10) rfl), rfl⟩
theorem wm_188 : Cond.code yX4_readNot cX4_readNot 3 none ∈ wG := List.mem_filter.mpr ⟨wT_2 _ (List.mem_of_getElem? (i := 211) rfl), rfl⟩
theorem wm_189 : Cond.methodLink RX4 62 yX4_readSum ∈ wG := List.mem_filter.mpr ⟨wT_2 _ (List.mem_of_getElem? (i := 213) rfl), rfl⟩
theorem wm_190 : Cond.instanceMethod yX4_readSum ∈ wG := List.mem_filter.mpr ⟨wT_2 _ (List.mem_of_getElem? (i := 215) rfl), rfl⟩
theorem wm_191 : Cond.selects RX4 yX4_readSum yX4_readSum ∈ wG := List.mem_filter.mpr ⟨List.mem_append_left _ (List.mem_of_getElem? (i := 11) rfl), rfl⟩
theorem wm_192 : Cond.code yX4_readSum cX4_readSum 4 none ∈ wG := List.mem_filter.mpr ⟨wT_2 _ (List.mem_of_getElem? (i := 216) rfl), rfl⟩
theorem wm_193 : Cond.methodLink RX4 65 yX4_readTerm ∈ wG := List.mem_filter.mpr ⟨wT_2 _ (List.mem_of_getElem? (i := 217) rfl), rfl⟩
theorem wm_194 : Cond.instanceMethod yX4_readTerm ∈ wG := List.mem_filter.mpr ⟨wT_2 _ (List.mem_of_getElem? (i := 219) rfl), rfl⟩
theorem wm_195 : Cond.selects RX4 yX4_readTerm yX4_readTerm ∈ wG := List.mem_filter.mpr ⟨List.mem_append_left _ (List.mem_of_getElem? (i := 12) rfl), rfl⟩
theorem wm_196 : Cond.code yX4_readTerm cX4_readTerm 3 none ∈ wG := List.mem_filter.mpr ⟨wT_2 _ (List.mem_of_getElem? (i := 220) rfl), rfl⟩
theorem wm_197 : Cond.methodLink RX4 68 yX4_readOne ∈ wG := List.mem_filter.mpr ⟨wT_2 _ (List.mem_of_getElem? (i := 221) rfl), rfl⟩
theorem wm_198 : Cond.instanceMethod yX4_readOne ∈ wG := List.mem_filter.mpr ⟨wT_2 _ (List.mem_of_getElem? (i := 223) rfl), rfl⟩
theorem wm_199 : Cond.selects RX4 yX4_readOne yX4_readOne ∈ wG := List.mem_filter.mpr ⟨List.mem_append_left _ (List.mem_of_getElem? (i := 13) rfl), rfl⟩
theorem wm_200 : Cond.code yX4_readOne cX4_readOne 2 none ∈ wG := List.mem_filter.mpr ⟨wT_2 _ (List.mem_of_getElem? (i := 224) rfl), rfl⟩
theorem wm_201 : Cond.methodLink RX4 71 yX4_fail ∈ wG := List.mem_filter.mpr ⟨wT_2 _ (List.mem_of_getElem? (i := 196) rfl), rfl⟩
theorem wm_202 : Cond.instanceMethod yX4_fail ∈ wG := List.mem_filter.mpr ⟨wT_2 _ (List.mem_of_getElem? (i := 198) rfl), rfl⟩
theorem wm_203 : Cond.selects RX4 yX4_fail yX4_fail ∈ wG := List.mem_filter.mpr ⟨List.mem_append_left _ (List.mem_of_getElem? (i := 7) rfl), rfl⟩
theorem wm_204 : Cond.code yX4_fail cX4_fail 1 none ∈ wG := List.mem_filter.mpr ⟨wT_2 _ (List.mem_of_getElem? (i := 199) rfl), rfl⟩
theorem wm_205 : Cond.fieldLink RX4 74 "WhereTheSpoonWent$Reader" "start" "I" ∈ wG := List.mem_filter.mpr ⟨wT_1 _ (List.mem_of_getElem? (i := 91) rfl), rfl⟩
theorem wm_206 : Cond.methodLink RX4 77 yX4_isDigit ∈ wG := List.mem_filter.mpr ⟨wT_2 _ (List.mem_of_getElem? (i := 107) rfl), rfl⟩
theorem wm_207 : Cond.methodLink RX4 84 yX4_isLetter ∈ wG := List.mem_filter.mpr ⟨wT_2 _ (List.mem_of_getElem? (i := 114) rfl), rfl⟩
theorem wm_208 : Cond.methodLink RX4 90 yX4_signOf ∈ wG := List.mem_filter.mpr ⟨wT_2 _ (List.mem_of_getElem? (i := 185) rfl), rfl⟩
theorem wm_209 : Cond.static yX4_signOf ∈ wG := List.mem_filter.mpr ⟨wT_2 _ (List.mem_of_getElem? (i := 186) rfl), rfl⟩
theorem wm_210 : Cond.code yX4_signOf cX4_signOf 1 (some .int) ∈ wG := List.mem_filter.mpr ⟨wT_2 _ (List.mem_of_getElem? (i := 187) rfl), rfl⟩
theorem wm_211 : Cond.methodLink RX4 87 yX4_goOnWord ∈ wG := List.mem_filter.mpr ⟨wT_2 _ (List.mem_of_getElem? (i := 117) rfl), rfl⟩
theorem wm_212 : Cond.instanceMethod yX4_goOnWord ∈ wG := List.mem_filter.mpr ⟨wT_2 _ (List.mem_of_getElem? (i := 119) rfl), rfl⟩
theorem wm_213 : Cond.selects RX4 yX4_goOnWord yX4_goOnWord ∈ wG := List.mem_filter.mpr ⟨List.mem_append_left _ (List.mem_of_getElem? (i := 3) rfl), rfl⟩
theorem wm_214 : Cond.code yX4_goOnWord cX4_goOnWord 1 none ∈ wG := List.mem_filter.mpr ⟨wT_2 _ (List.mem_of_getElem? (i := 120) rfl), rfl⟩
theorem wm_215 : Cond.static yX4_isLetter ∈ wG := List.mem_filter.mpr ⟨wT_2 _ (List.mem_of_getElem? (i := 115) rfl), rfl⟩
theorem wm_216 : Cond.code yX4_isLetter cX4_isLetter 1 (some .boolean) ∈ wG := List.mem_filter.mpr ⟨wT_2 _ (List.mem_of_getElem? (i := 116) rfl), rfl⟩
theorem wm_217 : Cond.methodLink RX4 81 yX4_goOnNumber ∈ wG := List.mem_filter.mpr ⟨wT_2 _ (List.mem_of_getElem? (i := 110) rfl), rfl⟩
theorem wm_218 : Cond.instanceMethod yX4_goOnNumber ∈ wG := List.mem_filter.mpr ⟨wT_2 _ (List.mem_of_getElem? (i := 112) rfl), rfl⟩
theorem wm_219 : Cond.selects RX4 yX4_goOnNumber yX4_goOnNumber ∈ wG := List.mem_filter.mpr ⟨List.mem_append_left _ (List.mem_of_getElem? (i := 2) rfl), rfl⟩
theorem wm_220 : Cond.code yX4_goOnNumber cX4_goOnNumber 2 none ∈ wG := List.mem_filter.mpr ⟨wT_2 _ (List.mem_of_getElem? (i := 113) rfl), rfl⟩
theorem wm_221 : Cond.static yX4_isDigit ∈ wG := List.mem_filter.mpr ⟨wT_2 _ (List.mem_of_getElem? (i := 108) rfl), rfl⟩
theorem wm_222 : Cond.code yX4_isDigit cX4_isDigit 1 (some .boolean) ∈ wG := List.mem_filter.mpr ⟨wT_2 _ (List.mem_of_getElem? (i := 109) rfl), rfl⟩
theorem wm_223 : Cond.methodLink RX4 96 yX4_isWord ∈ wG := List.mem_filter.mpr ⟨wT_2 _ (List.mem_of_getElem? (i := 122) rfl), rfl⟩
theorem wm_224 : Cond.instanceMethod yX4_isWord ∈ wG := List.mem_filter.mpr ⟨wT_2 _ (List.mem_of_getElem? (i := 124) rfl), rfl⟩
theorem wm_225 : Cond.selects RX4 yX4_isWord yX4_isWord ∈ wG := List.mem_filter.mpr ⟨List.mem_append_left _ (List.mem_of_getElem? (i := 4) rfl), rfl⟩
theorem wm_226 : Cond.code yX4_isWord cX4_isWord 3 (some .boolean) ∈ wG := List.mem_filter.mpr ⟨wT_2 _ (List.mem_of_getElem? (i := 125) rfl), rfl⟩
theorem wm_227 : Cond.methodLink RX4 122 yJ0_length_8abf5 ∈ wG := List.mem_filter.mpr ⟨wT_2 _ (List.mem_of_getElem? (i := 126) rfl), rfl⟩
theorem wm_228 : Cond.methodLink RX4 128 yJ0_charAt_5068e ∈ wG := List.mem_filter.mpr ⟨wT_2 _ (List.mem_of_getElem? (i := 136) rfl), rfl⟩
theorem wm_229 : Cond.methodLink RX5 7 yX10_isOne ∈ wG := List.mem_filter.mpr ⟨wT_4 _ (List.mem_of_getElem? (i := 110) rfl), rfl⟩
theorem wm_230 : Cond.fieldLink RX6 15 "WhereTheSpoonWent$Sheet" "sort" "I" ∈ wG := List.mem_filter.mpr ⟨wT_1 _ (List.mem_of_getElem? (i := 236) rfl), rfl⟩
theorem wm_231 : Cond.fieldLink RX6 19 "WhereTheSpoonWent$Sheet" "size" "I" ∈ wG := List.mem_filter.mpr ⟨wT_1 _ (List.mem_of_getElem? (i := 238) rfl), rfl⟩
theorem wm_232 : Cond.fieldLink RX6 9 "WhereTheSpoonWent$Sheet" "numbers" "[I" ∈ wG := List.mem_filter.mpr ⟨wT_1 _ (List.mem_of_getElem? (i := 234) rfl), rfl⟩
theorem wm_233 : Cond.methodLink RX7 9 yX10_isOne ∈ wG := List.mem_filter.mpr ⟨wT_4 _ (List.mem_of_getElem? (i := 119) rfl), rfl⟩
theorem wm_234 : Cond.superclass RX7 RX10 ∈ wG := List.mem_filter.mpr ⟨wT_1 _ (List.mem_of_getElem? (i := 163) rfl), rfl⟩
theorem wm_235 : Cond.methodLink RX8 7 yX7_isOne ∈ wG := List.mem_filter.mpr ⟨wT_4 _ (List.mem_of_getElem? (i := 123) rfl), rfl⟩
theorem wm_236 : Cond.sameMethod "WhereTheSpoonWent$Sticky" "WhereTheSpoonWent$Sticky" "isOne" "(I)Z" ∈ wG := List.mem_filter.mpr ⟨wT_6 _ (List.mem_of_getElem? (i := 90) rfl), rfl⟩
theorem wm_237 : Cond.superclass RX8 RX7 ∈ wG := List.mem_filter.mpr ⟨wT_1 _ (List.mem_of_getElem? (i := 177) rfl), rfl⟩
theorem wm_238 : Cond.instanceMethod yX7_isOne ∈ wG := List.mem_filter.mpr ⟨wT_4 _ (List.mem_of_getElem? (i := 117) rfl), rfl⟩
theorem wm_239 : Cond.initialized RX7 ∈ wG := List.mem_filter.mpr ⟨wT_1 _ (List.mem_of_getElem? (i := 6) rfl), rfl⟩
theorem wm_240 : Cond.code yX7_isOne cX7_isOne 2 (some .boolean) ∈ wG := List.mem_filter.mpr ⟨wT_4 _ (List.mem_of_getElem? (i := 118) rfl), rfl⟩
theorem wm_241 : Cond.methodLink RX8 11 yJ9_floorMod_7cf53 ∈ wG := List.mem_filter.mpr ⟨wT_3 _ (List.mem_of_getElem? (i := 94) rfl), rfl⟩
theorem wm_242 : Cond.static yJ9_floorMod_7cf53 ∈ wG := List.mem_filter.mpr ⟨wT_3 _ (List.mem_of_getElem? (i := 95) rfl), rfl⟩
theorem wm_243 : Cond.initialized RJ9 ∈ wG := List.mem_filter.mpr ⟨wT_1 _ (List.mem_of_getElem? (i := 18) rfl), rfl⟩
theorem wm_244 : Cond.code yJ9_floorMod_7cf53 cJ9_floorMod_7cf53 3 (some .int) ∈ wG := List.mem_filter.mpr ⟨wT_3 _ (List.mem_of_getElem? (i := 96) rfl), rfl⟩
theorem wm_245 : Cond.fieldLink RX9 21 "WhereTheSpoonWent$Text" "used" "I" ∈ wG := List.mem_filter.mpr ⟨wT_1 _ (List.mem_of_getElem? (i := 200) rfl), rfl⟩
theorem wm_246 : Cond.fieldLink RX9 25 "WhereTheSpoonWent$Text" "parts" "I" ∈ wG := List.mem_filter.mpr ⟨wT_1 _ (List.mem_of_getElem? (i := 201) rfl), rfl⟩
theorem wm_247 : Cond.fieldLink RX9 9 "WhereTheSpoonWent$Text" "codes" "[I" ∈ wG := List.mem_filter.mpr ⟨wT_1 _ (List.mem_of_getElem? (i := 197) rfl), rfl⟩
theorem wm_248 : Cond.fieldLink RX9 15 "WhereTheSpoonWent$Text" "starts" "[I" ∈ wG := List.mem_filter.mpr ⟨wT_1 _ (List.mem_of_getElem? (i := 198) rfl), rfl⟩
theorem wm_249 : Cond.methodLink RX9 28 yX9_clear ∈ wG := List.mem_filter.mpr ⟨wT_1 _ (List.mem_of_getElem? (i := 217) rfl), rfl⟩
theorem wm_250 : Cond.methodLink RX9 31 yX9_add ∈ wG := List.mem_filter.mpr ⟨wT_1 _ (List.mem_of_getElem? (i := 221) rfl), rfl⟩
theorem wm_251 : Cond.methodLink RX9 35 yX9_endPart ∈ wG := List.mem_filter.mpr ⟨wT_1 _ (List.mem_of_getElem? (i := 225) rfl), rfl⟩
theorem wm_252 : Cond.fieldLink RX9 18 "WhereTheSpoonWent$Text" "stack" "[I" ∈ wG := List.mem_filter.mpr ⟨wT_1 _ (List.mem_of_getElem? (i := 199) rfl), rfl⟩
theorem wm_253 : Cond.methodLink RX9 38 yX9_leaf ∈ wG := List.mem_filter.mpr ⟨wT_3 _ (List.mem_of_getElem? (i := 2) rfl), rfl⟩
theorem wm_254 : Cond.static yX9_leaf ∈ wG := List.mem_filter.mpr ⟨wT_3 _ (List.mem_of_getElem? (i := 3) rfl), rfl⟩
theorem wm_255 : Cond.code yX9_leaf cX9_leaf 5 (some .int) ∈ wG := List.mem_filter.mpr ⟨wT_3 _ (List.mem_of_getElem? (i := 4) rfl), rfl⟩
theorem wm_256 : Cond.methodLink RX9 46 Lib.Math.min.name ∈ wG := List.mem_filter.mpr ⟨wT_3 _ (List.mem_of_getElem? (i := 8) rfl), rfl⟩
theorem wm_257 : Cond.static Lib.Math.min.name ∈ wG := List.mem_filter.mpr ⟨wT_3 _ (List.mem_of_getElem? (i := 9) rfl), rfl⟩
theorem wm_258 : Cond.code Lib.Math.min.name Lib.Math.min.code 2 (some .int) ∈ wG := List.mem_filter.mpr ⟨wT_3 _ (List.mem_of_getElem? (i := 10) rfl), rfl⟩
theorem wm_259 : Cond.methodLink RX9 52 Lib.Math.max.name ∈ wG := List.mem_filter.mpr ⟨wT_3 _ (List.mem_of_getElem? (i := 11) rfl), rfl⟩
theorem wm_260 : Cond.static Lib.Math.max.name ∈ wG := List.mem_filter.mpr ⟨wT_3 _ (List.mem_of_getElem? (i := 12) rfl), rfl⟩
theorem wm_261 : Cond.code Lib.Math.max.name Lib.Math.max.code 2 (some .int) ∈ wG := List.mem_filter.mpr ⟨wT_3 _ (List.mem_of_getElem? (i := 13) rfl), rfl⟩
theorem wm_262 : Cond.methodLink RX9 42 yX9_joined ∈ wG := List.mem_filter.mpr ⟨wT_3 _ (List.mem_of_getElem? (i := 5) rfl), rfl⟩
theorem wm_263 : Cond.static yX9_joined ∈ wG := List.mem_filter.mpr ⟨wT_3 _ (List.mem_of_getElem? (i := 6) rfl), rfl⟩
theorem wm_264 : Cond.code yX9_joined cX9_joined 3 (some .int) ∈ wG := List.mem_filter.mpr ⟨wT_3 _ (List.mem_of_getElem? (i := 7) rfl), rfl⟩
theorem wm_265 : Cond.methodLink RX11 97 yX11_isCell ∈ wG := List.mem_filter.mpr ⟨wT_2 _ (List.mem_of_getElem? (i := 54) rfl), rfl⟩
theorem wm_266 : Cond.methodLink RX11 101 yX11_isAnyThingIn ∈ wG := List.mem_filter.mpr ⟨wT_2 _ (List.mem_of_getElem? (i := 57) rfl), rfl⟩
theorem wm_267 : Cond.instanceMethod yX11_isAnyThingIn ∈ wG := List.mem_filter.mpr ⟨wT_2 _ (List.mem_of_getElem? (i := 59) rfl), rfl⟩
theorem wm_268 : Cond.selects RX11 yX11_isAnyThingIn yX11_isAnyThingIn ∈ wG := List.mem_filter.mpr ⟨List.mem_append_left _ (List.mem_of_getElem? (i := 0) rfl), rfl⟩
theorem wm_269 : Cond.code yX11_isAnyThingIn cX11_isAnyThingIn 3 (some .boolean) ∈ wG := List.mem_filter.mpr ⟨wT_2 _ (List.mem_of_getElem? (i := 60) rfl), rfl⟩
theorem wm_270 : Cond.static yX11_isCell ∈ wG := List.mem_filter.mpr ⟨wT_2 _ (List.mem_of_getElem? (i := 55) rfl), rfl⟩
theorem wm_271 : Cond.code yX11_isCell cX11_isCell 1 (some .boolean) ∈ wG := List.mem_filter.mpr ⟨wT_2 _ (List.mem_of_getElem? (i := 56) rfl), rfl⟩
theorem wm_272 : Cond.fieldLink RX11 12 "WhereTheSpoonWent" "now" "LWhereTheSpoonWent$House;" ∈ wG := List.mem_filter.mpr ⟨wT_2 _ (List.mem_of_getElem? (i := 7) rfl), rfl⟩
theorem wm_273 : Cond.methodLink RX11 104 yX3_bits ∈ wG := List.mem_filter.mpr ⟨wT_2 _ (List.mem_of_getElem? (i := 61) rfl), rfl⟩
theorem wm_274 : Cond.methodLink RX11 108 yX11_has ∈ wG := List.mem_filter.mpr ⟨wT_2 _ (List.mem_of_getElem? (i := 65) rfl), rfl⟩
theorem wm_275 : Cond.instanceMethod yX3_bits ∈ wG := List.mem_filter.mpr ⟨wT_2 _ (List.mem_of_getElem? (i := 62) rfl), rfl⟩
theorem wm_276 : Cond.selects RX3 yX3_bits yX3_bits ∈ wG := List.mem_filter.mpr ⟨wT_2 _ (List.mem_of_getElem? (i := 63) rfl), rfl⟩
theorem wm_277 : Cond.code yX3_bits cX3_bits 2 (some .int) ∈ wG := List.mem_filter.mpr ⟨wT_2 _ (List.mem_of_getElem? (i := 64) rfl), rfl⟩
theorem wm_278 : Cond.methodLink RX11 112 yX3_flip ∈ wG := List.mem_filter.mpr ⟨wT_2 _ (List.mem_of_getElem? (i := 68) rfl), rfl⟩
theorem wm_279 : Cond.instanceMethod yX3_flip ∈ wG := List.mem_filter.mpr ⟨wT_2 _ (List.mem_of_getElem? (i := 69) rfl), rfl⟩
theorem wm_280 : Cond.selects RX3 yX3_flip yX3_flip ∈ wG := List.mem_filter.mpr ⟨wT_2 _ (List.mem_of_getElem? (i := 70) rfl), rfl⟩
theorem wm_281 : Cond.code yX3_flip cX3_flip 3 none ∈ wG := List.mem_filter.mpr ⟨wT_2 _ (List.mem_of_getElem? (i := 71) rfl), rfl⟩
theorem wm_282 : Cond.methodLink RX11 116 yX11_isStep ∈ wG := List.mem_filter.mpr ⟨wT_2 _ (List.mem_of_getElem? (i := 76) rfl), rfl⟩
theorem wm_283 : Cond.fieldLink RX11 119 "WhereTheSpoonWent$House" "step" "I" ∈ wG := List.mem_filter.mpr ⟨wT_1 _ (List.mem_of_getElem? (i := 42) rfl), rfl⟩
theorem wm_284 : Cond.static yX11_isStep ∈ wG := List.mem_filter.mpr ⟨wT_2 _ (List.mem_of_getElem? (i := 77) rfl), rfl⟩
theorem wm_285 : Cond.code yX11_isStep cX11_isStep 1 (some .boolean) ∈ wG := List.mem_filter.mpr ⟨wT_2 _ (List.mem_of_getElem? (i := 78) rfl), rfl⟩
theorem wm_286 : Cond.fieldLink RX11 122 "WhereTheSpoonWent$House" "things" "I" ∈ wG := List.mem_filter.mpr ⟨wT_1 _ (List.mem_of_getElem? (i := 46) rfl), rfl⟩
theorem wm_287 : Cond.fieldLink RX11 125 "WhereTheSpoonWent$House" "walls" "I" ∈ wG := List.mem_filter.mpr ⟨wT_1 _ (List.mem_of_getElem? (i := 35) rfl), rfl⟩
theorem wm_288 : Cond.fieldLink RX11 128 "WhereTheSpoonWent$House" "nets" "I" ∈ wG := List.mem_filter.mpr ⟨wT_1 _ (List.mem_of_getElem? (i := 37) rfl), rfl⟩
theorem wm_289 : Cond.fieldLink RX11 131 "WhereTheSpoonWent$House" "fans" "I" ∈ wG := List.mem_filter.mpr ⟨wT_1 _ (List.mem_of_getElem? (i := 40) rfl), rfl⟩
theorem wm_290 : Cond.fieldLink RX11 92 "WhereTheSpoonWent" "textCount" "I" ∈ wG := List.mem_filter.mpr ⟨wT_2 _ (List.mem_of_getElem? (i := 12) rfl), rfl⟩
theorem wm_291 : Cond.fieldLink RX11 134 "WhereTheSpoonWent$House" "law" "I" ∈ wG := List.mem_filter.mpr ⟨wT_1 _ (List.mem_of_getElem? (i := 44) rfl), rfl⟩
theorem wm_292 : Cond.fieldLink RX11 34 "WhereTheSpoonWent" "reader" "LWhereTheSpoonWent$Reader;" ∈ wG := List.mem_filter.mpr ⟨wT_2 _ (List.mem_of_getElem? (i := 13) rfl), rfl⟩
theorem wm_293 : Cond.fieldLink RX11 137 "WhereTheSpoonWent$Reader" "size" "I" ∈ wG := List.mem_filter.mpr ⟨wT_1 _ (List.mem_of_getElem? (i := 89) rfl), rfl⟩
theorem wm_294 : Cond.methodLink RX11 140 yX11_isByte ∈ wG := List.mem_filter.mpr ⟨wT_2 _ (List.mem_of_getElem? (i := 87) rfl), rfl⟩
theorem wm_295 : Cond.static yX11_isByte ∈ wG := List.mem_filter.mpr ⟨wT_2 _ (List.mem_of_getElem? (i := 88) rfl), rfl⟩
theorem wm_296 : Cond.code yX11_isByte cX11_isByte 1 (some .boolean) ∈ wG := List.mem_filter.mpr ⟨wT_2 _ (List.mem_of_getElem? (i := 89) rfl), rfl⟩
theorem wm_297 : Cond.methodLink RX11 143 yX4_add ∈ wG := List.mem_filter.mpr ⟨wT_2 _ (List.mem_of_getElem? (i := 90) rfl), rfl⟩
theorem wm_298 : Cond.instanceMethod yX4_add ∈ wG := List.mem_filter.mpr ⟨wT_2 _ (List.mem_of_getElem? (i := 91) rfl), rfl⟩
theorem wm_299 : Cond.selects RX4 yX4_add yX4_add ∈ wG := List.mem_filter.mpr ⟨wT_2 _ (List.mem_of_getElem? (i := 92) rfl), rfl⟩
theorem wm_300 : Cond.code yX4_add cX4_add 2 none ∈ wG := List.mem_filter.mpr ⟨wT_2 _ (List.mem_of_getElem? (i := 93) rfl), rfl⟩
theorem wm_301 : Cond.fieldLink RX11 27 "WhereTheSpoonWent" "texts" "[LWhereTheSpoonWent$Text;" ∈ wG := List.mem_filter.mpr ⟨wT_2 _ (List.mem_of_getElem? (i := 11) rfl), rfl⟩
theorem wm_302 : Cond.methodLink RX11 147 yX4_read ∈ wG := List.mem_filter.mpr ⟨wT_2 _ (List.mem_of_getElem? (i := 98) rfl), rfl⟩
theorem wm_303 : Cond.instanceMethod yX4_read ∈ wG := List.mem_filter.mpr ⟨wT_2 _ (List.mem_of_getElem? (i := 99) rfl), rfl⟩
theorem wm_304 : Cond.selects RX4 yX4_read yX4_read ∈ wG := List.mem_filter.mpr ⟨wT_2 _ (List.mem_of_getElem? (i := 100) rfl), rfl⟩
theorem wm_305 : Cond.code yX4_read cX4_read 2 (some .int) ∈ wG := List.mem_filter.mpr ⟨wT_2 _ (List.mem_of_getElem? (i := 101) rfl), rfl⟩
theorem wm_306 : Cond.methodLink RX11 151 yX11_law ∈ wG := List.mem_filter.mpr ⟨wT_2 _ (List.mem_of_getElem? (i := 234) rfl), rfl⟩
theorem wm_307 : Cond.methodLink RX11 154 yX9_says ∈ wG := List.mem_filter.mpr ⟨wT_2 _ (List.mem_of_getElem? (i := 238) rfl), rfl⟩
theorem wm_308 : Cond.instanceMethod yX11_law ∈ wG := List.mem_filter.mpr ⟨wT_2 _ (List.mem_of_getElem? (i := 236) rfl), rfl⟩
theorem wm_309 : Cond.selects RX11 yX11_law yX11_law ∈ wG := List.mem_filter.mpr ⟨List.mem_append_left _ (List.mem_of_getElem? (i := 14) rfl), rfl⟩
theorem wm_310 : Cond.code yX11_law cX11_law 1 (some (.object "WhereTheSpoonWent$Text")) ∈ wG := List.mem_filter.mpr ⟨wT_2 _ (List.mem_of_getElem? (i := 237) rfl), rfl⟩
theorem wm_311 : Cond.methodLink RX11 158 yX11_isOpen ∈ wG := List.mem_filter.mpr ⟨wT_3 _ (List.mem_of_getElem? (i := 18) rfl), rfl⟩
theorem wm_312 : Cond.methodLink RX11 161 yX11_isWay ∈ wG := List.mem_filter.mpr ⟨wT_3 _ (List.mem_of_getElem? (i := 22) rfl), rfl⟩
theorem wm_313 : Cond.fieldLink RX11 164 "WhereTheSpoonWent$House" "kinds" "[I" ∈ wG := List.mem_filter.mpr ⟨wT_1 _ (List.mem_of_getElem? (i := 48) rfl), rfl⟩
theorem wm_314 : Cond.fieldLink RX11 166 "WhereTheSpoonWent$House" "mores" "[I" ∈ wG := List.mem_filter.mpr ⟨wT_1 _ (List.mem_of_getElem? (i := 50) rfl), rfl⟩
theorem wm_315 : Cond.fieldLink RX11 169 "WhereTheSpoonWent$House" "cells" "[I" ∈ wG := List.mem_filter.mpr ⟨wT_1 _ (List.mem_of_getElem? (i := 52) rfl), rfl⟩
theorem wm_316 : Cond.fieldLink RX11 172 "WhereTheSpoonWent$House" "ways" "[I" ∈ wG := List.mem_filter.mpr ⟨wT_1 _ (List.mem_of_getElem? (i := 54) rfl), rfl⟩
theorem wm_317 : Cond.static yX11_isWay ∈ wG := List.mem_filter.mpr ⟨wT_3 _ (List.mem_of_getElem? (i := 23) rfl), rfl⟩
theorem wm_318 : Cond.code yX11_isWay cX11_isWay 1 (some .boolean) ∈ wG := List.mem_filter.mpr ⟨wT_3 _ (List.mem_of_getElem? (i := 24) rfl), rfl⟩
theorem wm_319 : Cond.instanceMethod yX11_isOpen ∈ wG := List.mem_filter.mpr ⟨wT_3 _ (List.mem_of_getElem? (i := 20) rfl), rfl⟩
theorem wm_320 : Cond.selects RX11 yX11_isOpen yX11_isOpen ∈ wG := List.mem_filter.mpr ⟨List.mem_append_left _ (List.mem_of_getElem? (i := 15) rfl), rfl⟩
theorem wm_321 : Cond.code yX11_isOpen cX11_isOpen 2 (some .boolean) ∈ wG := List.mem_filter.mpr ⟨wT_3 _ (List.mem_of_getElem? (i := 21) rfl), rfl⟩
theorem wm_322 : Cond.methodLink RX11 175 yX11_isThing ∈ wG := List.mem_filter.mpr ⟨wT_3 _ (List.mem_of_getElem? (i := 29) rfl), rfl⟩
theorem wm_323 : Cond.instanceMethod yX11_isThing ∈ wG := List.mem_filter.mpr ⟨wT_3 _ (List.mem_of_getElem? (i := 31) rfl), rfl⟩
theorem wm_324 : Cond.selects RX11 yX11_isThing yX11_isThing ∈ wG := List.mem_filter.mpr ⟨List.mem_append_left _ (List.mem_of_getElem? (i := 16) rfl), rfl⟩
theorem wm_325 : Cond.code yX11_isThing cX11_isThing 2 (some .boolean) ∈ wG := List.mem_filter.mpr ⟨wT_3 _ (List.mem_of_getElem? (i := 32) rfl), rfl⟩
theorem wm_326 : Cond.methodLink RX11 178 yX11_isBehind ∈ wG := List.mem_filter.mpr ⟨wT_3 _ (List.mem_of_getElem? (i := 41) rfl), rfl⟩
theorem wm_327 : Cond.methodLink RX11 181 yX11_isChoice ∈ wG := List.mem_filter.mpr ⟨wT_3 _ (List.mem_of_getElem? (i := 44) rfl), rfl⟩
theorem wm_328 : Cond.methodLink RX11 184 yX11_behind ∈ wG := List.mem_filter.mpr ⟨wT_3 _ (List.mem_of_getElem? (i := 47) rfl), rfl⟩
theorem wm_329 : Cond.fieldLink RX11 191 "WhereTheSpoonWent$Flight" "way" "I" ∈ wG := List.mem_filter.mpr ⟨wT_1 _ (List.mem_of_getElem? (i := 133) rfl), rfl⟩
theorem wm_330 : Cond.fieldLink RX11 188 "WhereTheSpoonWent$Flight" "cell" "I" ∈ wG := List.mem_filter.mpr ⟨wT_1 _ (List.mem_of_getElem? (i := 131) rfl), rfl⟩
theorem wm_331 : Cond.instanceMethod yX11_behind ∈ wG := List.mem_filter.mpr ⟨wT_3 _ (List.mem_of_getElem? (i := 49) rfl), rfl⟩
theorem wm_332 : Cond.selects RX11 yX11_behind yX11_behind ∈ wG := List.mem_filter.mpr ⟨List.mem_append_left _ (List.mem_of_getElem? (i := 17) rfl), rfl⟩
theorem wm_333 : Cond.code yX11_behind cX11_behind 4 (some (.object "WhereTheSpoonWent$Flight")) ∈ wG := List.mem_filter.mpr ⟨wT_3 _ (List.mem_of_getElem? (i := 50) rfl), rfl⟩
theorem wm_334 : Cond.static yX11_isChoice ∈ wG := List.mem_filter.mpr ⟨wT_3 _ (List.mem_of_getElem? (i := 45) rfl), rfl⟩
theorem wm_335 : Cond.code yX11_isChoice cX11_isChoice 1 (some .boolean) ∈ wG := List.mem_filter.mpr ⟨wT_3 _ (List.mem_of_getElem? (i := 46) rfl), rfl⟩
theorem wm_336 : Cond.static yX11_isBehind ∈ wG := List.mem_filter.mpr ⟨wT_3 _ (List.mem_of_getElem? (i := 42) rfl), rfl⟩
theorem wm_337 : Cond.code yX11_isBehind cX11_isBehind 1 (some .boolean) ∈ wG := List.mem_filter.mpr ⟨wT_3 _ (List.mem_of_getElem? (i := 43) rfl), rfl⟩
theorem wm_338 : Cond.methodLink RX11 194 Lib.Math.min.name ∈ wG := List.mem_filter.mpr ⟨wT_3 _ (List.mem_of_getElem? (i := 121) rfl), rfl⟩
theorem wm_339 : Cond.methodLink RX11 200 yX11_lift ∈ wG := List.mem_filter.mpr ⟨wT_3 _ (List.mem_of_getElem? (i := 51) rfl), rfl⟩
theorem wm_340 : Cond.methodLink RX11 204 yX11_follow ∈ wG := List.mem_filter.mpr ⟨wT_3 _ (List.mem_of_getElem? (i := 126) rfl), rfl⟩
theorem wm_341 : Cond.methodLink RX11 208 yX11_firstIn ∈ wG := List.mem_filter.mpr ⟨wT_3 _ (List.mem_of_getElem? (i := 138) rfl), rfl⟩
theorem wm_342 : Cond.instanceMethod yX11_firstIn ∈ wG := List.mem_filter.mpr ⟨wT_3 _ (List.mem_of_getElem? (i := 140) rfl), rfl⟩
theorem wm_343 : Cond.selects RX11 yX11_firstIn yX11_firstIn ∈ wG := List.mem_filter.mpr ⟨List.mem_append_left _ (List.mem_of_getElem? (i := 21) rfl), rfl⟩
theorem wm_344 : Cond.code yX11_firstIn cX11_firstIn 3 (some .int) ∈ wG := List.mem_filter.mpr ⟨wT_3 _ (List.mem_of_getElem? (i := 141) rfl), rfl⟩
theorem wm_345 : Cond.instanceMethod yX11_follow ∈ wG := List.mem_filter.mpr ⟨wT_3 _ (List.mem_of_getElem? (i := 128) rfl), rfl⟩
theorem wm_346 : Cond.selects RX11 yX11_follow yX11_follow ∈ wG := List.mem_filter.mpr ⟨List.mem_append_left _ (List.mem_of_getElem? (i := 19) rfl), rfl⟩
theorem wm_347 : Cond.code yX11_follow cX11_follow 2 none ∈ wG := List.mem_filter.mpr ⟨wT_3 _ (List.mem_of_getElem? (i := 129) rfl), rfl⟩
theorem wm_348 : Cond.instanceMethod yX11_lift ∈ wG := List.mem_filter.mpr ⟨wT_3 _ (List.mem_of_getElem? (i := 53) rfl), rfl⟩
theorem wm_349 : Cond.selects RX11 yX11_lift yX11_lift ∈ wG := List.mem_filter.mpr ⟨List.mem_append_left _ (List.mem_of_getElem? (i := 18) rfl), rfl⟩
theorem wm_350 : Cond.code yX11_lift cX11_lift 2 (some (.object "WhereTheSpoonWent$Flight")) ∈ wG := List.mem_filter.mpr ⟨wT_3 _ (List.mem_of_getElem? (i := 54) rfl), rfl⟩
theorem wm_351 : Cond.fieldLink RX11 53 "WhereTheSpoonWent" "path" "[I" ∈ wG := List.mem_filter.mpr ⟨wT_2 _ (List.mem_of_getElem? (i := 16) rfl), rfl⟩
theorem wm_352 : Cond.methodLink RX11 211 yX1_pass ∈ wG := List.mem_filter.mpr ⟨wT_3 _ (List.mem_of_getElem? (i := 137) rfl), rfl⟩
theorem wm_353 : Cond.methodLink RX11 214 yX11_measure ∈ wG := List.mem_filter.mpr ⟨wT_3 _ (List.mem_of_getElem? (i := 154) rfl), rfl⟩
theorem wm_354 : Cond.methodLink RX11 217 yX11_soonest ∈ wG := List.mem_filter.mpr ⟨wT_3 _ (List.mem_of_getElem? (i := 159) rfl), rfl⟩
theorem wm_355 : Cond.instanceMethod yX11_soonest ∈ wG := List.mem_filter.mpr ⟨wT_3 _ (List.mem_of_getElem? (i := 161) rfl), rfl⟩
theorem wm_356 : Cond.selects RX11 yX11_soonest yX11_soonest ∈ wG := List.mem_filter.mpr ⟨List.mem_append_left _ (List.mem_of_getElem? (i := 23) rfl), rfl⟩
theorem wm_357 : Cond.code yX11_soonest cX11_soonest 6 (some .int) ∈ wG := List.mem_filter.mpr ⟨wT_3 _ (List.mem_of_getElem? (i := 162) rfl), rfl⟩
theorem wm_358 : Cond.instanceMethod yX11_measure ∈ wG := List.mem_filter.mpr ⟨wT_3 _ (List.mem_of_getElem? (i := 156) rfl), rfl⟩
theorem wm_359 : Cond.selects RX11 yX11_measure yX11_measure ∈ wG := List.mem_filter.mpr ⟨List.mem_append_left _ (List.mem_of_getElem? (i := 22) rfl), rfl⟩
theorem wm_360 : Cond.code yX11_measure cX11_measure 6 none ∈ wG := List.mem_filter.mpr ⟨wT_3 _ (List.mem_of_getElem? (i := 157) rfl), rfl⟩
theorem wm_361 : Cond.methodLink RX11 220 yX11_says ∈ wG := List.mem_filter.mpr ⟨wT_3 _ (List.mem_of_getElem? (i := 163) rfl), rfl⟩
theorem wm_362 : Cond.instanceMethod yX11_says ∈ wG := List.mem_filter.mpr ⟨wT_3 _ (List.mem_of_getElem? (i := 165) rfl), rfl⟩
theorem wm_363 : Cond.selects RX11 yX11_says yX11_says ∈ wG := List.mem_filter.mpr ⟨List.mem_append_left _ (List.mem_of_getElem? (i := 24) rfl), rfl⟩
theorem wm_364 : Cond.code yX11_says cX11_says 4 (some .int) ∈ wG := List.mem_filter.mpr ⟨wT_3 _ (List.mem_of_getElem? (i := 166) rfl), rfl⟩
theorem wm_365 : Cond.methodLink RX11 223 yX11_letGo ∈ wG := List.mem_filter.mpr ⟨wT_3 _ (List.mem_of_getElem? (i := 179) rfl), rfl⟩
theorem wm_366 : Cond.instanceMethod yX11_letGo ∈ wG := List.mem_filter.mpr ⟨wT_3 _ (List.mem_of_getElem? (i := 181) rfl), rfl⟩
theorem wm_367 : Cond.selects RX11 yX11_letGo yX11_letGo ∈ wG := List.mem_filter.mpr ⟨List.mem_append_left _ (List.mem_of_getElem? (i := 25) rfl), rfl⟩
theorem wm_368 : Cond.code yX11_letGo cX11_letGo 4 (some (.object "WhereTheSpoonWent$Flight")) ∈ wG := List.mem_filter.mpr ⟨wT_3 _ (List.mem_of_getElem? (i := 182) rfl), rfl⟩
theorem wm_369 : Cond.methodLink RX11 226 yX11_turned ∈ wG := List.mem_filter.mpr ⟨wT_3 _ (List.mem_of_getElem? (i := 134) rfl), rfl⟩
theorem wm_370 : Cond.static yX11_turned ∈ wG := List.mem_filter.mpr ⟨wT_3 _ (List.mem_of_getElem? (i := 135) rfl), rfl⟩
theorem wm_371 : Cond.code yX11_turned cX11_turned 1 (some .int) ∈ wG := List.mem_filter.mpr ⟨wT_3 _ (List.mem_of_getElem? (i := 136) rfl), rfl⟩
theorem wm_372 : Cond.methodLink RX11 229 yX11_followTurned ∈ wG := List.mem_filter.mpr ⟨wT_3 _ (List.mem_of_getElem? (i := 130) rfl), rfl⟩
theorem wm_373 : Cond.instanceMethod yX11_followTurned ∈ wG := List.mem_filter.mpr ⟨wT_3 _ (List.mem_of_getElem? (i := 132) rfl), rfl⟩
theorem wm_374 : Cond.selects RX11 yX11_followTurned yX11_followTurned ∈ wG := List.mem_filter.mpr ⟨List.mem_append_left _ (List.mem_of_getElem? (i := 20) rfl), rfl⟩
theorem wm_375 : Cond.code yX11_followTurned cX11_followTurned 4 none ∈ wG := List.mem_filter.mpr ⟨wT_3 _ (List.mem_of_getElem? (i := 133) rfl), rfl⟩
theorem wm_376 : Cond.methodLink RX11 233 yX11_caught ∈ wG := List.mem_filter.mpr ⟨wT_3 _ (List.mem_of_getElem? (i := 195) rfl), rfl⟩
theorem wm_377 : Cond.instanceMethod yX11_caught ∈ wG := List.mem_filter.mpr ⟨wT_3 _ (List.mem_of_getElem? (i := 197) rfl), rfl⟩
theorem wm_378 : Cond.selects RX11 yX11_caught yX11_caught ∈ wG := List.mem_filter.mpr ⟨List.mem_append_left _ (List.mem_of_getElem? (i := 26) rfl), rfl⟩
theorem wm_379 : Cond.code yX11_caught cX11_caught 6 (some .int) ∈ wG := List.mem_filter.mpr ⟨wT_3 _ (List.mem_of_getElem? (i := 198) rfl), rfl⟩
theorem wm_380 : Cond.methodLink RX11 236 yX11_endOf ∈ wG := List.mem_filter.mpr ⟨wT_3 _ (List.mem_of_getElem? (i := 203) rfl), rfl⟩
theorem wm_381 : Cond.instanceMethod yX11_endOf ∈ wG := List.mem_filter.mpr ⟨wT_3 _ (List.mem_of_getElem? (i := 205) rfl), rfl⟩
theorem wm_382 : Cond.selects RX11 yX11_endOf yX11_endOf ∈ wG := List.mem_filter.mpr ⟨List.mem_append_left _ (List.mem_of_getElem? (i := 27) rfl), rfl⟩
theorem wm_383 : Cond.code yX11_endOf cX11_endOf 5 (some .int) ∈ wG := List.mem_filter.mpr ⟨wT_3 _ (List.mem_of_getElem? (i := 206) rfl), rfl⟩
theorem wm_384 : Cond.methodLink RX11 239 yX11_tallyEnds ∈ wG := List.mem_filter.mpr ⟨wT_3 _ (List.mem_of_getElem? (i := 211) rfl), rfl⟩
theorem wm_385 : Cond.instanceMethod yX11_tallyEnds ∈ wG := List.mem_filter.mpr ⟨wT_3 _ (List.mem_of_getElem? (i := 213) rfl), rfl⟩
theorem wm_386 : Cond.selects RX11 yX11_tallyEnds yX11_tallyEnds ∈ wG := List.mem_filter.mpr ⟨List.mem_append_left _ (List.mem_of_getElem? (i := 28) rfl), rfl⟩
theorem wm_387 : Cond.code yX11_tallyEnds cX11_tallyEnds 4 none ∈ wG := List.mem_filter.mpr ⟨wT_3 _ (List.mem_of_getElem? (i := 214) rfl), rfl⟩
theorem wm_388 : Cond.fieldLink RX11 66 "WhereTheSpoonWent" "tally" "[I" ∈ wG := List.mem_filter.mpr ⟨wT_2 _ (List.mem_of_getElem? (i := 20) rfl), rfl⟩
theorem wm_389 : Cond.constantLong RX11 242 (-4611686018427387904) ∈ wG := List.mem_filter.mpr ⟨wT_3 _ (List.mem_of_getElem? (i := 223) rfl), rfl⟩
theorem wm_390 : Cond.methodLink RX11 247 yX11_fraction ∈ wG := List.mem_filter.mpr ⟨wT_3 _ (List.mem_of_getElem? (i := 228) rfl), rfl⟩
theorem wm_391 : Cond.static yX11_fraction ∈ wG := List.mem_filter.mpr ⟨wT_3 _ (List.mem_of_getElem? (i := 229) rfl), rfl⟩
theorem wm_392 : Cond.code yX11_fraction cX11_fraction 7 (some .long) ∈ wG := List.mem_filter.mpr ⟨wT_3 _ (List.mem_of_getElem? (i := 230) rfl), rfl⟩
theorem wm_393 : Cond.methodLink RX11 244 yX11_countAhead ∈ wG := List.mem_filter.mpr ⟨wT_3 _ (List.mem_of_getElem? (i := 224) rfl), rfl⟩
theorem wm_394 : Cond.instanceMethod yX11_countAhead ∈ wG := List.mem_filter.mpr ⟨wT_3 _ (List.mem_of_getElem? (i := 226) rfl), rfl⟩
theorem wm_395 : Cond.selects RX11 yX11_countAhead yX11_countAhead ∈ wG := List.mem_filter.mpr ⟨List.mem_append_left _ (List.mem_of_getElem? (i := 29) rfl), rfl⟩
theorem wm_396 : Cond.code yX11_countAhead cX11_countAhead 4 (some .int) ∈ wG := List.mem_filter.mpr ⟨wT_3 _ (List.mem_of_getElem? (i := 227) rfl), rfl⟩
theorem wm_397 : Cond.methodLink RX11 251 yX11_refusalOfPlaces ∈ wG := List.mem_filter.mpr ⟨wT_3 _ (List.mem_of_getElem? (i := 235) rfl), rfl⟩
theorem wm_398 : Cond.methodLink RX11 254 yX11_firstElsewhere ∈ wG := List.mem_filter.mpr ⟨wT_4 _ (List.mem_of_getElem? (i := 2) rfl), rfl⟩
theorem wm_399 : Cond.instanceMethod yX11_firstElsewhere ∈ wG := List.mem_filter.mpr ⟨wT_4 _ (List.mem_of_getElem? (i := 4) rfl), rfl⟩
theorem wm_400 : Cond.selects RX11 yX11_firstElsewhere yX11_firstElsewhere ∈ wG := List.mem_filter.mpr ⟨List.mem_append_left _ (List.mem_of_getElem? (i := 31) rfl), rfl⟩
theorem wm_401 : Cond.code yX11_firstElsewhere cX11_firstElsewhere 6 (some .int) ∈ wG := List.mem_filter.mpr ⟨wT_4 _ (List.mem_of_getElem? (i := 5) rfl), rfl⟩
theorem wm_402 : Cond.instanceMethod yX11_refusalOfPlaces ∈ wG := List.mem_filter.mpr ⟨wT_3 _ (List.mem_of_getElem? (i := 237) rfl), rfl⟩
theorem wm_403 : Cond.selects RX11 yX11_refusalOfPlaces yX11_refusalOfPlaces ∈ wG := List.mem_filter.mpr ⟨List.mem_append_left _ (List.mem_of_getElem? (i := 30) rfl), rfl⟩
theorem wm_404 : Cond.code yX11_refusalOfPlaces cX11_refusalOfPlaces 2 (some .int) ∈ wG := List.mem_filter.mpr ⟨wT_3 _ (List.mem_of_getElem? (i := 238) rfl), rfl⟩
theorem wm_405 : Cond.constantLong RX11 258 (2199023255551) ∈ wG := List.mem_filter.mpr ⟨wT_4 _ (List.mem_of_getElem? (i := 10) rfl), rfl⟩
theorem wm_406 : Cond.fieldLink RX11 40 "WhereTheSpoonWent" "sheets" "[LWhereTheSpoonWent$Sheet;" ∈ wG := List.mem_filter.mpr ⟨wT_2 _ (List.mem_of_getElem? (i := 14) rfl), rfl⟩
theorem wm_407 : Cond.fieldLink RX11 260 "WhereTheSpoonWent$Sheet" "numbers" "[I" ∈ wG := List.mem_filter.mpr ⟨wT_1 _ (List.mem_of_getElem? (i := 235) rfl), rfl⟩
theorem wm_408 : Cond.constantLong RX11 263 (-1) ∈ wG := List.mem_filter.mpr ⟨wT_4 _ (List.mem_of_getElem? (i := 11) rfl), rfl⟩
theorem wm_409 : Cond.methodLink RX11 265 yX11_isSheet ∈ wG := List.mem_filter.mpr ⟨wT_3 _ (List.mem_of_getElem? (i := 239) rfl), rfl⟩
theorem wm_410 : Cond.methodLink RX11 268 yX6_become ∈ wG := List.mem_filter.mpr ⟨wT_4 _ (List.mem_of_getElem? (i := 20) rfl), rfl⟩
theorem wm_411 : Cond.instanceMethod yX6_become ∈ wG := List.mem_filter.mpr ⟨wT_4 _ (List.mem_of_getElem? (i := 21) rfl), rfl⟩
theorem wm_412 : Cond.selects RX6 yX6_become yX6_become ∈ wG := List.mem_filter.mpr ⟨wT_4 _ (List.mem_of_getElem? (i := 22) rfl), rfl⟩
theorem wm_413 : Cond.initialized RX6 ∈ wG := List.mem_filter.mpr ⟨wT_1 _ (List.mem_of_getElem? (i := 12) rfl), rfl⟩
theorem wm_414 : Cond.code yX6_become cX6_become 4 none ∈ wG := List.mem_filter.mpr ⟨wT_4 _ (List.mem_of_getElem? (i := 23) rfl), rfl⟩
theorem wm_415 : Cond.static yX11_isSheet ∈ wG := List.mem_filter.mpr ⟨wT_4 _ (List.mem_of_getElem? (i := 0) rfl), rfl⟩
theorem wm_416 : Cond.code yX11_isSheet cX11_isSheet 1 (some .boolean) ∈ wG := List.mem_filter.mpr ⟨wT_4 _ (List.mem_of_getElem? (i := 1) rfl), rfl⟩
theorem wm_417 : Cond.methodLink RX11 271 yX11_isSeed ∈ wG := List.mem_filter.mpr ⟨wT_4 _ (List.mem_of_getElem? (i := 28) rfl), rfl⟩
theorem wm_418 : Cond.methodLink RX11 274 yX11_listEnds ∈ wG := List.mem_filter.mpr ⟨wT_4 _ (List.mem_of_getElem? (i := 32) rfl), rfl⟩
theorem wm_419 : Cond.methodLink RX11 277 yX11_countDrawn ∈ wG := List.mem_filter.mpr ⟨wT_4 _ (List.mem_of_getElem? (i := 36) rfl), rfl⟩
theorem wm_420 : Cond.instanceMethod yX11_countDrawn ∈ wG := List.mem_filter.mpr ⟨wT_4 _ (List.mem_of_getElem? (i := 38) rfl), rfl⟩
theorem wm_421 : Cond.selects RX11 yX11_countDrawn yX11_countDrawn ∈ wG := List.mem_filter.mpr ⟨List.mem_append_left _ (List.mem_of_getElem? (i := 33) rfl), rfl⟩
theorem wm_422 : Cond.code yX11_countDrawn cX11_countDrawn 8 (some .int) ∈ wG := List.mem_filter.mpr ⟨wT_4 _ (List.mem_of_getElem? (i := 39) rfl), rfl⟩
theorem wm_423 : Cond.instanceMethod yX11_listEnds ∈ wG := List.mem_filter.mpr ⟨wT_4 _ (List.mem_of_getElem? (i := 34) rfl), rfl⟩
theorem wm_424 : Cond.selects RX11 yX11_listEnds yX11_listEnds ∈ wG := List.mem_filter.mpr ⟨List.mem_append_left _ (List.mem_of_getElem? (i := 32) rfl), rfl⟩
theorem wm_425 : Cond.code yX11_listEnds cX11_listEnds 4 none ∈ wG := List.mem_filter.mpr ⟨wT_4 _ (List.mem_of_getElem? (i := 35) rfl), rfl⟩
theorem wm_426 : Cond.static yX11_isSeed ∈ wG := List.mem_filter.mpr ⟨wT_4 _ (List.mem_of_getElem? (i := 29) rfl), rfl⟩
theorem wm_427 : Cond.code yX11_isSeed cX11_isSeed 1 (some .boolean) ∈ wG := List.mem_filter.mpr ⟨wT_4 _ (List.mem_of_getElem? (i := 30) rfl), rfl⟩
theorem wm_428 : Cond.fieldLink RX11 16 "WhereTheSpoonWent" "kept" "LWhereTheSpoonWent$House;" ∈ wG := List.mem_filter.mpr ⟨wT_2 _ (List.mem_of_getElem? (i := 8) rfl), rfl⟩
theorem wm_429 : Cond.methodLink RX11 280 yX3_become ∈ wG := List.mem_filter.mpr ⟨wT_4 _ (List.mem_of_getElem? (i := 51) rfl), rfl⟩
theorem wm_430 : Cond.fieldLink RX11 282 "WhereTheSpoonWent" "isKept" "Z" ∈ wG := List.mem_filter.mpr ⟨wT_2 _ (List.mem_of_getElem? (i := 9) rfl), rfl⟩
theorem wm_431 : Cond.instanceMethod yX3_become ∈ wG := List.mem_filter.mpr ⟨wT_4 _ (List.mem_of_getElem? (i := 52) rfl), rfl⟩
theorem wm_432 : Cond.selects RX3 yX3_become yX3_become ∈ wG := List.mem_filter.mpr ⟨wT_4 _ (List.mem_of_getElem? (i := 53) rfl), rfl⟩
theorem wm_433 : Cond.code yX3_become cX3_become 2 none ∈ wG := List.mem_filter.mpr ⟨wT_4 _ (List.mem_of_getElem? (i := 54) rfl), rfl⟩
theorem wm_434 : Cond.fieldLink RX11 286 "WhereTheSpoonWent$Sheet" "sort" "I" ∈ wG := List.mem_filter.mpr ⟨wT_1 _ (List.mem_of_getElem? (i := 237) rfl), rfl⟩
theorem wm_435 : Cond.methodLink RX11 289 yX6_holds ∈ wG := List.mem_filter.mpr ⟨wT_4 _ (List.mem_of_getElem? (i := 70) rfl), rfl⟩
theorem wm_436 : Cond.methodLink RX11 292 yX6_write ∈ wG := List.mem_filter.mpr ⟨wT_4 _ (List.mem_of_getElem? (i := 74) rfl), rfl⟩
theorem wm_437 : Cond.instanceMethod yX6_write ∈ wG := List.mem_filter.mpr ⟨wT_4 _ (List.mem_of_getElem? (i := 75) rfl), rfl⟩
theorem wm_438 : Cond.selects RX6 yX6_write yX6_write ∈ wG := List.mem_filter.mpr ⟨wT_4 _ (List.mem_of_getElem? (i := 76) rfl), rfl⟩
theorem wm_439 : Cond.code yX6_write cX6_write 3 none ∈ wG := List.mem_filter.mpr ⟨wT_4 _ (List.mem_of_getElem? (i := 77) rfl), rfl⟩
theorem wm_440 : Cond.instanceMethod yX6_holds ∈ wG := List.mem_filter.mpr ⟨wT_4 _ (List.mem_of_getElem? (i := 71) rfl), rfl⟩
theorem wm_441 : Cond.selects RX6 yX6_holds yX6_holds ∈ wG := List.mem_filter.mpr ⟨wT_4 _ (List.mem_of_getElem? (i := 72) rfl), rfl⟩
theorem wm_442 : Cond.code yX6_holds cX6_holds 3 (some .boolean) ∈ wG := List.mem_filter.mpr ⟨wT_4 _ (List.mem_of_getElem? (i := 73) rfl), rfl⟩
theorem wm_443 : Cond.methodLink RX11 295 arraycopyName ∈ wG := List.mem_filter.mpr ⟨wT_4 _ (List.mem_of_getElem? (i := 82) rfl), rfl⟩
theorem wm_444 : Cond.methodLink RX11 301 yX11_thing ∈ wG := List.mem_filter.mpr ⟨wT_4 _ (List.mem_of_getElem? (i := 87) rfl), rfl⟩
theorem wm_445 : Cond.instanceMethod yX11_thing ∈ wG := List.mem_filter.mpr ⟨wT_3 _ (List.mem_of_getElem? (i := 15) rfl), rfl⟩
theorem wm_446 : Cond.selects RX11 yX11_thing yX11_thing ∈ wG := List.mem_filter.mpr ⟨wT_3 _ (List.mem_of_getElem? (i := 16) rfl), rfl⟩
theorem wm_447 : Cond.code yX11_thing cX11_thing 5 (some .int) ∈ wG := List.mem_filter.mpr ⟨wT_3 _ (List.mem_of_getElem? (i := 17) rfl), rfl⟩
theorem wm_448 : Cond.methodLink RX11 307 yX11_takenThing ∈ wG := List.mem_filter.mpr ⟨wT_4 _ (List.mem_of_getElem? (i := 96) rfl), rfl⟩
theorem wm_449 : Cond.instanceMethod yX11_takenThing ∈ wG := List.mem_filter.mpr ⟨wT_4 _ (List.mem_of_getElem? (i := 98) rfl), rfl⟩
theorem wm_450 : Cond.selects RX11 yX11_takenThing yX11_takenThing ∈ wG := List.mem_filter.mpr ⟨List.mem_append_left _ (List.mem_of_getElem? (i := 35) rfl), rfl⟩
theorem wm_451 : Cond.code yX11_takenThing cX11_takenThing 3 (some .int) ∈ wG := List.mem_filter.mpr ⟨wT_4 _ (List.mem_of_getElem? (i := 99) rfl), rfl⟩
theorem wm_452 : Cond.methodLink RX11 304 yX11_takenCell ∈ wG := List.mem_filter.mpr ⟨wT_4 _ (List.mem_of_getElem? (i := 92) rfl), rfl⟩
theorem wm_453 : Cond.instanceMethod yX11_takenCell ∈ wG := List.mem_filter.mpr ⟨wT_4 _ (List.mem_of_getElem? (i := 94) rfl), rfl⟩
theorem wm_454 : Cond.selects RX11 yX11_takenCell yX11_takenCell ∈ wG := List.mem_filter.mpr ⟨List.mem_append_left _ (List.mem_of_getElem? (i := 34) rfl), rfl⟩
theorem wm_455 : Cond.code yX11_takenCell cX11_takenCell 3 (some .int) ∈ wG := List.mem_filter.mpr ⟨wT_4 _ (List.mem_of_getElem? (i := 95) rfl), rfl⟩
theorem wm_456 : Cond.constant RX11 310 (99999) ∈ wG := List.mem_filter.mpr ⟨wT_4 _ (List.mem_of_getElem? (i := 31) rfl), rfl⟩
theorem wm_457 : Cond.fieldLink RX11 49 "WhereTheSpoonWent" "flight" "LWhereTheSpoonWent$Flight;" ∈ wG := List.mem_filter.mpr ⟨wT_2 _ (List.mem_of_getElem? (i := 15) rfl), rfl⟩
theorem wm_458 : Cond.fieldLink RX11 311 "WhereTheSpoonWent$Flight" "law" "LWhereTheSpoonWent$Text;" ∈ wG := List.mem_filter.mpr ⟨wT_1 _ (List.mem_of_getElem? (i := 121) rfl), rfl⟩
theorem wm_459 : Cond.fieldLink RX11 314 "WhereTheSpoonWent$Flight" "nets" "I" ∈ wG := List.mem_filter.mpr ⟨wT_1 _ (List.mem_of_getElem? (i := 125) rfl), rfl⟩
theorem wm_460 : Cond.fieldLink RX11 315 "WhereTheSpoonWent$Flight" "number" "I" ∈ wG := List.mem_filter.mpr ⟨wT_1 _ (List.mem_of_getElem? (i := 127) rfl), rfl⟩
theorem wm_461 : Cond.fieldLink RX11 21 "WhereTheSpoonWent" "kinds" "[LWhereTheSpoonWent$Thing;" ∈ wG := List.mem_filter.mpr ⟨wT_2 _ (List.mem_of_getElem? (i := 10) rfl), rfl⟩
theorem wm_462 : Cond.fieldLink RX11 318 "WhereTheSpoonWent$Flight" "kind" "LWhereTheSpoonWent$Thing;" ∈ wG := List.mem_filter.mpr ⟨wT_1 _ (List.mem_of_getElem? (i := 123) rfl), rfl⟩
theorem wm_463 : Cond.fieldLink RX11 322 "WhereTheSpoonWent$Flight" "more" "I" ∈ wG := List.mem_filter.mpr ⟨wT_1 _ (List.mem_of_getElem? (i := 129) rfl), rfl⟩
theorem wm_464 : Cond.methodLink RX11 325 yX1_passAll ∈ wG := List.mem_filter.mpr ⟨wT_3 _ (List.mem_of_getElem? (i := 55) rfl), rfl⟩
theorem wm_465 : Cond.instanceMethod yX1_passAll ∈ wG := List.mem_filter.mpr ⟨wT_3 _ (List.mem_of_getElem? (i := 56) rfl), rfl⟩
theorem wm_466 : Cond.selects RX1 yX1_passAll yX1_passAll ∈ wG := List.mem_filter.mpr ⟨wT_3 _ (List.mem_of_getElem? (i := 57) rfl), rfl⟩
theorem wm_467 : Cond.code yX1_passAll cX1_passAll 4 none ∈ wG := List.mem_filter.mpr ⟨wT_3 _ (List.mem_of_getElem? (i := 58) rfl), rfl⟩
theorem wm_468 : Cond.fieldLink RX11 57 "WhereTheSpoonWent" "far" "[I" ∈ wG := List.mem_filter.mpr ⟨wT_2 _ (List.mem_of_getElem? (i := 17) rfl), rfl⟩
theorem wm_469 : Cond.fieldLink RX11 60 "WhereTheSpoonWent" "queue" "[I" ∈ wG := List.mem_filter.mpr ⟨wT_2 _ (List.mem_of_getElem? (i := 18) rfl), rfl⟩
theorem wm_470 : Cond.methodLink RX11 328 yX3_beyond ∈ wG := List.mem_filter.mpr ⟨wT_3 _ (List.mem_of_getElem? (i := 158) rfl), rfl⟩
theorem wm_471 : Cond.fieldLink RX11 331 "WhereTheSpoonWent$Sheet" "size" "I" ∈ wG := List.mem_filter.mpr ⟨wT_1 _ (List.mem_of_getElem? (i := 239) rfl), rfl⟩
theorem wm_472 : Cond.fieldLink RX11 63 "WhereTheSpoonWent" "ends" "[I" ∈ wG := List.mem_filter.mpr ⟨wT_2 _ (List.mem_of_getElem? (i := 19) rfl), rfl⟩
theorem wm_473 : Cond.constantLong RX11 332 (48271) ∈ wG := List.mem_filter.mpr ⟨wT_4 _ (List.mem_of_getElem? (i := 40) rfl), rfl⟩
theorem wm_474 : Cond.constantLong RX11 334 (2147483647) ∈ wG := List.mem_filter.mpr ⟨wT_4 _ (List.mem_of_getElem? (i := 41) rfl), rfl⟩
theorem wm_475 : Cond.constantLong RX11 336 (5) ∈ wG := List.mem_filter.mpr ⟨wT_4 _ (List.mem_of_getElem? (i := 42) rfl), rfl⟩
theorem wm_476 : Cond.methodLink RX11 338 yX10_isOne ∈ wG := List.mem_filter.mpr ⟨wT_4 _ (List.mem_of_getElem? (i := 100) rfl), rfl⟩
theorem wm_477 : Cond.methodLink RX12 75 yX12_in ∈ wG := List.mem_filter.mpr ⟨wT_4 _ (List.mem_of_getElem? (i := 139) rfl), rfl⟩
theorem wm_478 : Cond.static yX12_in ∈ wG := List.mem_filter.mpr ⟨wT_4 _ (List.mem_of_getElem? (i := 140) rfl), rfl⟩
theorem wm_479 : Cond.initialized RX12 ∈ wG := List.mem_filter.mpr ⟨wT_1 _ (List.mem_of_getElem? (i := 13) rfl), rfl⟩
theorem wm_480 : Cond.code yX12_in cX12_in 3 (some .boolean) ∈ wG := List.mem_filter.mpr ⟨wT_4 _ (List.mem_of_getElem? (i := 141) rfl), rfl⟩
theorem wm_481 : Cond.fieldLink RX12 7 "WhereTheSpoonWentModel" "sets" "[I" ∈ wG := List.mem_filter.mpr ⟨wT_4 _ (List.mem_of_getElem? (i := 178) rfl), rfl⟩
theorem wm_482 : Cond.methodLink RX12 79 yX12_isCell ∈ wG := List.mem_filter.mpr ⟨wT_5 _ (List.mem_of_getElem? (i := 51) rfl), rfl⟩
theorem wm_483 : Cond.methodLink RX12 83 yX12_has ∈ wG := List.mem_filter.mpr ⟨wT_5 _ (List.mem_of_getElem? (i := 58) rfl), rfl⟩
theorem wm_484 : Cond.instanceMethod yX12_has ∈ wG := List.mem_filter.mpr ⟨wT_5 _ (List.mem_of_getElem? (i := 60) rfl), rfl⟩
theorem wm_485 : Cond.selects RX12 yX12_has yX12_has ∈ wG := List.mem_filter.mpr ⟨List.mem_append_left _ (List.mem_of_getElem? (i := 46) rfl), rfl⟩
theorem wm_486 : Cond.code yX12_has cX12_has 3 (some .boolean) ∈ wG := List.mem_filter.mpr ⟨wT_5 _ (List.mem_of_getElem? (i := 61) rfl), rfl⟩
theorem wm_487 : Cond.static yX12_isCell ∈ wG := List.mem_filter.mpr ⟨wT_5 _ (List.mem_of_getElem? (i := 52) rfl), rfl⟩
theorem wm_488 : Cond.code yX12_isCell cX12_isCell 1 (some .boolean) ∈ wG := List.mem_filter.mpr ⟨wT_5 _ (List.mem_of_getElem? (i := 53) rfl), rfl⟩
theorem wm_489 : Cond.fieldLink RX12 87 "WhereTheSpoonWentModel" "things" "I" ∈ wG := List.mem_filter.mpr ⟨wT_4 _ (List.mem_of_getElem? (i := 180) rfl), rfl⟩
theorem wm_490 : Cond.fieldLink RX12 19 "WhereTheSpoonWentModel" "cellOf" "[I" ∈ wG := List.mem_filter.mpr ⟨wT_4 _ (List.mem_of_getElem? (i := 183) rfl), rfl⟩
theorem wm_491 : Cond.methodLink RX12 90 yX12_isThere ∈ wG := List.mem_filter.mpr ⟨wT_5 _ (List.mem_of_getElem? (i := 54) rfl), rfl⟩
theorem wm_492 : Cond.instanceMethod yX12_isThere ∈ wG := List.mem_filter.mpr ⟨wT_5 _ (List.mem_of_getElem? (i := 56) rfl), rfl⟩
theorem wm_493 : Cond.selects RX12 yX12_isThere yX12_isThere ∈ wG := List.mem_filter.mpr ⟨List.mem_append_left _ (List.mem_of_getElem? (i := 45) rfl), rfl⟩
theorem wm_494 : Cond.code yX12_isThere cX12_isThere 3 (some .boolean) ∈ wG := List.mem_filter.mpr ⟨wT_5 _ (List.mem_of_getElem? (i := 57) rfl), rfl⟩
theorem wm_495 : Cond.fieldLink RX12 93 "WhereTheSpoonWentModel" "step" "I" ∈ wG := List.mem_filter.mpr ⟨wT_4 _ (List.mem_of_getElem? (i := 179) rfl), rfl⟩
theorem wm_496 : Cond.fieldLink RX12 96 "WhereTheSpoonWentModel" "texts" "I" ∈ wG := List.mem_filter.mpr ⟨wT_4 _ (List.mem_of_getElem? (i := 189) rfl), rfl⟩
theorem wm_497 : Cond.fieldLink RX12 99 "WhereTheSpoonWentModel" "rule" "I" ∈ wG := List.mem_filter.mpr ⟨wT_4 _ (List.mem_of_getElem? (i := 190) rfl), rfl⟩
theorem wm_498 : Cond.fieldLink RX12 67 "WhereTheSpoonWentModel" "taped" "I" ∈ wG := List.mem_filter.mpr ⟨wT_4 _ (List.mem_of_getElem? (i := 186) rfl), rfl⟩
theorem wm_499 : Cond.methodLink RX12 102 yX12_isByte ∈ wG := List.mem_filter.mpr ⟨wT_5 _ (List.mem_of_getElem? (i := 74) rfl), rfl⟩
theorem wm_500 : Cond.static yX12_isByte ∈ wG := List.mem_filter.mpr ⟨wT_5 _ (List.mem_of_getElem? (i := 75) rfl), rfl⟩
theorem wm_501 : Cond.code yX12_isByte cX12_isByte 1 (some .boolean) ∈ wG := List.mem_filter.mpr ⟨wT_5 _ (List.mem_of_getElem? (i := 76) rfl), rfl⟩
theorem wm_502 : Cond.fieldLink RX12 25 "WhereTheSpoonWentModel" "tape" "[I" ∈ wG := List.mem_filter.mpr ⟨wT_4 _ (List.mem_of_getElem? (i := 185) rfl), rfl⟩
theorem wm_503 : Cond.fieldLink RX12 49 "WhereTheSpoonWentModel" "words" "[I" ∈ wG := List.mem_filter.mpr ⟨wT_4 _ (List.mem_of_getElem? (i := 203) rfl), rfl⟩
theorem wm_504 : Cond.fieldLink RX12 105 "WhereTheSpoonWentModel" "at" "I" ∈ wG := List.mem_filter.mpr ⟨wT_4 _ (List.mem_of_getElem? (i := 199) rfl), rfl⟩
theorem wm_505 : Cond.fieldLink RX12 108 "WhereTheSpoonWentModel" "begun" "I" ∈ wG := List.mem_filter.mpr ⟨wT_4 _ (List.mem_of_getElem? (i := 200) rfl), rfl⟩
theorem wm_506 : Cond.fieldLink RX12 111 "WhereTheSpoonWentModel" "token" "I" ∈ wG := List.mem_filter.mpr ⟨wT_4 _ (List.mem_of_getElem? (i := 201) rfl), rfl⟩
theorem wm_507 : Cond.fieldLink RX12 114 "WhereTheSpoonWentModel" "value" "I" ∈ wG := List.mem_filter.mpr ⟨wT_4 _ (List.mem_of_getElem? (i := 202) rfl), rfl⟩
theorem wm_508 : Cond.methodLink RX12 117 yX12_wordFrom ∈ wG := List.mem_filter.mpr ⟨wT_4 _ (List.mem_of_getElem? (i := 142) rfl), rfl⟩
theorem wm_509 : Cond.instanceMethod yX12_wordFrom ∈ wG := List.mem_filter.mpr ⟨wT_4 _ (List.mem_of_getElem? (i := 144) rfl), rfl⟩
theorem wm_510 : Cond.selects RX12 yX12_wordFrom yX12_wordFrom ∈ wG := List.mem_filter.mpr ⟨List.mem_append_left _ (List.mem_of_getElem? (i := 37) rfl), rfl⟩
theorem wm_511 : Cond.code yX12_wordFrom cX12_wordFrom 6 (some .int) ∈ wG := List.mem_filter.mpr ⟨wT_4 _ (List.mem_of_getElem? (i := 145) rfl), rfl⟩
theorem wm_512 : Cond.fieldLink RX12 28 "WhereTheSpoonWentModel" "codes" "[I" ∈ wG := List.mem_filter.mpr ⟨wT_4 _ (List.mem_of_getElem? (i := 187) rfl), rfl⟩
theorem wm_513 : Cond.fieldLink RX12 121 "WhereTheSpoonWentModel" "out" "I" ∈ wG := List.mem_filter.mpr ⟨wT_4 _ (List.mem_of_getElem? (i := 207) rfl), rfl⟩
theorem wm_514 : Cond.fieldLink RX12 124 "WhereTheSpoonWentModel" "heldMany" "I" ∈ wG := List.mem_filter.mpr ⟨wT_4 _ (List.mem_of_getElem? (i := 205) rfl), rfl⟩
theorem wm_515 : Cond.fieldLink RX12 52 "WhereTheSpoonWentModel" "held" "[I" ∈ wG := List.mem_filter.mpr ⟨wT_4 _ (List.mem_of_getElem? (i := 204) rfl), rfl⟩
theorem wm_516 : Cond.methodLink RX12 127 yX12_rank ∈ wG := List.mem_filter.mpr ⟨wT_4 _ (List.mem_of_getElem? (i := 159) rfl), rfl⟩
theorem wm_517 : Cond.fieldLink RX12 131 "WhereTheSpoonWentModel" "opens" "I" ∈ wG := List.mem_filter.mpr ⟨wT_4 _ (List.mem_of_getElem? (i := 206) rfl), rfl⟩
theorem wm_518 : Cond.static yX12_rank ∈ wG := List.mem_filter.mpr ⟨wT_4 _ (List.mem_of_getElem? (i := 160) rfl), rfl⟩
theorem wm_519 : Cond.code yX12_rank cX12_rank 1 (some .int) ∈ wG := List.mem_filter.mpr ⟨wT_4 _ (List.mem_of_getElem? (i := 161) rfl), rfl⟩
theorem wm_520 : Cond.methodLink RX12 134 yX12_puts ∈ wG := List.mem_filter.mpr ⟨wT_4 _ (List.mem_of_getElem? (i := 151) rfl), rfl⟩
theorem wm_521 : Cond.instanceMethod yX12_puts ∈ wG := List.mem_filter.mpr ⟨wT_4 _ (List.mem_of_getElem? (i := 153) rfl), rfl⟩
theorem wm_522 : Cond.selects RX12 yX12_puts yX12_puts ∈ wG := List.mem_filter.mpr ⟨List.mem_append_left _ (List.mem_of_getElem? (i := 39) rfl), rfl⟩
theorem wm_523 : Cond.code yX12_puts cX12_puts 2 none ∈ wG := List.mem_filter.mpr ⟨wT_4 _ (List.mem_of_getElem? (i := 154) rfl), rfl⟩
theorem wm_524 : Cond.methodLink RX12 138 yX12_holds ∈ wG := List.mem_filter.mpr ⟨wT_4 _ (List.mem_of_getElem? (i := 166) rfl), rfl⟩
theorem wm_525 : Cond.instanceMethod yX12_holds ∈ wG := List.mem_filter.mpr ⟨wT_4 _ (List.mem_of_getElem? (i := 168) rfl), rfl⟩
theorem wm_526 : Cond.selects RX12 yX12_holds yX12_holds ∈ wG := List.mem_filter.mpr ⟨List.mem_append_left _ (List.mem_of_getElem? (i := 42) rfl), rfl⟩
theorem wm_527 : Cond.code yX12_holds cX12_holds 2 none ∈ wG := List.mem_filter.mpr ⟨wT_4 _ (List.mem_of_getElem? (i := 169) rfl), rfl⟩
theorem wm_528 : Cond.methodLink RX12 141 yX12_unwinds ∈ wG := List.mem_filter.mpr ⟨wT_4 _ (List.mem_of_getElem? (i := 155) rfl), rfl⟩
theorem wm_529 : Cond.instanceMethod yX12_unwinds ∈ wG := List.mem_filter.mpr ⟨wT_4 _ (List.mem_of_getElem? (i := 157) rfl), rfl⟩
theorem wm_530 : Cond.selects RX12 yX12_unwinds yX12_unwinds ∈ wG := List.mem_filter.mpr ⟨List.mem_append_left _ (List.mem_of_getElem? (i := 40) rfl), rfl⟩
theorem wm_531 : Cond.code yX12_unwinds cX12_unwinds 3 none ∈ wG := List.mem_filter.mpr ⟨wT_4 _ (List.mem_of_getElem? (i := 158) rfl), rfl⟩
theorem wm_532 : Cond.methodLink RX12 144 yX12_next ∈ wG := List.mem_filter.mpr ⟨wT_4 _ (List.mem_of_getElem? (i := 135) rfl), rfl⟩
theorem wm_533 : Cond.methodLink RX12 151 yX12_signOf ∈ wG := List.mem_filter.mpr ⟨wT_4 _ (List.mem_of_getElem? (i := 170) rfl), rfl⟩
theorem wm_534 : Cond.methodLink RX12 154 yX12_between ∈ wG := List.mem_filter.mpr ⟨wT_4 _ (List.mem_of_getElem? (i := 174) rfl), rfl⟩
theorem wm_535 : Cond.instanceMethod yX12_between ∈ wG := List.mem_filter.mpr ⟨wT_4 _ (List.mem_of_getElem? (i := 176) rfl), rfl⟩
theorem wm_536 : Cond.selects RX12 yX12_between yX12_between ∈ wG := List.mem_filter.mpr ⟨List.mem_append_left _ (List.mem_of_getElem? (i := 44) rfl), rfl⟩
theorem wm_537 : Cond.code yX12_between cX12_between 2 (some .boolean) ∈ wG := List.mem_filter.mpr ⟨wT_4 _ (List.mem_of_getElem? (i := 177) rfl), rfl⟩
theorem wm_538 : Cond.instanceMethod yX12_signOf ∈ wG := List.mem_filter.mpr ⟨wT_4 _ (List.mem_of_getElem? (i := 172) rfl), rfl⟩
theorem wm_539 : Cond.selects RX12 yX12_signOf yX12_signOf ∈ wG := List.mem_filter.mpr ⟨List.mem_append_left _ (List.mem_of_getElem? (i := 43) rfl), rfl⟩
theorem wm_540 : Cond.code yX12_signOf cX12_signOf 1 (some .int) ∈ wG := List.mem_filter.mpr ⟨wT_4 _ (List.mem_of_getElem? (i := 173) rfl), rfl⟩
theorem wm_541 : Cond.methodLink RX12 148 yX12_opensOne ∈ wG := List.mem_filter.mpr ⟨wT_4 _ (List.mem_of_getElem? (i := 162) rfl), rfl⟩
theorem wm_542 : Cond.instanceMethod yX12_opensOne ∈ wG := List.mem_filter.mpr ⟨wT_4 _ (List.mem_of_getElem? (i := 164) rfl), rfl⟩
theorem wm_543 : Cond.selects RX12 yX12_opensOne yX12_opensOne ∈ wG := List.mem_filter.mpr ⟨List.mem_append_left _ (List.mem_of_getElem? (i := 41) rfl), rfl⟩
theorem wm_544 : Cond.code yX12_opensOne cX12_opensOne 2 (some .boolean) ∈ wG := List.mem_filter.mpr ⟨wT_4 _ (List.mem_of_getElem? (i := 165) rfl), rfl⟩
theorem wm_545 : Cond.instanceMethod yX12_next ∈ wG := List.mem_filter.mpr ⟨wT_4 _ (List.mem_of_getElem? (i := 137) rfl), rfl⟩
theorem wm_546 : Cond.selects RX12 yX12_next yX12_next ∈ wG := List.mem_filter.mpr ⟨List.mem_append_left _ (List.mem_of_getElem? (i := 36) rfl), rfl⟩
theorem wm_547 : Cond.code yX12_next cX12_next 3 none ∈ wG := List.mem_filter.mpr ⟨wT_4 _ (List.mem_of_getElem? (i := 138) rfl), rfl⟩
theorem wm_548 : Cond.constant RX12 147 (100000) ∈ wG := List.mem_filter.mpr ⟨wT_4 _ (List.mem_of_getElem? (i := 150) rfl), rfl⟩
theorem wm_549 : Cond.fieldLink RX12 31 "WhereTheSpoonWentModel" "starts" "[I" ∈ wG := List.mem_filter.mpr ⟨wT_4 _ (List.mem_of_getElem? (i := 188) rfl), rfl⟩
theorem wm_550 : Cond.methodLink RX12 157 yX12_eRead ∈ wG := List.mem_filter.mpr ⟨wT_4 _ (List.mem_of_getElem? (i := 146) rfl), rfl⟩
theorem wm_551 : Cond.instanceMethod yX12_eRead ∈ wG := List.mem_filter.mpr ⟨wT_4 _ (List.mem_of_getElem? (i := 148) rfl), rfl⟩
theorem wm_552 : Cond.selects RX12 yX12_eRead yX12_eRead ∈ wG := List.mem_filter.mpr ⟨List.mem_append_left _ (List.mem_of_getElem? (i := 38) rfl), rfl⟩
theorem wm_553 : Cond.code yX12_eRead cX12_eRead 4 (some .boolean) ∈ wG := List.mem_filter.mpr ⟨wT_4 _ (List.mem_of_getElem? (i := 149) rfl), rfl⟩
theorem wm_554 : Cond.fieldLink RX12 55 "WhereTheSpoonWentModel" "stack" "[I" ∈ wG := List.mem_filter.mpr ⟨wT_4 _ (List.mem_of_getElem? (i := 208) rfl), rfl⟩
theorem wm_555 : Cond.methodLink RX12 161 yX12_two ∈ wG := List.mem_filter.mpr ⟨wT_5 _ (List.mem_of_getElem? (i := 94) rfl), rfl⟩
theorem wm_556 : Cond.static yX12_two ∈ wG := List.mem_filter.mpr ⟨wT_5 _ (List.mem_of_getElem? (i := 95) rfl), rfl⟩
theorem wm_557 : Cond.code yX12_two cX12_two 3 (some .int) ∈ wG := List.mem_filter.mpr ⟨wT_5 _ (List.mem_of_getElem? (i := 96) rfl), rfl⟩
theorem wm_558 : Cond.fieldLink RX12 58 "WhereTheSpoonWentModel" "named" "[I" ∈ wG := List.mem_filter.mpr ⟨wT_4 _ (List.mem_of_getElem? (i := 209) rfl), rfl⟩
theorem wm_559 : Cond.methodLink RX12 165 yX12_says ∈ wG := List.mem_filter.mpr ⟨wT_5 _ (List.mem_of_getElem? (i := 90) rfl), rfl⟩
theorem wm_560 : Cond.methodLink RX12 168 yX12_within ∈ wG := List.mem_filter.mpr ⟨wT_5 _ (List.mem_of_getElem? (i := 97) rfl), rfl⟩
theorem wm_561 : Cond.static yX12_within ∈ wG := List.mem_filter.mpr ⟨wT_5 _ (List.mem_of_getElem? (i := 98) rfl), rfl⟩
theorem wm_562 : Cond.code yX12_within cX12_within 3 (some .int) ∈ wG := List.mem_filter.mpr ⟨wT_5 _ (List.mem_of_getElem? (i := 99) rfl), rfl⟩
theorem wm_563 : Cond.instanceMethod yX12_says ∈ wG := List.mem_filter.mpr ⟨wT_5 _ (List.mem_of_getElem? (i := 92) rfl), rfl⟩
theorem wm_564 : Cond.selects RX12 yX12_says yX12_says ∈ wG := List.mem_filter.mpr ⟨List.mem_append_left _ (List.mem_of_getElem? (i := 48) rfl), rfl⟩
theorem wm_565 : Cond.code yX12_says cX12_says 5 (some .int) ∈ wG := List.mem_filter.mpr ⟨wT_5 _ (List.mem_of_getElem? (i := 93) rfl), rfl⟩
theorem wm_566 : Cond.methodLink RX12 171 yX12_asksOf ∈ wG := List.mem_filter.mpr ⟨wT_5 _ (List.mem_of_getElem? (i := 86) rfl), rfl⟩
theorem wm_567 : Cond.instanceMethod yX12_asksOf ∈ wG := List.mem_filter.mpr ⟨wT_5 _ (List.mem_of_getElem? (i := 88) rfl), rfl⟩
theorem wm_568 : Cond.selects RX12 yX12_asksOf yX12_asksOf ∈ wG := List.mem_filter.mpr ⟨List.mem_append_left _ (List.mem_of_getElem? (i := 47) rfl), rfl⟩
theorem wm_569 : Cond.code yX12_asksOf cX12_asksOf 6 (some .int) ∈ wG := List.mem_filter.mpr ⟨wT_5 _ (List.mem_of_getElem? (i := 89) rfl), rfl⟩
theorem wm_570 : Cond.methodLink RX12 175 yX12_isFree ∈ wG := List.mem_filter.mpr ⟨wT_5 _ (List.mem_of_getElem? (i := 104) rfl), rfl⟩
theorem wm_571 : Cond.fieldLink RX12 13 "WhereTheSpoonWentModel" "kind" "[I" ∈ wG := List.mem_filter.mpr ⟨wT_4 _ (List.mem_of_getElem? (i := 181) rfl), rfl⟩
theorem wm_572 : Cond.fieldLink RX12 16 "WhereTheSpoonWentModel" "moreOf" "[I" ∈ wG := List.mem_filter.mpr ⟨wT_4 _ (List.mem_of_getElem? (i := 182) rfl), rfl⟩
theorem wm_573 : Cond.fieldLink RX12 22 "WhereTheSpoonWentModel" "wayOf" "[I" ∈ wG := List.mem_filter.mpr ⟨wT_4 _ (List.mem_of_getElem? (i := 184) rfl), rfl⟩
theorem wm_574 : Cond.instanceMethod yX12_isFree ∈ wG := List.mem_filter.mpr ⟨wT_5 _ (List.mem_of_getElem? (i := 106) rfl), rfl⟩
theorem wm_575 : Cond.selects RX12 yX12_isFree yX12_isFree ∈ wG := List.mem_filter.mpr ⟨List.mem_append_left _ (List.mem_of_getElem? (i := 49) rfl), rfl⟩
theorem wm_576 : Cond.code yX12_isFree cX12_isFree 2 (some .boolean) ∈ wG := List.mem_filter.mpr ⟨wT_5 _ (List.mem_of_getElem? (i := 107) rfl), rfl⟩
theorem wm_577 : Cond.methodLink RX12 178 yX12_isThing ∈ wG := List.mem_filter.mpr ⟨wT_5 _ (List.mem_of_getElem? (i := 112) rfl), rfl⟩
theorem wm_578 : Cond.instanceMethod yX12_isThing ∈ wG := List.mem_filter.mpr ⟨wT_5 _ (List.mem_of_getElem? (i := 114) rfl), rfl⟩
theorem wm_579 : Cond.selects RX12 yX12_isThing yX12_isThing ∈ wG := List.mem_filter.mpr ⟨List.mem_append_left _ (List.mem_of_getElem? (i := 50) rfl), rfl⟩
theorem wm_580 : Cond.code yX12_isThing cX12_isThing 2 (some .boolean) ∈ wG := List.mem_filter.mpr ⟨wT_5 _ (List.mem_of_getElem? (i := 115) rfl), rfl⟩
theorem wm_581 : Cond.fieldLink RX12 181 "WhereTheSpoonWentModel" "now" "I" ∈ wG := List.mem_filter.mpr ⟨wT_4 _ (List.mem_of_getElem? (i := 210) rfl), rfl⟩
theorem wm_582 : Cond.fieldLink RX12 184 "WhereTheSpoonWentModel" "way" "I" ∈ wG := List.mem_filter.mpr ⟨wT_4 _ (List.mem_of_getElem? (i := 211) rfl), rfl⟩
theorem wm_583 : Cond.methodLink RX12 187 yX12_blown ∈ wG := List.mem_filter.mpr ⟨wT_5 _ (List.mem_of_getElem? (i := 143) rfl), rfl⟩
theorem wm_584 : Cond.instanceMethod yX12_blown ∈ wG := List.mem_filter.mpr ⟨wT_5 _ (List.mem_of_getElem? (i := 145) rfl), rfl⟩
theorem wm_585 : Cond.selects RX12 yX12_blown yX12_blown ∈ wG := List.mem_filter.mpr ⟨List.mem_append_left _ (List.mem_of_getElem? (i := 55) rfl), rfl⟩
theorem wm_586 : Cond.code yX12_blown cX12_blown 4 (some .int) ∈ wG := List.mem_filter.mpr ⟨wT_5 _ (List.mem_of_getElem? (i := 146) rfl), rfl⟩
theorem wm_587 : Cond.methodLink RX12 190 yX12_beside ∈ wG := List.mem_filter.mpr ⟨wT_5 _ (List.mem_of_getElem? (i := 147) rfl), rfl⟩
theorem wm_588 : Cond.static yX12_beside ∈ wG := List.mem_filter.mpr ⟨wT_5 _ (List.mem_of_getElem? (i := 148) rfl), rfl⟩
theorem wm_589 : Cond.code yX12_beside cX12_beside 4 (some .int) ∈ wG := List.mem_filter.mpr ⟨wT_5 _ (List.mem_of_getElem? (i := 149) rfl), rfl⟩
theorem wm_590 : Cond.methodLink RX12 193 yX12_touching ∈ wG := List.mem_filter.mpr ⟨wT_5 _ (List.mem_of_getElem? (i := 150) rfl), rfl⟩
theorem wm_591 : Cond.instanceMethod yX12_touching ∈ wG := List.mem_filter.mpr ⟨wT_5 _ (List.mem_of_getElem? (i := 152) rfl), rfl⟩
theorem wm_592 : Cond.selects RX12 yX12_touching yX12_touching ∈ wG := List.mem_filter.mpr ⟨List.mem_append_left _ (List.mem_of_getElem? (i := 56) rfl), rfl⟩
theorem wm_593 : Cond.code yX12_touching cX12_touching 4 (some .int) ∈ wG := List.mem_filter.mpr ⟨wT_5 _ (List.mem_of_getElem? (i := 153) rfl), rfl⟩
theorem wm_594 : Cond.methodLink RX12 196 yX12_steps ∈ wG := List.mem_filter.mpr ⟨wT_5 _ (List.mem_of_getElem? (i := 139) rfl), rfl⟩
theorem wm_595 : Cond.instanceMethod yX12_steps ∈ wG := List.mem_filter.mpr ⟨wT_5 _ (List.mem_of_getElem? (i := 141) rfl), rfl⟩
theorem wm_596 : Cond.selects RX12 yX12_steps yX12_steps ∈ wG := List.mem_filter.mpr ⟨List.mem_append_left _ (List.mem_of_getElem? (i := 54) rfl), rfl⟩
theorem wm_597 : Cond.code yX12_steps cX12_steps 5 none ∈ wG := List.mem_filter.mpr ⟨wT_5 _ (List.mem_of_getElem? (i := 142) rfl), rfl⟩
theorem wm_598 : Cond.methodLink RX12 200 yX12_begins ∈ wG := List.mem_filter.mpr ⟨wT_5 _ (List.mem_of_getElem? (i := 131) rfl), rfl⟩
theorem wm_599 : Cond.methodLink RX12 203 yX12_goesBehind ∈ wG := List.mem_filter.mpr ⟨wT_5 _ (List.mem_of_getElem? (i := 135) rfl), rfl⟩
theorem wm_600 : Cond.instanceMethod yX12_goesBehind ∈ wG := List.mem_filter.mpr ⟨wT_5 _ (List.mem_of_getElem? (i := 137) rfl), rfl⟩
theorem wm_601 : Cond.selects RX12 yX12_goesBehind yX12_goesBehind ∈ wG := List.mem_filter.mpr ⟨List.mem_append_left _ (List.mem_of_getElem? (i := 53) rfl), rfl⟩
theorem wm_602 : Cond.code yX12_goesBehind cX12_goesBehind 4 none ∈ wG := List.mem_filter.mpr ⟨wT_5 _ (List.mem_of_getElem? (i := 138) rfl), rfl⟩
theorem wm_603 : Cond.instanceMethod yX12_begins ∈ wG := List.mem_filter.mpr ⟨wT_5 _ (List.mem_of_getElem? (i := 133) rfl), rfl⟩
theorem wm_604 : Cond.selects RX12 yX12_begins yX12_begins ∈ wG := List.mem_filter.mpr ⟨List.mem_append_left _ (List.mem_of_getElem? (i := 52) rfl), rfl⟩
theorem wm_605 : Cond.code yX12_begins cX12_begins 2 none ∈ wG := List.mem_filter.mpr ⟨wT_5 _ (List.mem_of_getElem? (i := 134) rfl), rfl⟩
theorem wm_606 : Cond.methodLink RX12 206 yX12_areSteps ∈ wG := List.mem_filter.mpr ⟨wT_5 _ (List.mem_of_getElem? (i := 124) rfl), rfl⟩
theorem wm_607 : Cond.methodLink RX12 209 yX12_cellBehind ∈ wG := List.mem_filter.mpr ⟨wT_5 _ (List.mem_of_getElem? (i := 127) rfl), rfl⟩
theorem wm_608 : Cond.instanceMethod yX12_cellBehind ∈ wG := List.mem_filter.mpr ⟨wT_5 _ (List.mem_of_getElem? (i := 129) rfl), rfl⟩
theorem wm_609 : Cond.selects RX12 yX12_cellBehind yX12_cellBehind ∈ wG := List.mem_filter.mpr ⟨List.mem_append_left _ (List.mem_of_getElem? (i := 51) rfl), rfl⟩
theorem wm_610 : Cond.code yX12_cellBehind cX12_cellBehind 3 (some .int) ∈ wG := List.mem_filter.mpr ⟨wT_5 _ (List.mem_of_getElem? (i := 130) rfl), rfl⟩
theorem wm_611 : Cond.static yX12_areSteps ∈ wG := List.mem_filter.mpr ⟨wT_5 _ (List.mem_of_getElem? (i := 125) rfl), rfl⟩
theorem wm_612 : Cond.code yX12_areSteps cX12_areSteps 1 (some .boolean) ∈ wG := List.mem_filter.mpr ⟨wT_5 _ (List.mem_of_getElem? (i := 126) rfl), rfl⟩
theorem wm_613 : Cond.methodLink RX12 212 yX12_first0 ∈ wG := List.mem_filter.mpr ⟨wT_5 _ (List.mem_of_getElem? (i := 162) rfl), rfl⟩
theorem wm_614 : Cond.instanceMethod yX12_first0 ∈ wG := List.mem_filter.mpr ⟨wT_5 _ (List.mem_of_getElem? (i := 164) rfl), rfl⟩
theorem wm_615 : Cond.selects RX12 yX12_first0 yX12_first0 ∈ wG := List.mem_filter.mpr ⟨List.mem_append_left _ (List.mem_of_getElem? (i := 57) rfl), rfl⟩
theorem wm_616 : Cond.code yX12_first0 cX12_first0 4 (some .int) ∈ wG := List.mem_filter.mpr ⟨wT_5 _ (List.mem_of_getElem? (i := 165) rfl), rfl⟩
theorem wm_617 : Cond.fieldLink RX12 61 "WhereTheSpoonWentModel" "far" "[I" ∈ wG := List.mem_filter.mpr ⟨wT_4 _ (List.mem_of_getElem? (i := 212) rfl), rfl⟩
theorem wm_618 : Cond.methodLink RX12 215 yX12_spreads ∈ wG := List.mem_filter.mpr ⟨wT_5 _ (List.mem_of_getElem? (i := 178) rfl), rfl⟩
theorem wm_619 : Cond.methodLink RX12 218 yX12_soonest ∈ wG := List.mem_filter.mpr ⟨wT_5 _ (List.mem_of_getElem? (i := 182) rfl), rfl⟩
theorem wm_620 : Cond.instanceMethod yX12_soonest ∈ wG := List.mem_filter.mpr ⟨wT_5 _ (List.mem_of_getElem? (i := 184) rfl), rfl⟩
theorem wm_621 : Cond.selects RX12 yX12_soonest yX12_soonest ∈ wG := List.mem_filter.mpr ⟨List.mem_append_left _ (List.mem_of_getElem? (i := 59) rfl), rfl⟩
theorem wm_622 : Cond.code yX12_soonest cX12_soonest 5 (some .int) ∈ wG := List.mem_filter.mpr ⟨wT_5 _ (List.mem_of_getElem? (i := 185) rfl), rfl⟩
theorem wm_623 : Cond.instanceMethod yX12_spreads ∈ wG := List.mem_filter.mpr ⟨wT_5 _ (List.mem_of_getElem? (i := 180) rfl), rfl⟩
theorem wm_624 : Cond.selects RX12 yX12_spreads yX12_spreads ∈ wG := List.mem_filter.mpr ⟨List.mem_append_left _ (List.mem_of_getElem? (i := 58) rfl), rfl⟩
theorem wm_625 : Cond.code yX12_spreads cX12_spreads 5 none ∈ wG := List.mem_filter.mpr ⟨wT_5 _ (List.mem_of_getElem? (i := 181) rfl), rfl⟩
theorem wm_626 : Cond.methodLink RX12 221 yX12_turnedFirst ∈ wG := List.mem_filter.mpr ⟨wT_5 _ (List.mem_of_getElem? (i := 206) rfl), rfl⟩
theorem wm_627 : Cond.instanceMethod yX12_turnedFirst ∈ wG := List.mem_filter.mpr ⟨wT_5 _ (List.mem_of_getElem? (i := 208) rfl), rfl⟩
theorem wm_628 : Cond.selects RX12 yX12_turnedFirst yX12_turnedFirst ∈ wG := List.mem_filter.mpr ⟨List.mem_append_left _ (List.mem_of_getElem? (i := 60) rfl), rfl⟩
theorem wm_629 : Cond.code yX12_turnedFirst cX12_turnedFirst 5 (some .int) ∈ wG := List.mem_filter.mpr ⟨wT_5 _ (List.mem_of_getElem? (i := 209) rfl), rfl⟩
theorem wm_630 : Cond.methodLink RX12 224 yX12_netted ∈ wG := List.mem_filter.mpr ⟨wT_5 _ (List.mem_of_getElem? (i := 214) rfl), rfl⟩
theorem wm_631 : Cond.instanceMethod yX12_netted ∈ wG := List.mem_filter.mpr ⟨wT_5 _ (List.mem_of_getElem? (i := 216) rfl), rfl⟩
theorem wm_632 : Cond.selects RX12 yX12_netted yX12_netted ∈ wG := List.mem_filter.mpr ⟨List.mem_append_left _ (List.mem_of_getElem? (i := 61) rfl), rfl⟩
theorem wm_633 : Cond.code yX12_netted cX12_netted 4 (some .int) ∈ wG := List.mem_filter.mpr ⟨wT_5 _ (List.mem_of_getElem? (i := 217) rfl), rfl⟩
theorem wm_634 : Cond.fieldLink RX12 64 "WhereTheSpoonWentModel" "wentTo" "[I" ∈ wG := List.mem_filter.mpr ⟨wT_4 _ (List.mem_of_getElem? (i := 213) rfl), rfl⟩
theorem wm_635 : Cond.methodLink RX12 227 yX12_letsGo ∈ wG := List.mem_filter.mpr ⟨wT_5 _ (List.mem_of_getElem? (i := 222) rfl), rfl⟩
theorem wm_636 : Cond.instanceMethod yX12_letsGo ∈ wG := List.mem_filter.mpr ⟨wT_5 _ (List.mem_of_getElem? (i := 224) rfl), rfl⟩
theorem wm_637 : Cond.selects RX12 yX12_letsGo yX12_letsGo ∈ wG := List.mem_filter.mpr ⟨List.mem_append_left _ (List.mem_of_getElem? (i := 62) rfl), rfl⟩
theorem wm_638 : Cond.code yX12_letsGo cX12_letsGo 4 none ∈ wG := List.mem_filter.mpr ⟨wT_5 _ (List.mem_of_getElem? (i := 225) rfl), rfl⟩
theorem wm_639 : Cond.methodLink RX12 230 yX12_byHowMany ∈ wG := List.mem_filter.mpr ⟨wT_5 _ (List.mem_of_getElem? (i := 230) rfl), rfl⟩
theorem wm_640 : Cond.instanceMethod yX12_byHowMany ∈ wG := List.mem_filter.mpr ⟨wT_5 _ (List.mem_of_getElem? (i := 232) rfl), rfl⟩
theorem wm_641 : Cond.selects RX12 yX12_byHowMany yX12_byHowMany ∈ wG := List.mem_filter.mpr ⟨List.mem_append_left _ (List.mem_of_getElem? (i := 63) rfl), rfl⟩
theorem wm_642 : Cond.code yX12_byHowMany cX12_byHowMany 4 (some .int) ∈ wG := List.mem_filter.mpr ⟨wT_5 _ (List.mem_of_getElem? (i := 233) rfl), rfl⟩
theorem wm_643 : Cond.constantLong RX12 233 (-4611686018427387904) ∈ wG := List.mem_filter.mpr ⟨wT_6 _ (List.mem_of_getElem? (i := 2) rfl), rfl⟩
theorem wm_644 : Cond.constantLong RX12 238 (5) ∈ wG := List.mem_filter.mpr ⟨wT_6 _ (List.mem_of_getElem? (i := 7) rfl), rfl⟩
theorem wm_645 : Cond.methodLink RX12 240 yX12_lowest ∈ wG := List.mem_filter.mpr ⟨wT_6 _ (List.mem_of_getElem? (i := 8) rfl), rfl⟩
theorem wm_646 : Cond.static yX12_lowest ∈ wG := List.mem_filter.mpr ⟨wT_6 _ (List.mem_of_getElem? (i := 9) rfl), rfl⟩
theorem wm_647 : Cond.code yX12_lowest cX12_lowest 11 (some .long) ∈ wG := List.mem_filter.mpr ⟨wT_6 _ (List.mem_of_getElem? (i := 10) rfl), rfl⟩
theorem wm_648 : Cond.methodLink RX12 235 yX12_lookFor ∈ wG := List.mem_filter.mpr ⟨wT_6 _ (List.mem_of_getElem? (i := 3) rfl), rfl⟩
theorem wm_649 : Cond.instanceMethod yX12_lookFor ∈ wG := List.mem_filter.mpr ⟨wT_6 _ (List.mem_of_getElem? (i := 5) rfl), rfl⟩
theorem wm_650 : Cond.selects RX12 yX12_lookFor yX12_lookFor ∈ wG := List.mem_filter.mpr ⟨List.mem_append_left _ (List.mem_of_getElem? (i := 64) rfl), rfl⟩
theorem wm_651 : Cond.code yX12_lookFor cX12_lookFor 5 (some .int) ∈ wG := List.mem_filter.mpr ⟨wT_6 _ (List.mem_of_getElem? (i := 6) rfl), rfl⟩
theorem wm_652 : Cond.fieldLink RX12 37 "WhereTheSpoonWentModel" "sheetSort" "[I" ∈ wG := List.mem_filter.mpr ⟨wT_4 _ (List.mem_of_getElem? (i := 195) rfl), rfl⟩
theorem wm_653 : Cond.fieldLink RX12 40 "WhereTheSpoonWentModel" "sheetSize" "[I" ∈ wG := List.mem_filter.mpr ⟨wT_4 _ (List.mem_of_getElem? (i := 196) rfl), rfl⟩
theorem wm_654 : Cond.methodLink RX12 244 yX12_sheetWrong ∈ wG := List.mem_filter.mpr ⟨wT_6 _ (List.mem_of_getElem? (i := 19) rfl), rfl⟩
theorem wm_655 : Cond.instanceMethod yX12_sheetWrong ∈ wG := List.mem_filter.mpr ⟨wT_6 _ (List.mem_of_getElem? (i := 21) rfl), rfl⟩
theorem wm_656 : Cond.selects RX12 yX12_sheetWrong yX12_sheetWrong ∈ wG := List.mem_filter.mpr ⟨List.mem_append_left _ (List.mem_of_getElem? (i := 66) rfl), rfl⟩
theorem wm_657 : Cond.code yX12_sheetWrong cX12_sheetWrong 2 (some .int) ∈ wG := List.mem_filter.mpr ⟨wT_6 _ (List.mem_of_getElem? (i := 22) rfl), rfl⟩
theorem wm_658 : Cond.fieldLink RX12 43 "WhereTheSpoonWentModel" "cells" "[I" ∈ wG := List.mem_filter.mpr ⟨wT_4 _ (List.mem_of_getElem? (i := 197) rfl), rfl⟩
theorem wm_659 : Cond.methodLink RX12 247 yX12_toldWrong ∈ wG := List.mem_filter.mpr ⟨wT_6 _ (List.mem_of_getElem? (i := 15) rfl), rfl⟩
theorem wm_660 : Cond.methodLink RX12 250 yX12_unlike ∈ wG := List.mem_filter.mpr ⟨wT_6 _ (List.mem_of_getElem? (i := 23) rfl), rfl⟩
theorem wm_661 : Cond.instanceMethod yX12_unlike ∈ wG := List.mem_filter.mpr ⟨wT_6 _ (List.mem_of_getElem? (i := 25) rfl), rfl⟩
theorem wm_662 : Cond.selects RX12 yX12_unlike yX12_unlike ∈ wG := List.mem_filter.mpr ⟨List.mem_append_left _ (List.mem_of_getElem? (i := 67) rfl), rfl⟩
theorem wm_663 : Cond.code yX12_unlike cX12_unlike 4 (some .int) ∈ wG := List.mem_filter.mpr ⟨wT_6 _ (List.mem_of_getElem? (i := 26) rfl), rfl⟩
theorem wm_664 : Cond.instanceMethod yX12_toldWrong ∈ wG := List.mem_filter.mpr ⟨wT_6 _ (List.mem_of_getElem? (i := 17) rfl), rfl⟩
theorem wm_665 : Cond.selects RX12 yX12_toldWrong yX12_toldWrong ∈ wG := List.mem_filter.mpr ⟨List.mem_append_left _ (List.mem_of_getElem? (i := 65) rfl), rfl⟩
theorem wm_666 : Cond.code yX12_toldWrong cX12_toldWrong 4 (some .int) ∈ wG := List.mem_filter.mpr ⟨wT_6 _ (List.mem_of_getElem? (i := 18) rfl), rfl⟩
theorem wm_667 : Cond.constantLong RX12 253 (48271) ∈ wG := List.mem_filter.mpr ⟨wT_6 _ (List.mem_of_getElem? (i := 51) rfl), rfl⟩
theorem wm_668 : Cond.constantLong RX12 255 (2147483647) ∈ wG := List.mem_filter.mpr ⟨wT_6 _ (List.mem_of_getElem? (i := 52) rfl), rfl⟩
theorem wm_669 : Cond.constant RX12 257 (99999) ∈ wG := List.mem_filter.mpr ⟨wT_6 _ (List.mem_of_getElem? (i := 46) rfl), rfl⟩
theorem wm_670 : Cond.methodLink RX12 258 yX12_isDrawn ∈ wG := List.mem_filter.mpr ⟨wT_6 _ (List.mem_of_getElem? (i := 43) rfl), rfl⟩
theorem wm_671 : Cond.methodLink RX12 261 yX12_insideBy ∈ wG := List.mem_filter.mpr ⟨wT_6 _ (List.mem_of_getElem? (i := 47) rfl), rfl⟩
theorem wm_672 : Cond.instanceMethod yX12_insideBy ∈ wG := List.mem_filter.mpr ⟨wT_6 _ (List.mem_of_getElem? (i := 49) rfl), rfl⟩
theorem wm_673 : Cond.selects RX12 yX12_insideBy yX12_insideBy ∈ wG := List.mem_filter.mpr ⟨List.mem_append_left _ (List.mem_of_getElem? (i := 68) rfl), rfl⟩
theorem wm_674 : Cond.code yX12_insideBy cX12_insideBy 8 (some .int) ∈ wG := List.mem_filter.mpr ⟨wT_6 _ (List.mem_of_getElem? (i := 50) rfl), rfl⟩
theorem wm_675 : Cond.static yX12_isDrawn ∈ wG := List.mem_filter.mpr ⟨wT_6 _ (List.mem_of_getElem? (i := 44) rfl), rfl⟩
theorem wm_676 : Cond.code yX12_isDrawn cX12_isDrawn 3 (some .boolean) ∈ wG := List.mem_filter.mpr ⟨wT_6 _ (List.mem_of_getElem? (i := 45) rfl), rfl⟩
theorem wm_677 : Cond.fieldLink RX12 264 "WhereTheSpoonWentModel" "hasImage" "Z" ∈ wG := List.mem_filter.mpr ⟨wT_4 _ (List.mem_of_getElem? (i := 191) rfl), rfl⟩
theorem wm_678 : Cond.fieldLink RX12 268 "WhereTheSpoonWentModel" "imageThings" "I" ∈ wG := List.mem_filter.mpr ⟨wT_4 _ (List.mem_of_getElem? (i := 192) rfl), rfl⟩
theorem wm_679 : Cond.fieldLink RX12 271 "WhereTheSpoonWentModel" "imageRule" "I" ∈ wG := List.mem_filter.mpr ⟨wT_4 _ (List.mem_of_getElem? (i := 193) rfl), rfl⟩
theorem wm_680 : Cond.fieldLink RX12 34 "WhereTheSpoonWentModel" "imageRows" "[I" ∈ wG := List.mem_filter.mpr ⟨wT_4 _ (List.mem_of_getElem? (i := 194) rfl), rfl⟩
theorem wm_681 : Cond.methodLink RX12 274 yX12_thing ∈ wG := List.mem_filter.mpr ⟨wT_6 _ (List.mem_of_getElem? (i := 81) rfl), rfl⟩
theorem wm_682 : Cond.instanceMethod yX12_thing ∈ wG := List.mem_filter.mpr ⟨wT_5 _ (List.mem_of_getElem? (i := 101) rfl), rfl⟩
theorem wm_683 : Cond.selects RX12 yX12_thing yX12_thing ∈ wG := List.mem_filter.mpr ⟨wT_5 _ (List.mem_of_getElem? (i := 102) rfl), rfl⟩
theorem wm_684 : Cond.code yX12_thing cX12_thing 4 (some .int) ∈ wG := List.mem_filter.mpr ⟨wT_5 _ (List.mem_of_getElem? (i := 103) rfl), rfl⟩
theorem wm_685 : Cond.methodLink RX12 277 yX12_isUnder ∈ wG := List.mem_filter.mpr ⟨wT_6 _ (List.mem_of_getElem? (i := 86) rfl), rfl⟩
theorem wm_686 : Cond.static yX12_isUnder ∈ wG := List.mem_filter.mpr ⟨wT_6 _ (List.mem_of_getElem? (i := 87) rfl), rfl⟩
theorem wm_687 : Cond.code yX12_isUnder cX12_isUnder 2 (some .boolean) ∈ wG := List.mem_filter.mpr ⟨wT_6 _ (List.mem_of_getElem? (i := 88) rfl), rfl⟩
theorem wm_688 : Cond.methodLink RX10 3 ⟨"java/lang/Object", "<init>", "()V"⟩ ∈ wG := List.mem_filter.mpr ⟨wT_1 _ (List.mem_of_getElem? (i := 155) rfl), rfl⟩
theorem wm_689 : Cond.instanceMethod ⟨"java/lang/Object", "<init>", "()V"⟩ ∈ wG := List.mem_filter.mpr ⟨wT_1 _ (List.mem_of_getElem? (i := 26) rfl), rfl⟩
theorem wm_690 : Cond.code ⟨"java/lang/Object", "<init>", "()V"⟩ object_method_1_code 1 none ∈ wG := List.mem_filter.mpr ⟨wT_1 _ (List.mem_of_getElem? (i := 27) rfl), rfl⟩
theorem wm_691 : Cond.instanceMethod yX10_init ∈ wG := List.mem_filter.mpr ⟨wT_1 _ (List.mem_of_getElem? (i := 153) rfl), rfl⟩
theorem wm_692 : Cond.code yX10_init cX10_init 1 none ∈ wG := List.mem_filter.mpr ⟨wT_1 _ (List.mem_of_getElem? (i := 154) rfl), rfl⟩
theorem wm_693 : Cond.instanceMethod yX7_init ∈ wG := List.mem_filter.mpr ⟨wT_1 _ (List.mem_of_getElem? (i := 160) rfl), rfl⟩
theorem wm_694 : Cond.code yX7_init cX7_init 1 none ∈ wG := List.mem_filter.mpr ⟨wT_1 _ (List.mem_of_getElem? (i := 161) rfl), rfl⟩
theorem wm_695 : Cond.instanceMethod yX5_init ∈ wG := List.mem_filter.mpr ⟨wT_1 _ (List.mem_of_getElem? (i := 167) rfl), rfl⟩
theorem wm_696 : Cond.code yX5_init cX5_init 1 none ∈ wG := List.mem_filter.mpr ⟨wT_1 _ (List.mem_of_getElem? (i := 168) rfl), rfl⟩
theorem wm_697 : Cond.methodLink RX3 3 ⟨"java/lang/Object", "<init>", "()V"⟩ ∈ wG := List.mem_filter.mpr ⟨wT_1 _ (List.mem_of_getElem? (i := 33) rfl), rfl⟩
theorem wm_698 : Cond.arrayClass .int ∈ wG := List.mem_filter.mpr ⟨wT_1 _ (List.mem_of_getElem? (i := 76) rfl), rfl⟩
theorem wm_699 : Cond.methodLink RX4 3 ⟨"java/lang/Object", "<init>", "()V"⟩ ∈ wG := List.mem_filter.mpr ⟨wT_1 _ (List.mem_of_getElem? (i := 86) rfl), rfl⟩
theorem wm_700 : Cond.arrayClass .byte ∈ wG := List.mem_filter.mpr ⟨wT_1 _ (List.mem_of_getElem? (i := 110) rfl), rfl⟩
theorem wm_701 : Cond.methodLink RX6 3 ⟨"java/lang/Object", "<init>", "()V"⟩ ∈ wG := List.mem_filter.mpr ⟨wT_1 _ (List.mem_of_getElem? (i := 233) rfl), rfl⟩
theorem wm_702 : Cond.methodLink RX9 3 ⟨"java/lang/Object", "<init>", "()V"⟩ ∈ wG := List.mem_filter.mpr ⟨wT_1 _ (List.mem_of_getElem? (i := 196) rfl), rfl⟩
theorem wm_703 : Cond.methodLink RX1 3 ⟨"java/lang/Object", "<init>", "()V"⟩ ∈ wG := List.mem_filter.mpr ⟨wT_1 _ (List.mem_of_getElem? (i := 118) rfl), rfl⟩
theorem wm_704 : Cond.methodLink RX11 3 ⟨"java/lang/Object", "<init>", "()V"⟩ ∈ wG := List.mem_filter.mpr ⟨wT_1 _ (List.mem_of_getElem? (i := 25) rfl), rfl⟩
theorem wm_705 : Cond.classLink RX11 9 RX3 ∈ wG := List.mem_filter.mpr ⟨wT_1 _ (List.mem_of_getElem? (i := 28) rfl), rfl⟩
theorem wm_706 : Cond.instantiable RX3 10 ∈ wG := List.mem_filter.mpr ⟨wT_1 _ (List.mem_of_getElem? (i := 29) rfl), rfl⟩
theorem wm_707 : Cond.instanceMethod yX3_init ∈ wG := List.mem_filter.mpr ⟨wT_1 _ (List.mem_of_getElem? (i := 31) rfl), rfl⟩
theorem wm_708 : Cond.code yX3_init cX3_init 1 none ∈ wG := List.mem_filter.mpr ⟨wT_1 _ (List.mem_of_getElem? (i := 32) rfl), rfl⟩
theorem wm_709 : Cond.classLink RX11 19 RX10 ∈ wG := List.mem_filter.mpr ⟨wT_1 _ (List.mem_of_getElem? (i := 77) rfl), rfl⟩
theorem wm_710 : Cond.classLink RX11 25 RX9 ∈ wG := List.mem_filter.mpr ⟨wT_1 _ (List.mem_of_getElem? (i := 79) rfl), rfl⟩
theorem wm_711 : Cond.classLink RX11 31 RX4 ∈ wG := List.mem_filter.mpr ⟨wT_1 _ (List.mem_of_getElem? (i := 81) rfl), rfl⟩
theorem wm_712 : Cond.instantiable RX4 7 ∈ wG := List.mem_filter.mpr ⟨wT_1 _ (List.mem_of_getElem? (i := 82) rfl), rfl⟩
theorem wm_713 : Cond.instanceMethod yX4_init ∈ wG := List.mem_filter.mpr ⟨wT_1 _ (List.mem_of_getElem? (i := 84) rfl), rfl⟩
theorem wm_714 : Cond.code yX4_init cX4_init 1 none ∈ wG := List.mem_filter.mpr ⟨wT_1 _ (List.mem_of_getElem? (i := 85) rfl), rfl⟩
theorem wm_715 : Cond.classLink RX11 38 RX6 ∈ wG := List.mem_filter.mpr ⟨wT_1 _ (List.mem_of_getElem? (i := 111) rfl), rfl⟩
theorem wm_716 : Cond.classLink RX11 44 RX1 ∈ wG := List.mem_filter.mpr ⟨wT_1 _ (List.mem_of_getElem? (i := 113) rfl), rfl⟩
theorem wm_717 : Cond.instantiable RX1 8 ∈ wG := List.mem_filter.mpr ⟨wT_1 _ (List.mem_of_getElem? (i := 114) rfl), rfl⟩
theorem wm_718 : Cond.instanceMethod yX1_init ∈ wG := List.mem_filter.mpr ⟨wT_1 _ (List.mem_of_getElem? (i := 116) rfl), rfl⟩
theorem wm_719 : Cond.code yX1_init cX1_init 2 none ∈ wG := List.mem_filter.mpr ⟨wT_1 _ (List.mem_of_getElem? (i := 117) rfl), rfl⟩
theorem wm_720 : Cond.methodLink RX11 46 yX1_init ∈ wG := List.mem_filter.mpr ⟨wT_1 _ (List.mem_of_getElem? (i := 115) rfl), rfl⟩
theorem wm_721 : Cond.instantiable RX10 0 ∈ wG := List.mem_filter.mpr ⟨wT_1 _ (List.mem_of_getElem? (i := 151) rfl), rfl⟩
theorem wm_722 : Cond.classLink RX11 70 RX7 ∈ wG := List.mem_filter.mpr ⟨wT_1 _ (List.mem_of_getElem? (i := 157) rfl), rfl⟩
theorem wm_723 : Cond.instantiable RX7 0 ∈ wG := List.mem_filter.mpr ⟨wT_1 _ (List.mem_of_getElem? (i := 158) rfl), rfl⟩
theorem wm_724 : Cond.classLink RX11 73 RX5 ∈ wG := List.mem_filter.mpr ⟨wT_1 _ (List.mem_of_getElem? (i := 164) rfl), rfl⟩
theorem wm_725 : Cond.instantiable RX5 0 ∈ wG := List.mem_filter.mpr ⟨wT_1 _ (List.mem_of_getElem? (i := 165) rfl), rfl⟩
theorem wm_726 : Cond.classLink RX11 76 RX8 ∈ wG := List.mem_filter.mpr ⟨wT_1 _ (List.mem_of_getElem? (i := 171) rfl), rfl⟩
theorem wm_727 : Cond.instantiable RX8 0 ∈ wG := List.mem_filter.mpr ⟨wT_1 _ (List.mem_of_getElem? (i := 172) rfl), rfl⟩
theorem wm_728 : Cond.initialized RX8 ∈ wG := List.mem_filter.mpr ⟨wT_1 _ (List.mem_of_getElem? (i := 8) rfl), rfl⟩
theorem wm_729 : Cond.instanceMethod yX8_init ∈ wG := List.mem_filter.mpr ⟨wT_1 _ (List.mem_of_getElem? (i := 174) rfl), rfl⟩
theorem wm_730 : Cond.code yX8_init cX8_init 1 none ∈ wG := List.mem_filter.mpr ⟨wT_1 _ (List.mem_of_getElem? (i := 175) rfl), rfl⟩
theorem wm_731 : Cond.classLink RX11 79 RX0 ∈ wG := List.mem_filter.mpr ⟨wT_1 _ (List.mem_of_getElem? (i := 178) rfl), rfl⟩
theorem wm_732 : Cond.instantiable RX0 0 ∈ wG := List.mem_filter.mpr ⟨wT_1 _ (List.mem_of_getElem? (i := 179) rfl), rfl⟩
theorem wm_733 : Cond.initialized RX0 ∈ wG := List.mem_filter.mpr ⟨wT_1 _ (List.mem_of_getElem? (i := 9) rfl), rfl⟩
theorem wm_734 : Cond.instanceMethod yX0_init ∈ wG := List.mem_filter.mpr ⟨wT_1 _ (List.mem_of_getElem? (i := 181) rfl), rfl⟩
theorem wm_735 : Cond.code yX0_init cX0_init 1 none ∈ wG := List.mem_filter.mpr ⟨wT_1 _ (List.mem_of_getElem? (i := 182) rfl), rfl⟩
theorem wm_736 : Cond.classLink RX11 82 RX2 ∈ wG := List.mem_filter.mpr ⟨wT_1 _ (List.mem_of_getElem? (i := 185) rfl), rfl⟩
theorem wm_737 : Cond.instantiable RX2 0 ∈ wG := List.mem_filter.mpr ⟨wT_1 _ (List.mem_of_getElem? (i := 186) rfl), rfl⟩
theorem wm_738 : Cond.initialized RX2 ∈ wG := List.mem_filter.mpr ⟨wT_1 _ (List.mem_of_getElem? (i := 10) rfl), rfl⟩
theorem wm_739 : Cond.instanceMethod yX2_init ∈ wG := List.mem_filter.mpr ⟨wT_1 _ (List.mem_of_getElem? (i := 188) rfl), rfl⟩
theorem wm_740 : Cond.code yX2_init cX2_init 1 none ∈ wG := List.mem_filter.mpr ⟨wT_1 _ (List.mem_of_getElem? (i := 189) rfl), rfl⟩
theorem wm_741 : Cond.instantiable RX9 5 ∈ wG := List.mem_filter.mpr ⟨wT_1 _ (List.mem_of_getElem? (i := 192) rfl), rfl⟩
theorem wm_742 : Cond.instanceMethod yX9_init ∈ wG := List.mem_filter.mpr ⟨wT_1 _ (List.mem_of_getElem? (i := 194) rfl), rfl⟩
theorem wm_743 : Cond.code yX9_init cX9_init 2 none ∈ wG := List.mem_filter.mpr ⟨wT_1 _ (List.mem_of_getElem? (i := 195) rfl), rfl⟩
theorem wm_744 : Cond.methodLink RX11 85 yX9_init ∈ wG := List.mem_filter.mpr ⟨wT_1 _ (List.mem_of_getElem? (i := 193) rfl), rfl⟩
theorem wm_745 : Cond.methodLink RX11 88 yX9_becomeNumbers ∈ wG := List.mem_filter.mpr ⟨wT_1 _ (List.mem_of_getElem? (i := 213) rfl), rfl⟩
theorem wm_746 : Cond.instanceMethod yX9_becomeNumbers ∈ wG := List.mem_filter.mpr ⟨wT_1 _ (List.mem_of_getElem? (i := 214) rfl), rfl⟩
theorem wm_747 : Cond.selects RX9 yX9_becomeNumbers yX9_becomeNumbers ∈ wG := List.mem_filter.mpr ⟨wT_1 _ (List.mem_of_getElem? (i := 215) rfl), rfl⟩
theorem wm_748 : Cond.code yX9_becomeNumbers cX9_becomeNumbers 4 none ∈ wG := List.mem_filter.mpr ⟨wT_1 _ (List.mem_of_getElem? (i := 216) rfl), rfl⟩
theorem wm_749 : Cond.instantiable RX6 3 ∈ wG := List.mem_filter.mpr ⟨wT_1 _ (List.mem_of_getElem? (i := 229) rfl), rfl⟩
theorem wm_750 : Cond.instanceMethod yX6_init ∈ wG := List.mem_filter.mpr ⟨wT_1 _ (List.mem_of_getElem? (i := 231) rfl), rfl⟩
theorem wm_751 : Cond.code yX6_init cX6_init 1 none ∈ wG := List.mem_filter.mpr ⟨wT_1 _ (List.mem_of_getElem? (i := 232) rfl), rfl⟩
theorem wm_752 : Cond.methodLink RX12 1 ⟨"java/lang/Object", "<init>", "()V"⟩ ∈ wG := List.mem_filter.mpr ⟨wT_4 _ (List.mem_of_getElem? (i := 130) rfl), rfl⟩
theorem wm_753 : Cond.fieldLink RX12 46 "WhereTheSpoonWentModel" "law" "[I" ∈ wG := List.mem_filter.mpr ⟨wT_4 _ (List.mem_of_getElem? (i := 198) rfl), rfl⟩
theorem wm_754 : Cond.methodLink RX12 71 yX12_text ∈ wG := List.mem_filter.mpr ⟨wT_4 _ (List.mem_of_getElem? (i := 131) rfl), rfl⟩
theorem wm_755 : Cond.instanceMethod yX12_text ∈ wG := List.mem_filter.mpr ⟨wT_4 _ (List.mem_of_getElem? (i := 132) rfl), rfl⟩
theorem wm_756 : Cond.selects RX12 yX12_text yX12_text ∈ wG := List.mem_filter.mpr ⟨wT_4 _ (List.mem_of_getElem? (i := 133) rfl), rfl⟩
theorem wm_757 : Cond.code yX12_text cX12_text 3 (some .int) ∈ wG := List.mem_filter.mpr ⟨wT_4 _ (List.mem_of_getElem? (i := 134) rfl), rfl⟩
theorem wm_758 : Cond.methodLink RL 13 yX11_house ∈ wG := List.mem_filter.mpr ⟨wT_2 _ (List.mem_of_getElem? (i := 50) rfl), rfl⟩
theorem wm_759 : Cond.instanceMethod yX11_house ∈ wG := List.mem_filter.mpr ⟨wT_2 _ (List.mem_of_getElem? (i := 51) rfl), rfl⟩
theorem wm_760 : Cond.selects RX11 yX11_house yX11_house ∈ wG := List.mem_filter.mpr ⟨wT_2 _ (List.mem_of_getElem? (i := 52) rfl), rfl⟩
theorem wm_761 : Cond.code yX11_house cX11_house 5 (some .int) ∈ wG := List.mem_filter.mpr ⟨wT_2 _ (List.mem_of_getElem? (i := 53) rfl), rfl⟩
theorem wm_762 : Cond.methodLink RL 17 yX12_house ∈ wG := List.mem_filter.mpr ⟨wT_5 _ (List.mem_of_getElem? (i := 47) rfl), rfl⟩
theorem wm_763 : Cond.instanceMethod yX12_house ∈ wG := List.mem_filter.mpr ⟨wT_5 _ (List.mem_of_getElem? (i := 48) rfl), rfl⟩
theorem wm_764 : Cond.selects RX12 yX12_house yX12_house ∈ wG := List.mem_filter.mpr ⟨wT_5 _ (List.mem_of_getElem? (i := 49) rfl), rfl⟩
theorem wm_765 : Cond.code yX12_house cX12_house 5 (some .int) ∈ wG := List.mem_filter.mpr ⟨wT_5 _ (List.mem_of_getElem? (i := 50) rfl), rfl⟩
theorem wm_766 : Cond.methodLink RL 18 yX11_set ∈ wG := List.mem_filter.mpr ⟨wT_2 _ (List.mem_of_getElem? (i := 72) rfl), rfl⟩
theorem wm_767 : Cond.instanceMethod yX11_set ∈ wG := List.mem_filter.mpr ⟨wT_2 _ (List.mem_of_getElem? (i := 73) rfl), rfl⟩
theorem wm_768 : Cond.selects RX11 yX11_set yX11_set ∈ wG := List.mem_filter.mpr ⟨wT_2 _ (List.mem_of_getElem? (i := 74) rfl), rfl⟩
theorem wm_769 : Cond.code yX11_set cX11_set 3 (some .int) ∈ wG := List.mem_filter.mpr ⟨wT_2 _ (List.mem_of_getElem? (i := 75) rfl), rfl⟩
theorem wm_770 : Cond.methodLink RL 22 yX12_set ∈ wG := List.mem_filter.mpr ⟨wT_5 _ (List.mem_of_getElem? (i := 62) rfl), rfl⟩
theorem wm_771 : Cond.instanceMethod yX12_set ∈ wG := List.mem_filter.mpr ⟨wT_5 _ (List.mem_of_getElem? (i := 63) rfl), rfl⟩
theorem wm_772 : Cond.selects RX12 yX12_set yX12_set ∈ wG := List.mem_filter.mpr ⟨wT_5 _ (List.mem_of_getElem? (i := 64) rfl), rfl⟩
theorem wm_773 : Cond.code yX12_set cX12_set 3 (some .int) ∈ wG := List.mem_filter.mpr ⟨wT_5 _ (List.mem_of_getElem? (i := 65) rfl), rfl⟩
theorem wm_774 : Cond.methodLink RL 23 yX11_count ∈ wG := List.mem_filter.mpr ⟨wT_2 _ (List.mem_of_getElem? (i := 79) rfl), rfl⟩
theorem wm_775 : Cond.instanceMethod yX11_count ∈ wG := List.mem_filter.mpr ⟨wT_2 _ (List.mem_of_getElem? (i := 80) rfl), rfl⟩
theorem wm_776 : Cond.selects RX11 yX11_count yX11_count ∈ wG := List.mem_filter.mpr ⟨wT_2 _ (List.mem_of_getElem? (i := 81) rfl), rfl⟩
theorem wm_777 : Cond.code yX11_count cX11_count 2 (some .int) ∈ wG := List.mem_filter.mpr ⟨wT_2 _ (List.mem_of_getElem? (i := 82) rfl), rfl⟩
theorem wm_778 : Cond.methodLink RL 26 yX12_count ∈ wG := List.mem_filter.mpr ⟨wT_5 _ (List.mem_of_getElem? (i := 66) rfl), rfl⟩
theorem wm_779 : Cond.instanceMethod yX12_count ∈ wG := List.mem_filter.mpr ⟨wT_5 _ (List.mem_of_getElem? (i := 67) rfl), rfl⟩
theorem wm_780 : Cond.selects RX12 yX12_count yX12_count ∈ wG := List.mem_filter.mpr ⟨wT_5 _ (List.mem_of_getElem? (i := 68) rfl), rfl⟩
theorem wm_781 : Cond.code yX12_count cX12_count 2 (some .int) ∈ wG := List.mem_filter.mpr ⟨wT_5 _ (List.mem_of_getElem? (i := 69) rfl), rfl⟩
theorem wm_782 : Cond.methodLink RL 27 yX11_feed ∈ wG := List.mem_filter.mpr ⟨wT_2 _ (List.mem_of_getElem? (i := 83) rfl), rfl⟩
theorem wm_783 : Cond.instanceMethod yX11_feed ∈ wG := List.mem_filter.mpr ⟨wT_2 _ (List.mem_of_getElem? (i := 84) rfl), rfl⟩
theorem wm_784 : Cond.selects RX11 yX11_feed yX11_feed ∈ wG := List.mem_filter.mpr ⟨wT_2 _ (List.mem_of_getElem? (i := 85) rfl), rfl⟩
theorem wm_785 : Cond.code yX11_feed cX11_feed 8 (some .int) ∈ wG := List.mem_filter.mpr ⟨wT_2 _ (List.mem_of_getElem? (i := 86) rfl), rfl⟩
theorem wm_786 : Cond.methodLink RL 31 yX12_feed ∈ wG := List.mem_filter.mpr ⟨wT_5 _ (List.mem_of_getElem? (i := 70) rfl), rfl⟩
theorem wm_787 : Cond.instanceMethod yX12_feed ∈ wG := List.mem_filter.mpr ⟨wT_5 _ (List.mem_of_getElem? (i := 71) rfl), rfl⟩
theorem wm_788 : Cond.selects RX12 yX12_feed yX12_feed ∈ wG := List.mem_filter.mpr ⟨wT_5 _ (List.mem_of_getElem? (i := 72) rfl), rfl⟩
theorem wm_789 : Cond.code yX12_feed cX12_feed 8 (some .int) ∈ wG := List.mem_filter.mpr ⟨wT_5 _ (List.mem_of_getElem? (i := 73) rfl), rfl⟩
theorem wm_790 : Cond.methodLink RL 32 yX11_text ∈ wG := List.mem_filter.mpr ⟨wT_2 _ (List.mem_of_getElem? (i := 94) rfl), rfl⟩
theorem wm_791 : Cond.instanceMethod yX11_text ∈ wG := List.mem_filter.mpr ⟨wT_2 _ (List.mem_of_getElem? (i := 95) rfl), rfl⟩
theorem wm_792 : Cond.selects RX11 yX11_text yX11_text ∈ wG := List.mem_filter.mpr ⟨wT_2 _ (List.mem_of_getElem? (i := 96) rfl), rfl⟩
theorem wm_793 : Cond.code yX11_text cX11_text 2 (some .int) ∈ wG := List.mem_filter.mpr ⟨wT_2 _ (List.mem_of_getElem? (i := 97) rfl), rfl⟩
theorem wm_794 : Cond.methodLink RL 36 yX12_text ∈ wG := List.mem_filter.mpr ⟨wT_5 _ (List.mem_of_getElem? (i := 77) rfl), rfl⟩
theorem wm_795 : Cond.methodLink RL 37 yX11_force ∈ wG := List.mem_filter.mpr ⟨wT_2 _ (List.mem_of_getElem? (i := 226) rfl), rfl⟩
theorem wm_796 : Cond.instanceMethod yX11_force ∈ wG := List.mem_filter.mpr ⟨wT_2 _ (List.mem_of_getElem? (i := 227) rfl), rfl⟩
theorem wm_797 : Cond.selects RX11 yX11_force yX11_force ∈ wG := List.mem_filter.mpr ⟨wT_2 _ (List.mem_of_getElem? (i := 228) rfl), rfl⟩
theorem wm_798 : Cond.code yX11_force cX11_force 3 (some .int) ∈ wG := List.mem_filter.mpr ⟨wT_2 _ (List.mem_of_getElem? (i := 229) rfl), rfl⟩
theorem wm_799 : Cond.methodLink RL 40 yX12_force ∈ wG := List.mem_filter.mpr ⟨wT_5 _ (List.mem_of_getElem? (i := 78) rfl), rfl⟩
theorem wm_800 : Cond.instanceMethod yX12_force ∈ wG := List.mem_filter.mpr ⟨wT_5 _ (List.mem_of_getElem? (i := 79) rfl), rfl⟩
theorem wm_801 : Cond.selects RX12 yX12_force yX12_force ∈ wG := List.mem_filter.mpr ⟨wT_5 _ (List.mem_of_getElem? (i := 80) rfl), rfl⟩
theorem wm_802 : Cond.code yX12_force cX12_force 3 (some .int) ∈ wG := List.mem_filter.mpr ⟨wT_5 _ (List.mem_of_getElem? (i := 81) rfl), rfl⟩
theorem wm_803 : Cond.methodLink RL 41 yX11_asks ∈ wG := List.mem_filter.mpr ⟨wT_2 _ (List.mem_of_getElem? (i := 230) rfl), rfl⟩
theorem wm_804 : Cond.instanceMethod yX11_asks ∈ wG := List.mem_filter.mpr ⟨wT_2 _ (List.mem_of_getElem? (i := 231) rfl), rfl⟩
theorem wm_805 : Cond.selects RX11 yX11_asks yX11_asks ∈ wG := List.mem_filter.mpr ⟨wT_2 _ (List.mem_of_getElem? (i := 232) rfl), rfl⟩
theorem wm_806 : Cond.code yX11_asks cX11_asks 5 (some .int) ∈ wG := List.mem_filter.mpr ⟨wT_2 _ (List.mem_of_getElem? (i := 233) rfl), rfl⟩
theorem wm_807 : Cond.methodLink RL 45 yX12_asks ∈ wG := List.mem_filter.mpr ⟨wT_5 _ (List.mem_of_getElem? (i := 82) rfl), rfl⟩
theorem wm_808 : Cond.instanceMethod yX12_asks ∈ wG := List.mem_filter.mpr ⟨wT_5 _ (List.mem_of_getElem? (i := 83) rfl), rfl⟩
theorem wm_809 : Cond.selects RX12 yX12_asks yX12_asks ∈ wG := List.mem_filter.mpr ⟨wT_5 _ (List.mem_of_getElem? (i := 84) rfl), rfl⟩
theorem wm_810 : Cond.code yX12_asks cX12_asks 6 (some .int) ∈ wG := List.mem_filter.mpr ⟨wT_5 _ (List.mem_of_getElem? (i := 85) rfl), rfl⟩
theorem wm_811 : Cond.methodLink RL 46 yX11_thing ∈ wG := List.mem_filter.mpr ⟨wT_3 _ (List.mem_of_getElem? (i := 14) rfl), rfl⟩
theorem wm_812 : Cond.methodLink RL 49 yX12_thing ∈ wG := List.mem_filter.mpr ⟨wT_5 _ (List.mem_of_getElem? (i := 100) rfl), rfl⟩
theorem wm_813 : Cond.methodLink RL 50 yX11_put ∈ wG := List.mem_filter.mpr ⟨wT_3 _ (List.mem_of_getElem? (i := 25) rfl), rfl⟩
theorem wm_814 : Cond.instanceMethod yX11_put ∈ wG := List.mem_filter.mpr ⟨wT_3 _ (List.mem_of_getElem? (i := 26) rfl), rfl⟩
theorem wm_815 : Cond.selects RX11 yX11_put yX11_put ∈ wG := List.mem_filter.mpr ⟨wT_3 _ (List.mem_of_getElem? (i := 27) rfl), rfl⟩
theorem wm_816 : Cond.code yX11_put cX11_put 5 (some .int) ∈ wG := List.mem_filter.mpr ⟨wT_3 _ (List.mem_of_getElem? (i := 28) rfl), rfl⟩
theorem wm_817 : Cond.methodLink RL 53 yX12_put ∈ wG := List.mem_filter.mpr ⟨wT_5 _ (List.mem_of_getElem? (i := 108) rfl), rfl⟩
theorem wm_818 : Cond.instanceMethod yX12_put ∈ wG := List.mem_filter.mpr ⟨wT_5 _ (List.mem_of_getElem? (i := 109) rfl), rfl⟩
theorem wm_819 : Cond.selects RX12 yX12_put yX12_put ∈ wG := List.mem_filter.mpr ⟨wT_5 _ (List.mem_of_getElem? (i := 110) rfl), rfl⟩
theorem wm_820 : Cond.code yX12_put cX12_put 5 (some .int) ∈ wG := List.mem_filter.mpr ⟨wT_5 _ (List.mem_of_getElem? (i := 111) rfl), rfl⟩
theorem wm_821 : Cond.methodLink RL 54 yX11_told ∈ wG := List.mem_filter.mpr ⟨wT_3 _ (List.mem_of_getElem? (i := 33) rfl), rfl⟩
theorem wm_822 : Cond.instanceMethod yX11_told ∈ wG := List.mem_filter.mpr ⟨wT_3 _ (List.mem_of_getElem? (i := 34) rfl), rfl⟩
theorem wm_823 : Cond.selects RX11 yX11_told yX11_told ∈ wG := List.mem_filter.mpr ⟨wT_3 _ (List.mem_of_getElem? (i := 35) rfl), rfl⟩
theorem wm_824 : Cond.code yX11_told cX11_told 3 (some .int) ∈ wG := List.mem_filter.mpr ⟨wT_3 _ (List.mem_of_getElem? (i := 36) rfl), rfl⟩
theorem wm_825 : Cond.methodLink RL 58 yX12_told ∈ wG := List.mem_filter.mpr ⟨wT_5 _ (List.mem_of_getElem? (i := 116) rfl), rfl⟩
theorem wm_826 : Cond.instanceMethod yX12_told ∈ wG := List.mem_filter.mpr ⟨wT_5 _ (List.mem_of_getElem? (i := 117) rfl), rfl⟩
theorem wm_827 : Cond.selects RX12 yX12_told yX12_told ∈ wG := List.mem_filter.mpr ⟨wT_5 _ (List.mem_of_getElem? (i := 118) rfl), rfl⟩
theorem wm_828 : Cond.code yX12_told cX12_told 3 (some .int) ∈ wG := List.mem_filter.mpr ⟨wT_5 _ (List.mem_of_getElem? (i := 119) rfl), rfl⟩
theorem wm_829 : Cond.methodLink RL 59 yX11_at ∈ wG := List.mem_filter.mpr ⟨wT_3 _ (List.mem_of_getElem? (i := 37) rfl), rfl⟩
theorem wm_830 : Cond.instanceMethod yX11_at ∈ wG := List.mem_filter.mpr ⟨wT_3 _ (List.mem_of_getElem? (i := 38) rfl), rfl⟩
theorem wm_831 : Cond.selects RX11 yX11_at yX11_at ∈ wG := List.mem_filter.mpr ⟨wT_3 _ (List.mem_of_getElem? (i := 39) rfl), rfl⟩
theorem wm_832 : Cond.code yX11_at cX11_at 5 (some .int) ∈ wG := List.mem_filter.mpr ⟨wT_3 _ (List.mem_of_getElem? (i := 40) rfl), rfl⟩
theorem wm_833 : Cond.methodLink RL 62 yX12_at ∈ wG := List.mem_filter.mpr ⟨wT_5 _ (List.mem_of_getElem? (i := 120) rfl), rfl⟩
theorem wm_834 : Cond.instanceMethod yX12_at ∈ wG := List.mem_filter.mpr ⟨wT_5 _ (List.mem_of_getElem? (i := 121) rfl), rfl⟩
theorem wm_835 : Cond.selects RX12 yX12_at yX12_at ∈ wG := List.mem_filter.mpr ⟨wT_5 _ (List.mem_of_getElem? (i := 122) rfl), rfl⟩
theorem wm_836 : Cond.code yX12_at cX12_at 5 (some .int) ∈ wG := List.mem_filter.mpr ⟨wT_5 _ (List.mem_of_getElem? (i := 123) rfl), rfl⟩
theorem wm_837 : Cond.methodLink RL 63 yX11_run ∈ wG := List.mem_filter.mpr ⟨wT_3 _ (List.mem_of_getElem? (i := 117) rfl), rfl⟩
theorem wm_838 : Cond.instanceMethod yX11_run ∈ wG := List.mem_filter.mpr ⟨wT_3 _ (List.mem_of_getElem? (i := 118) rfl), rfl⟩
theorem wm_839 : Cond.selects RX11 yX11_run yX11_run ∈ wG := List.mem_filter.mpr ⟨wT_3 _ (List.mem_of_getElem? (i := 119) rfl), rfl⟩
theorem wm_840 : Cond.code yX11_run cX11_run 5 (some .int) ∈ wG := List.mem_filter.mpr ⟨wT_3 _ (List.mem_of_getElem? (i := 120) rfl), rfl⟩
theorem wm_841 : Cond.methodLink RL 66 yX12_run ∈ wG := List.mem_filter.mpr ⟨wT_5 _ (List.mem_of_getElem? (i := 154) rfl), rfl⟩
theorem wm_842 : Cond.instanceMethod yX12_run ∈ wG := List.mem_filter.mpr ⟨wT_5 _ (List.mem_of_getElem? (i := 155) rfl), rfl⟩
theorem wm_843 : Cond.selects RX12 yX12_run yX12_run ∈ wG := List.mem_filter.mpr ⟨wT_5 _ (List.mem_of_getElem? (i := 156) rfl), rfl⟩
theorem wm_844 : Cond.code yX12_run cX12_run 4 (some .int) ∈ wG := List.mem_filter.mpr ⟨wT_5 _ (List.mem_of_getElem? (i := 157) rfl), rfl⟩
theorem wm_845 : Cond.methodLink RL 67 yX11_when ∈ wG := List.mem_filter.mpr ⟨wT_3 _ (List.mem_of_getElem? (i := 122) rfl), rfl⟩
theorem wm_846 : Cond.instanceMethod yX11_when ∈ wG := List.mem_filter.mpr ⟨wT_3 _ (List.mem_of_getElem? (i := 123) rfl), rfl⟩
theorem wm_847 : Cond.selects RX11 yX11_when yX11_when ∈ wG := List.mem_filter.mpr ⟨wT_3 _ (List.mem_of_getElem? (i := 124) rfl), rfl⟩
theorem wm_848 : Cond.code yX11_when cX11_when 3 (some .int) ∈ wG := List.mem_filter.mpr ⟨wT_3 _ (List.mem_of_getElem? (i := 125) rfl), rfl⟩
theorem wm_849 : Cond.methodLink RL 70 yX12_when ∈ wG := List.mem_filter.mpr ⟨wT_5 _ (List.mem_of_getElem? (i := 158) rfl), rfl⟩
theorem wm_850 : Cond.instanceMethod yX12_when ∈ wG := List.mem_filter.mpr ⟨wT_5 _ (List.mem_of_getElem? (i := 159) rfl), rfl⟩
theorem wm_851 : Cond.selects RX12 yX12_when yX12_when ∈ wG := List.mem_filter.mpr ⟨wT_5 _ (List.mem_of_getElem? (i := 160) rfl), rfl⟩
theorem wm_852 : Cond.code yX12_when cX12_when 3 (some .int) ∈ wG := List.mem_filter.mpr ⟨wT_5 _ (List.mem_of_getElem? (i := 161) rfl), rfl⟩
theorem wm_853 : Cond.methodLink RL 71 yX11_meet ∈ wG := List.mem_filter.mpr ⟨wT_3 _ (List.mem_of_getElem? (i := 142) rfl), rfl⟩
theorem wm_854 : Cond.instanceMethod yX11_meet ∈ wG := List.mem_filter.mpr ⟨wT_3 _ (List.mem_of_getElem? (i := 143) rfl), rfl⟩
theorem wm_855 : Cond.selects RX11 yX11_meet yX11_meet ∈ wG := List.mem_filter.mpr ⟨wT_3 _ (List.mem_of_getElem? (i := 144) rfl), rfl⟩
theorem wm_856 : Cond.code yX11_meet cX11_meet 5 (some .int) ∈ wG := List.mem_filter.mpr ⟨wT_3 _ (List.mem_of_getElem? (i := 145) rfl), rfl⟩
theorem wm_857 : Cond.methodLink RL 74 yX12_meet ∈ wG := List.mem_filter.mpr ⟨wT_5 _ (List.mem_of_getElem? (i := 166) rfl), rfl⟩
theorem wm_858 : Cond.instanceMethod yX12_meet ∈ wG := List.mem_filter.mpr ⟨wT_5 _ (List.mem_of_getElem? (i := 167) rfl), rfl⟩
theorem wm_859 : Cond.selects RX12 yX12_meet yX12_meet ∈ wG := List.mem_filter.mpr ⟨wT_5 _ (List.mem_of_getElem? (i := 168) rfl), rfl⟩
theorem wm_860 : Cond.code yX12_meet cX12_meet 5 (some .int) ∈ wG := List.mem_filter.mpr ⟨wT_5 _ (List.mem_of_getElem? (i := 169) rfl), rfl⟩
theorem wm_861 : Cond.methodLink RL 75 yX11_inside ∈ wG := List.mem_filter.mpr ⟨wT_3 _ (List.mem_of_getElem? (i := 146) rfl), rfl⟩
theorem wm_862 : Cond.instanceMethod yX11_inside ∈ wG := List.mem_filter.mpr ⟨wT_3 _ (List.mem_of_getElem? (i := 147) rfl), rfl⟩
theorem wm_863 : Cond.selects RX11 yX11_inside yX11_inside ∈ wG := List.mem_filter.mpr ⟨wT_3 _ (List.mem_of_getElem? (i := 148) rfl), rfl⟩
theorem wm_864 : Cond.code yX11_inside cX11_inside 5 (some .int) ∈ wG := List.mem_filter.mpr ⟨wT_3 _ (List.mem_of_getElem? (i := 149) rfl), rfl⟩
theorem wm_865 : Cond.methodLink RL 78 yX12_inside ∈ wG := List.mem_filter.mpr ⟨wT_5 _ (List.mem_of_getElem? (i := 170) rfl), rfl⟩
theorem wm_866 : Cond.instanceMethod yX12_inside ∈ wG := List.mem_filter.mpr ⟨wT_5 _ (List.mem_of_getElem? (i := 171) rfl), rfl⟩
theorem wm_867 : Cond.selects RX12 yX12_inside yX12_inside ∈ wG := List.mem_filter.mpr ⟨wT_5 _ (List.mem_of_getElem? (i := 172) rfl), rfl⟩
theorem wm_868 : Cond.code yX12_inside cX12_inside 5 (some .int) ∈ wG := List.mem_filter.mpr ⟨wT_5 _ (List.mem_of_getElem? (i := 173) rfl), rfl⟩
theorem wm_869 : Cond.methodLink RL 79 yX11_hand ∈ wG := List.mem_filter.mpr ⟨wT_3 _ (List.mem_of_getElem? (i := 150) rfl), rfl⟩
theorem wm_870 : Cond.instanceMethod yX11_hand ∈ wG := List.mem_filter.mpr ⟨wT_3 _ (List.mem_of_getElem? (i := 151) rfl), rfl⟩
theorem wm_871 : Cond.selects RX11 yX11_hand yX11_hand ∈ wG := List.mem_filter.mpr ⟨wT_3 _ (List.mem_of_getElem? (i := 152) rfl), rfl⟩
theorem wm_872 : Cond.code yX11_hand cX11_hand 3 (some .int) ∈ wG := List.mem_filter.mpr ⟨wT_3 _ (List.mem_of_getElem? (i := 153) rfl), rfl⟩
theorem wm_873 : Cond.methodLink RL 82 yX12_hand ∈ wG := List.mem_filter.mpr ⟨wT_5 _ (List.mem_of_getElem? (i := 174) rfl), rfl⟩
theorem wm_874 : Cond.instanceMethod yX12_hand ∈ wG := List.mem_filter.mpr ⟨wT_5 _ (List.mem_of_getElem? (i := 175) rfl), rfl⟩
theorem wm_875 : Cond.selects RX12 yX12_hand yX12_hand ∈ wG := List.mem_filter.mpr ⟨wT_5 _ (List.mem_of_getElem? (i := 176) rfl), rfl⟩
theorem wm_876 : Cond.code yX12_hand cX12_hand 3 (some .int) ∈ wG := List.mem_filter.mpr ⟨wT_5 _ (List.mem_of_getElem? (i := 177) rfl), rfl⟩
theorem wm_877 : Cond.methodLink RL 83 yX11_first ∈ wG := List.mem_filter.mpr ⟨wT_3 _ (List.mem_of_getElem? (i := 167) rfl), rfl⟩
theorem wm_878 : Cond.instanceMethod yX11_first ∈ wG := List.mem_filter.mpr ⟨wT_3 _ (List.mem_of_getElem? (i := 168) rfl), rfl⟩
theorem wm_879 : Cond.selects RX11 yX11_first yX11_first ∈ wG := List.mem_filter.mpr ⟨wT_3 _ (List.mem_of_getElem? (i := 169) rfl), rfl⟩
theorem wm_880 : Cond.code yX11_first cX11_first 8 (some .int) ∈ wG := List.mem_filter.mpr ⟨wT_3 _ (List.mem_of_getElem? (i := 170) rfl), rfl⟩
theorem wm_881 : Cond.methodLink RL 86 yX12_first ∈ wG := List.mem_filter.mpr ⟨wT_5 _ (List.mem_of_getElem? (i := 186) rfl), rfl⟩
theorem wm_882 : Cond.instanceMethod yX12_first ∈ wG := List.mem_filter.mpr ⟨wT_5 _ (List.mem_of_getElem? (i := 187) rfl), rfl⟩
theorem wm_883 : Cond.selects RX12 yX12_first yX12_first ∈ wG := List.mem_filter.mpr ⟨wT_5 _ (List.mem_of_getElem? (i := 188) rfl), rfl⟩
theorem wm_884 : Cond.code yX12_first cX12_first 9 (some .int) ∈ wG := List.mem_filter.mpr ⟨wT_5 _ (List.mem_of_getElem? (i := 189) rfl), rfl⟩
theorem wm_885 : Cond.methodLink RL 87 yX11_wait ∈ wG := List.mem_filter.mpr ⟨wT_3 _ (List.mem_of_getElem? (i := 171) rfl), rfl⟩
theorem wm_886 : Cond.instanceMethod yX11_wait ∈ wG := List.mem_filter.mpr ⟨wT_3 _ (List.mem_of_getElem? (i := 172) rfl), rfl⟩
theorem wm_887 : Cond.selects RX11 yX11_wait yX11_wait ∈ wG := List.mem_filter.mpr ⟨wT_3 _ (List.mem_of_getElem? (i := 173) rfl), rfl⟩
theorem wm_888 : Cond.code yX11_wait cX11_wait 7 (some .int) ∈ wG := List.mem_filter.mpr ⟨wT_3 _ (List.mem_of_getElem? (i := 174) rfl), rfl⟩
theorem wm_889 : Cond.methodLink RL 90 yX12_wait ∈ wG := List.mem_filter.mpr ⟨wT_5 _ (List.mem_of_getElem? (i := 190) rfl), rfl⟩
theorem wm_890 : Cond.instanceMethod yX12_wait ∈ wG := List.mem_filter.mpr ⟨wT_5 _ (List.mem_of_getElem? (i := 191) rfl), rfl⟩
theorem wm_891 : Cond.selects RX12 yX12_wait yX12_wait ∈ wG := List.mem_filter.mpr ⟨wT_5 _ (List.mem_of_getElem? (i := 192) rfl), rfl⟩
theorem wm_892 : Cond.code yX12_wait cX12_wait 8 (some .int) ∈ wG := List.mem_filter.mpr ⟨wT_5 _ (List.mem_of_getElem? (i := 193) rfl), rfl⟩
theorem wm_893 : Cond.methodLink RL 91 yX11_toss ∈ wG := List.mem_filter.mpr ⟨wT_3 _ (List.mem_of_getElem? (i := 175) rfl), rfl⟩
theorem wm_894 : Cond.instanceMethod yX11_toss ∈ wG := List.mem_filter.mpr ⟨wT_3 _ (List.mem_of_getElem? (i := 176) rfl), rfl⟩
theorem wm_895 : Cond.selects RX11 yX11_toss yX11_toss ∈ wG := List.mem_filter.mpr ⟨wT_3 _ (List.mem_of_getElem? (i := 177) rfl), rfl⟩
theorem wm_896 : Cond.code yX11_toss cX11_toss 9 (some .int) ∈ wG := List.mem_filter.mpr ⟨wT_3 _ (List.mem_of_getElem? (i := 178) rfl), rfl⟩
theorem wm_897 : Cond.methodLink RL 94 yX12_toss ∈ wG := List.mem_filter.mpr ⟨wT_5 _ (List.mem_of_getElem? (i := 194) rfl), rfl⟩
theorem wm_898 : Cond.instanceMethod yX12_toss ∈ wG := List.mem_filter.mpr ⟨wT_5 _ (List.mem_of_getElem? (i := 195) rfl), rfl⟩
theorem wm_899 : Cond.selects RX12 yX12_toss yX12_toss ∈ wG := List.mem_filter.mpr ⟨wT_5 _ (List.mem_of_getElem? (i := 196) rfl), rfl⟩
theorem wm_900 : Cond.code yX12_toss cX12_toss 9 (some .int) ∈ wG := List.mem_filter.mpr ⟨wT_5 _ (List.mem_of_getElem? (i := 197) rfl), rfl⟩
theorem wm_901 : Cond.methodLink RL 95 yX11_key ∈ wG := List.mem_filter.mpr ⟨wT_3 _ (List.mem_of_getElem? (i := 183) rfl), rfl⟩
theorem wm_902 : Cond.instanceMethod yX11_key ∈ wG := List.mem_filter.mpr ⟨wT_3 _ (List.mem_of_getElem? (i := 184) rfl), rfl⟩
theorem wm_903 : Cond.selects RX11 yX11_key yX11_key ∈ wG := List.mem_filter.mpr ⟨wT_3 _ (List.mem_of_getElem? (i := 185) rfl), rfl⟩
theorem wm_904 : Cond.code yX11_key cX11_key 3 (some .int) ∈ wG := List.mem_filter.mpr ⟨wT_3 _ (List.mem_of_getElem? (i := 186) rfl), rfl⟩
theorem wm_905 : Cond.methodLink RL 98 yX12_key ∈ wG := List.mem_filter.mpr ⟨wT_5 _ (List.mem_of_getElem? (i := 198) rfl), rfl⟩
theorem wm_906 : Cond.instanceMethod yX12_key ∈ wG := List.mem_filter.mpr ⟨wT_5 _ (List.mem_of_getElem? (i := 199) rfl), rfl⟩
theorem wm_907 : Cond.selects RX12 yX12_key yX12_key ∈ wG := List.mem_filter.mpr ⟨wT_5 _ (List.mem_of_getElem? (i := 200) rfl), rfl⟩
theorem wm_908 : Cond.code yX12_key cX12_key 3 (some .int) ∈ wG := List.mem_filter.mpr ⟨wT_5 _ (List.mem_of_getElem? (i := 201) rfl), rfl⟩
theorem wm_909 : Cond.methodLink RL 99 yX11_turn ∈ wG := List.mem_filter.mpr ⟨wT_3 _ (List.mem_of_getElem? (i := 187) rfl), rfl⟩
theorem wm_910 : Cond.instanceMethod yX11_turn ∈ wG := List.mem_filter.mpr ⟨wT_3 _ (List.mem_of_getElem? (i := 188) rfl), rfl⟩
theorem wm_911 : Cond.selects RX11 yX11_turn yX11_turn ∈ wG := List.mem_filter.mpr ⟨wT_3 _ (List.mem_of_getElem? (i := 189) rfl), rfl⟩
theorem wm_912 : Cond.code yX11_turn cX11_turn 8 (some .int) ∈ wG := List.mem_filter.mpr ⟨wT_3 _ (List.mem_of_getElem? (i := 190) rfl), rfl⟩
theorem wm_913 : Cond.methodLink RL 102 yX12_turn ∈ wG := List.mem_filter.mpr ⟨wT_5 _ (List.mem_of_getElem? (i := 202) rfl), rfl⟩
theorem wm_914 : Cond.instanceMethod yX12_turn ∈ wG := List.mem_filter.mpr ⟨wT_5 _ (List.mem_of_getElem? (i := 203) rfl), rfl⟩
theorem wm_915 : Cond.selects RX12 yX12_turn yX12_turn ∈ wG := List.mem_filter.mpr ⟨wT_5 _ (List.mem_of_getElem? (i := 204) rfl), rfl⟩
theorem wm_916 : Cond.code yX12_turn cX12_turn 9 (some .int) ∈ wG := List.mem_filter.mpr ⟨wT_5 _ (List.mem_of_getElem? (i := 205) rfl), rfl⟩
theorem wm_917 : Cond.methodLink RL 103 yX11_net ∈ wG := List.mem_filter.mpr ⟨wT_3 _ (List.mem_of_getElem? (i := 191) rfl), rfl⟩
theorem wm_918 : Cond.instanceMethod yX11_net ∈ wG := List.mem_filter.mpr ⟨wT_3 _ (List.mem_of_getElem? (i := 192) rfl), rfl⟩
theorem wm_919 : Cond.selects RX11 yX11_net yX11_net ∈ wG := List.mem_filter.mpr ⟨wT_3 _ (List.mem_of_getElem? (i := 193) rfl), rfl⟩
theorem wm_920 : Cond.code yX11_net cX11_net 7 (some .int) ∈ wG := List.mem_filter.mpr ⟨wT_3 _ (List.mem_of_getElem? (i := 194) rfl), rfl⟩
theorem wm_921 : Cond.methodLink RL 106 yX12_net ∈ wG := List.mem_filter.mpr ⟨wT_5 _ (List.mem_of_getElem? (i := 210) rfl), rfl⟩
theorem wm_922 : Cond.instanceMethod yX12_net ∈ wG := List.mem_filter.mpr ⟨wT_5 _ (List.mem_of_getElem? (i := 211) rfl), rfl⟩
theorem wm_923 : Cond.selects RX12 yX12_net yX12_net ∈ wG := List.mem_filter.mpr ⟨wT_5 _ (List.mem_of_getElem? (i := 212) rfl), rfl⟩
theorem wm_924 : Cond.code yX12_net cX12_net 7 (some .int) ∈ wG := List.mem_filter.mpr ⟨wT_5 _ (List.mem_of_getElem? (i := 213) rfl), rfl⟩
theorem wm_925 : Cond.methodLink RL 107 yX11_can ∈ wG := List.mem_filter.mpr ⟨wT_3 _ (List.mem_of_getElem? (i := 199) rfl), rfl⟩
theorem wm_926 : Cond.instanceMethod yX11_can ∈ wG := List.mem_filter.mpr ⟨wT_3 _ (List.mem_of_getElem? (i := 200) rfl), rfl⟩
theorem wm_927 : Cond.selects RX11 yX11_can yX11_can ∈ wG := List.mem_filter.mpr ⟨wT_3 _ (List.mem_of_getElem? (i := 201) rfl), rfl⟩
theorem wm_928 : Cond.code yX11_can cX11_can 5 (some .int) ∈ wG := List.mem_filter.mpr ⟨wT_3 _ (List.mem_of_getElem? (i := 202) rfl), rfl⟩
theorem wm_929 : Cond.methodLink RL 110 yX12_can ∈ wG := List.mem_filter.mpr ⟨wT_5 _ (List.mem_of_getElem? (i := 218) rfl), rfl⟩
theorem wm_930 : Cond.instanceMethod yX12_can ∈ wG := List.mem_filter.mpr ⟨wT_5 _ (List.mem_of_getElem? (i := 219) rfl), rfl⟩
theorem wm_931 : Cond.selects RX12 yX12_can yX12_can ∈ wG := List.mem_filter.mpr ⟨wT_5 _ (List.mem_of_getElem? (i := 220) rfl), rfl⟩
theorem wm_932 : Cond.code yX12_can cX12_can 5 (some .int) ∈ wG := List.mem_filter.mpr ⟨wT_5 _ (List.mem_of_getElem? (i := 221) rfl), rfl⟩
theorem wm_933 : Cond.methodLink RL 111 yX11_look ∈ wG := List.mem_filter.mpr ⟨wT_3 _ (List.mem_of_getElem? (i := 207) rfl), rfl⟩
theorem wm_934 : Cond.instanceMethod yX11_look ∈ wG := List.mem_filter.mpr ⟨wT_3 _ (List.mem_of_getElem? (i := 208) rfl), rfl⟩
theorem wm_935 : Cond.selects RX11 yX11_look yX11_look ∈ wG := List.mem_filter.mpr ⟨wT_3 _ (List.mem_of_getElem? (i := 209) rfl), rfl⟩
theorem wm_936 : Cond.code yX11_look cX11_look 6 (some .int) ∈ wG := List.mem_filter.mpr ⟨wT_3 _ (List.mem_of_getElem? (i := 210) rfl), rfl⟩
theorem wm_937 : Cond.methodLink RL 114 yX12_look ∈ wG := List.mem_filter.mpr ⟨wT_5 _ (List.mem_of_getElem? (i := 226) rfl), rfl⟩
theorem wm_938 : Cond.instanceMethod yX12_look ∈ wG := List.mem_filter.mpr ⟨wT_5 _ (List.mem_of_getElem? (i := 227) rfl), rfl⟩
theorem wm_939 : Cond.selects RX12 yX12_look yX12_look ∈ wG := List.mem_filter.mpr ⟨wT_5 _ (List.mem_of_getElem? (i := 228) rfl), rfl⟩
theorem wm_940 : Cond.code yX12_look cX12_look 6 (some .int) ∈ wG := List.mem_filter.mpr ⟨wT_5 _ (List.mem_of_getElem? (i := 229) rfl), rfl⟩
theorem wm_941 : Cond.methodLink RL 115 yX11_went ∈ wG := List.mem_filter.mpr ⟨wT_3 _ (List.mem_of_getElem? (i := 215) rfl), rfl⟩
theorem wm_942 : Cond.instanceMethod yX11_went ∈ wG := List.mem_filter.mpr ⟨wT_3 _ (List.mem_of_getElem? (i := 216) rfl), rfl⟩
theorem wm_943 : Cond.selects RX11 yX11_went yX11_went ∈ wG := List.mem_filter.mpr ⟨wT_3 _ (List.mem_of_getElem? (i := 217) rfl), rfl⟩
theorem wm_944 : Cond.code yX11_went cX11_went 6 (some .int) ∈ wG := List.mem_filter.mpr ⟨wT_3 _ (List.mem_of_getElem? (i := 218) rfl), rfl⟩
theorem wm_945 : Cond.methodLink RL 118 yX12_went ∈ wG := List.mem_filter.mpr ⟨wT_5 _ (List.mem_of_getElem? (i := 234) rfl), rfl⟩
theorem wm_946 : Cond.instanceMethod yX12_went ∈ wG := List.mem_filter.mpr ⟨wT_5 _ (List.mem_of_getElem? (i := 235) rfl), rfl⟩
theorem wm_947 : Cond.selects RX12 yX12_went yX12_went ∈ wG := List.mem_filter.mpr ⟨wT_5 _ (List.mem_of_getElem? (i := 236) rfl), rfl⟩
theorem wm_948 : Cond.code yX12_went cX12_went 6 (some .int) ∈ wG := List.mem_filter.mpr ⟨wT_5 _ (List.mem_of_getElem? (i := 237) rfl), rfl⟩
theorem wm_949 : Cond.methodLink RL 119 yX11_search ∈ wG := List.mem_filter.mpr ⟨wT_3 _ (List.mem_of_getElem? (i := 219) rfl), rfl⟩
theorem wm_950 : Cond.instanceMethod yX11_search ∈ wG := List.mem_filter.mpr ⟨wT_3 _ (List.mem_of_getElem? (i := 220) rfl), rfl⟩
theorem wm_951 : Cond.selects RX11 yX11_search yX11_search ∈ wG := List.mem_filter.mpr ⟨wT_3 _ (List.mem_of_getElem? (i := 221) rfl), rfl⟩
theorem wm_952 : Cond.code yX11_search cX11_search 6 (some .long) ∈ wG := List.mem_filter.mpr ⟨wT_3 _ (List.mem_of_getElem? (i := 222) rfl), rfl⟩
theorem wm_953 : Cond.methodLink RL 123 yX12_search ∈ wG := List.mem_filter.mpr ⟨wT_5 _ (List.mem_of_getElem? (i := 238) rfl), rfl⟩
theorem wm_954 : Cond.instanceMethod yX12_search ∈ wG := List.mem_filter.mpr ⟨wT_5 _ (List.mem_of_getElem? (i := 239) rfl), rfl⟩
theorem wm_955 : Cond.selects RX12 yX12_search yX12_search ∈ wG := List.mem_filter.mpr ⟨wT_6 _ (List.mem_of_getElem? (i := 0) rfl), rfl⟩
theorem wm_956 : Cond.code yX12_search cX12_search 7 (some .long) ∈ wG := List.mem_filter.mpr ⟨wT_6 _ (List.mem_of_getElem? (i := 1) rfl), rfl⟩
theorem wm_957 : Cond.methodLink RL 124 yX11_judge ∈ wG := List.mem_filter.mpr ⟨wT_3 _ (List.mem_of_getElem? (i := 231) rfl), rfl⟩
theorem wm_958 : Cond.instanceMethod yX11_judge ∈ wG := List.mem_filter.mpr ⟨wT_3 _ (List.mem_of_getElem? (i := 232) rfl), rfl⟩
theorem wm_959 : Cond.selects RX11 yX11_judge yX11_judge ∈ wG := List.mem_filter.mpr ⟨wT_3 _ (List.mem_of_getElem? (i := 233) rfl), rfl⟩
theorem wm_960 : Cond.code yX11_judge cX11_judge 4 (some .int) ∈ wG := List.mem_filter.mpr ⟨wT_3 _ (List.mem_of_getElem? (i := 234) rfl), rfl⟩
theorem wm_961 : Cond.methodLink RL 127 yX12_judge ∈ wG := List.mem_filter.mpr ⟨wT_6 _ (List.mem_of_getElem? (i := 11) rfl), rfl⟩
theorem wm_962 : Cond.instanceMethod yX12_judge ∈ wG := List.mem_filter.mpr ⟨wT_6 _ (List.mem_of_getElem? (i := 12) rfl), rfl⟩
theorem wm_963 : Cond.selects RX12 yX12_judge yX12_judge ∈ wG := List.mem_filter.mpr ⟨wT_6 _ (List.mem_of_getElem? (i := 13) rfl), rfl⟩
theorem wm_964 : Cond.code yX12_judge cX12_judge 4 (some .int) ∈ wG := List.mem_filter.mpr ⟨wT_6 _ (List.mem_of_getElem? (i := 14) rfl), rfl⟩
theorem wm_965 : Cond.methodLink RL 128 yX11_times ∈ wG := List.mem_filter.mpr ⟨wT_4 _ (List.mem_of_getElem? (i := 6) rfl), rfl⟩
theorem wm_966 : Cond.instanceMethod yX11_times ∈ wG := List.mem_filter.mpr ⟨wT_4 _ (List.mem_of_getElem? (i := 7) rfl), rfl⟩
theorem wm_967 : Cond.selects RX11 yX11_times yX11_times ∈ wG := List.mem_filter.mpr ⟨wT_4 _ (List.mem_of_getElem? (i := 8) rfl), rfl⟩
theorem wm_968 : Cond.code yX11_times cX11_times 6 (some .long) ∈ wG := List.mem_filter.mpr ⟨wT_4 _ (List.mem_of_getElem? (i := 9) rfl), rfl⟩
theorem wm_969 : Cond.methodLink RL 132 yX12_times ∈ wG := List.mem_filter.mpr ⟨wT_6 _ (List.mem_of_getElem? (i := 27) rfl), rfl⟩
theorem wm_970 : Cond.instanceMethod yX12_times ∈ wG := List.mem_filter.mpr ⟨wT_6 _ (List.mem_of_getElem? (i := 28) rfl), rfl⟩
theorem wm_971 : Cond.selects RX12 yX12_times yX12_times ∈ wG := List.mem_filter.mpr ⟨wT_6 _ (List.mem_of_getElem? (i := 29) rfl), rfl⟩
theorem wm_972 : Cond.code yX12_times cX12_times 5 (some .long) ∈ wG := List.mem_filter.mpr ⟨wT_6 _ (List.mem_of_getElem? (i := 30) rfl), rfl⟩
theorem wm_973 : Cond.methodLink RL 133 yX11_laws ∈ wG := List.mem_filter.mpr ⟨wT_4 _ (List.mem_of_getElem? (i := 12) rfl), rfl⟩
theorem wm_974 : Cond.instanceMethod yX11_laws ∈ wG := List.mem_filter.mpr ⟨wT_4 _ (List.mem_of_getElem? (i := 13) rfl), rfl⟩
theorem wm_975 : Cond.selects RX11 yX11_laws yX11_laws ∈ wG := List.mem_filter.mpr ⟨wT_4 _ (List.mem_of_getElem? (i := 14) rfl), rfl⟩
theorem wm_976 : Cond.code yX11_laws cX11_laws 6 (some .int) ∈ wG := List.mem_filter.mpr ⟨wT_4 _ (List.mem_of_getElem? (i := 15) rfl), rfl⟩
theorem wm_977 : Cond.methodLink RL 136 yX12_laws ∈ wG := List.mem_filter.mpr ⟨wT_6 _ (List.mem_of_getElem? (i := 31) rfl), rfl⟩
theorem wm_978 : Cond.instanceMethod yX12_laws ∈ wG := List.mem_filter.mpr ⟨wT_6 _ (List.mem_of_getElem? (i := 32) rfl), rfl⟩
theorem wm_979 : Cond.selects RX12 yX12_laws yX12_laws ∈ wG := List.mem_filter.mpr ⟨wT_6 _ (List.mem_of_getElem? (i := 33) rfl), rfl⟩
theorem wm_980 : Cond.code yX12_laws cX12_laws 7 (some .int) ∈ wG := List.mem_filter.mpr ⟨wT_6 _ (List.mem_of_getElem? (i := 34) rfl), rfl⟩
theorem wm_981 : Cond.methodLink RL 137 yX11_film ∈ wG := List.mem_filter.mpr ⟨wT_4 _ (List.mem_of_getElem? (i := 16) rfl), rfl⟩
theorem wm_982 : Cond.instanceMethod yX11_film ∈ wG := List.mem_filter.mpr ⟨wT_4 _ (List.mem_of_getElem? (i := 17) rfl), rfl⟩
theorem wm_983 : Cond.selects RX11 yX11_film yX11_film ∈ wG := List.mem_filter.mpr ⟨wT_4 _ (List.mem_of_getElem? (i := 18) rfl), rfl⟩
theorem wm_984 : Cond.code yX11_film cX11_film 4 (some .int) ∈ wG := List.mem_filter.mpr ⟨wT_4 _ (List.mem_of_getElem? (i := 19) rfl), rfl⟩
theorem wm_985 : Cond.methodLink RL 140 yX12_film ∈ wG := List.mem_filter.mpr ⟨wT_6 _ (List.mem_of_getElem? (i := 35) rfl), rfl⟩
theorem wm_986 : Cond.instanceMethod yX12_film ∈ wG := List.mem_filter.mpr ⟨wT_6 _ (List.mem_of_getElem? (i := 36) rfl), rfl⟩
theorem wm_987 : Cond.selects RX12 yX12_film yX12_film ∈ wG := List.mem_filter.mpr ⟨wT_6 _ (List.mem_of_getElem? (i := 37) rfl), rfl⟩
theorem wm_988 : Cond.code yX12_film cX12_film 4 (some .int) ∈ wG := List.mem_filter.mpr ⟨wT_6 _ (List.mem_of_getElem? (i := 38) rfl), rfl⟩
theorem wm_989 : Cond.methodLink RL 141 yX11_drawn ∈ wG := List.mem_filter.mpr ⟨wT_4 _ (List.mem_of_getElem? (i := 24) rfl), rfl⟩
theorem wm_990 : Cond.instanceMethod yX11_drawn ∈ wG := List.mem_filter.mpr ⟨wT_4 _ (List.mem_of_getElem? (i := 25) rfl), rfl⟩
theorem wm_991 : Cond.selects RX11 yX11_drawn yX11_drawn ∈ wG := List.mem_filter.mpr ⟨wT_4 _ (List.mem_of_getElem? (i := 26) rfl), rfl⟩
theorem wm_992 : Cond.code yX11_drawn cX11_drawn 4 (some .int) ∈ wG := List.mem_filter.mpr ⟨wT_4 _ (List.mem_of_getElem? (i := 27) rfl), rfl⟩
theorem wm_993 : Cond.methodLink RL 144 yX12_drawn ∈ wG := List.mem_filter.mpr ⟨wT_6 _ (List.mem_of_getElem? (i := 39) rfl), rfl⟩
theorem wm_994 : Cond.instanceMethod yX12_drawn ∈ wG := List.mem_filter.mpr ⟨wT_6 _ (List.mem_of_getElem? (i := 40) rfl), rfl⟩
theorem wm_995 : Cond.selects RX12 yX12_drawn yX12_drawn ∈ wG := List.mem_filter.mpr ⟨wT_6 _ (List.mem_of_getElem? (i := 41) rfl), rfl⟩
theorem wm_996 : Cond.code yX12_drawn cX12_drawn 4 (some .int) ∈ wG := List.mem_filter.mpr ⟨wT_6 _ (List.mem_of_getElem? (i := 42) rfl), rfl⟩
theorem wm_997 : Cond.methodLink RL 145 yX11_mean ∈ wG := List.mem_filter.mpr ⟨wT_4 _ (List.mem_of_getElem? (i := 43) rfl), rfl⟩
theorem wm_998 : Cond.instanceMethod yX11_mean ∈ wG := List.mem_filter.mpr ⟨wT_4 _ (List.mem_of_getElem? (i := 44) rfl), rfl⟩
theorem wm_999 : Cond.selects RX11 yX11_mean yX11_mean ∈ wG := List.mem_filter.mpr ⟨wT_4 _ (List.mem_of_getElem? (i := 45) rfl), rfl⟩
theorem wm_1000 : Cond.code yX11_mean cX11_mean 7 (some .long) ∈ wG := List.mem_filter.mpr ⟨wT_4 _ (List.mem_of_getElem? (i := 46) rfl), rfl⟩
theorem wm_1001 : Cond.methodLink RL 149 yX12_mean ∈ wG := List.mem_filter.mpr ⟨wT_6 _ (List.mem_of_getElem? (i := 53) rfl), rfl⟩
theorem wm_1002 : Cond.instanceMethod yX12_mean ∈ wG := List.mem_filter.mpr ⟨wT_6 _ (List.mem_of_getElem? (i := 54) rfl), rfl⟩
theorem wm_1003 : Cond.selects RX12 yX12_mean yX12_mean ∈ wG := List.mem_filter.mpr ⟨wT_6 _ (List.mem_of_getElem? (i := 55) rfl), rfl⟩
theorem wm_1004 : Cond.code yX12_mean cX12_mean 8 (some .long) ∈ wG := List.mem_filter.mpr ⟨wT_6 _ (List.mem_of_getElem? (i := 56) rfl), rfl⟩
theorem wm_1005 : Cond.methodLink RL 150 yX11_image ∈ wG := List.mem_filter.mpr ⟨wT_4 _ (List.mem_of_getElem? (i := 47) rfl), rfl⟩
theorem wm_1006 : Cond.instanceMethod yX11_image ∈ wG := List.mem_filter.mpr ⟨wT_4 _ (List.mem_of_getElem? (i := 48) rfl), rfl⟩
theorem wm_1007 : Cond.selects RX11 yX11_image yX11_image ∈ wG := List.mem_filter.mpr ⟨wT_4 _ (List.mem_of_getElem? (i := 49) rfl), rfl⟩
theorem wm_1008 : Cond.code yX11_image cX11_image 1 (some .int) ∈ wG := List.mem_filter.mpr ⟨wT_4 _ (List.mem_of_getElem? (i := 50) rfl), rfl⟩
theorem wm_1009 : Cond.methodLink RL 153 yX12_image ∈ wG := List.mem_filter.mpr ⟨wT_6 _ (List.mem_of_getElem? (i := 57) rfl), rfl⟩
theorem wm_1010 : Cond.instanceMethod yX12_image ∈ wG := List.mem_filter.mpr ⟨wT_6 _ (List.mem_of_getElem? (i := 58) rfl), rfl⟩
theorem wm_1011 : Cond.selects RX12 yX12_image yX12_image ∈ wG := List.mem_filter.mpr ⟨wT_6 _ (List.mem_of_getElem? (i := 59) rfl), rfl⟩
theorem wm_1012 : Cond.code yX12_image cX12_image 2 (some .int) ∈ wG := List.mem_filter.mpr ⟨wT_6 _ (List.mem_of_getElem? (i := 60) rfl), rfl⟩
theorem wm_1013 : Cond.methodLink RL 154 yX11_back ∈ wG := List.mem_filter.mpr ⟨wT_4 _ (List.mem_of_getElem? (i := 58) rfl), rfl⟩
theorem wm_1014 : Cond.instanceMethod yX11_back ∈ wG := List.mem_filter.mpr ⟨wT_4 _ (List.mem_of_getElem? (i := 59) rfl), rfl⟩
theorem wm_1015 : Cond.selects RX11 yX11_back yX11_back ∈ wG := List.mem_filter.mpr ⟨wT_4 _ (List.mem_of_getElem? (i := 60) rfl), rfl⟩
theorem wm_1016 : Cond.code yX11_back cX11_back 1 (some .int) ∈ wG := List.mem_filter.mpr ⟨wT_4 _ (List.mem_of_getElem? (i := 61) rfl), rfl⟩
theorem wm_1017 : Cond.methodLink RL 157 yX12_back ∈ wG := List.mem_filter.mpr ⟨wT_6 _ (List.mem_of_getElem? (i := 61) rfl), rfl⟩
theorem wm_1018 : Cond.instanceMethod yX12_back ∈ wG := List.mem_filter.mpr ⟨wT_6 _ (List.mem_of_getElem? (i := 62) rfl), rfl⟩
theorem wm_1019 : Cond.selects RX12 yX12_back yX12_back ∈ wG := List.mem_filter.mpr ⟨wT_6 _ (List.mem_of_getElem? (i := 63) rfl), rfl⟩
theorem wm_1020 : Cond.code yX12_back cX12_back 2 (some .int) ∈ wG := List.mem_filter.mpr ⟨wT_6 _ (List.mem_of_getElem? (i := 64) rfl), rfl⟩
theorem wm_1021 : Cond.methodLink RL 158 yX11_sheet ∈ wG := List.mem_filter.mpr ⟨wT_4 _ (List.mem_of_getElem? (i := 62) rfl), rfl⟩
theorem wm_1022 : Cond.instanceMethod yX11_sheet ∈ wG := List.mem_filter.mpr ⟨wT_4 _ (List.mem_of_getElem? (i := 63) rfl), rfl⟩
theorem wm_1023 : Cond.selects RX11 yX11_sheet yX11_sheet ∈ wG := List.mem_filter.mpr ⟨wT_4 _ (List.mem_of_getElem? (i := 64) rfl), rfl⟩
theorem wm_1024 : Cond.code yX11_sheet cX11_sheet 4 (some .int) ∈ wG := List.mem_filter.mpr ⟨wT_4 _ (List.mem_of_getElem? (i := 65) rfl), rfl⟩
theorem wm_1025 : Cond.methodLink RL 161 yX12_sheet ∈ wG := List.mem_filter.mpr ⟨wT_6 _ (List.mem_of_getElem? (i := 65) rfl), rfl⟩
theorem wm_1026 : Cond.instanceMethod yX12_sheet ∈ wG := List.mem_filter.mpr ⟨wT_6 _ (List.mem_of_getElem? (i := 66) rfl), rfl⟩
theorem wm_1027 : Cond.selects RX12 yX12_sheet yX12_sheet ∈ wG := List.mem_filter.mpr ⟨wT_6 _ (List.mem_of_getElem? (i := 67) rfl), rfl⟩
theorem wm_1028 : Cond.code yX12_sheet cX12_sheet 5 (some .int) ∈ wG := List.mem_filter.mpr ⟨wT_6 _ (List.mem_of_getElem? (i := 68) rfl), rfl⟩
theorem wm_1029 : Cond.methodLink RL 162 yX11_cell ∈ wG := List.mem_filter.mpr ⟨wT_4 _ (List.mem_of_getElem? (i := 66) rfl), rfl⟩
theorem wm_1030 : Cond.instanceMethod yX11_cell ∈ wG := List.mem_filter.mpr ⟨wT_4 _ (List.mem_of_getElem? (i := 67) rfl), rfl⟩
theorem wm_1031 : Cond.selects RX11 yX11_cell yX11_cell ∈ wG := List.mem_filter.mpr ⟨wT_4 _ (List.mem_of_getElem? (i := 68) rfl), rfl⟩
theorem wm_1032 : Cond.code yX11_cell cX11_cell 4 (some .int) ∈ wG := List.mem_filter.mpr ⟨wT_4 _ (List.mem_of_getElem? (i := 69) rfl), rfl⟩
theorem wm_1033 : Cond.methodLink RL 165 yX12_cell ∈ wG := List.mem_filter.mpr ⟨wT_6 _ (List.mem_of_getElem? (i := 69) rfl), rfl⟩
theorem wm_1034 : Cond.instanceMethod yX12_cell ∈ wG := List.mem_filter.mpr ⟨wT_6 _ (List.mem_of_getElem? (i := 70) rfl), rfl⟩
theorem wm_1035 : Cond.selects RX12 yX12_cell yX12_cell ∈ wG := List.mem_filter.mpr ⟨wT_6 _ (List.mem_of_getElem? (i := 71) rfl), rfl⟩
theorem wm_1036 : Cond.code yX12_cell cX12_cell 4 (some .int) ∈ wG := List.mem_filter.mpr ⟨wT_6 _ (List.mem_of_getElem? (i := 72) rfl), rfl⟩
theorem wm_1037 : Cond.methodLink RL 166 yX11_copy ∈ wG := List.mem_filter.mpr ⟨wT_4 _ (List.mem_of_getElem? (i := 78) rfl), rfl⟩
theorem wm_1038 : Cond.instanceMethod yX11_copy ∈ wG := List.mem_filter.mpr ⟨wT_4 _ (List.mem_of_getElem? (i := 79) rfl), rfl⟩
theorem wm_1039 : Cond.selects RX11 yX11_copy yX11_copy ∈ wG := List.mem_filter.mpr ⟨wT_4 _ (List.mem_of_getElem? (i := 80) rfl), rfl⟩
theorem wm_1040 : Cond.code yX11_copy cX11_copy 8 (some .int) ∈ wG := List.mem_filter.mpr ⟨wT_4 _ (List.mem_of_getElem? (i := 81) rfl), rfl⟩
theorem wm_1041 : Cond.methodLink RL 170 yX12_copy ∈ wG := List.mem_filter.mpr ⟨wT_6 _ (List.mem_of_getElem? (i := 73) rfl), rfl⟩
theorem wm_1042 : Cond.instanceMethod yX12_copy ∈ wG := List.mem_filter.mpr ⟨wT_6 _ (List.mem_of_getElem? (i := 74) rfl), rfl⟩
theorem wm_1043 : Cond.selects RX12 yX12_copy yX12_copy ∈ wG := List.mem_filter.mpr ⟨wT_6 _ (List.mem_of_getElem? (i := 75) rfl), rfl⟩
theorem wm_1044 : Cond.code yX12_copy cX12_copy 10 (some .int) ∈ wG := List.mem_filter.mpr ⟨wT_6 _ (List.mem_of_getElem? (i := 76) rfl), rfl⟩
theorem wm_1045 : Cond.methodLink RL 171 yX11_thingsBy ∈ wG := List.mem_filter.mpr ⟨wT_4 _ (List.mem_of_getElem? (i := 83) rfl), rfl⟩
theorem wm_1046 : Cond.instanceMethod yX11_thingsBy ∈ wG := List.mem_filter.mpr ⟨wT_4 _ (List.mem_of_getElem? (i := 84) rfl), rfl⟩
theorem wm_1047 : Cond.selects RX11 yX11_thingsBy yX11_thingsBy ∈ wG := List.mem_filter.mpr ⟨wT_4 _ (List.mem_of_getElem? (i := 85) rfl), rfl⟩
theorem wm_1048 : Cond.code yX11_thingsBy cX11_thingsBy 10 (some .int) ∈ wG := List.mem_filter.mpr ⟨wT_4 _ (List.mem_of_getElem? (i := 86) rfl), rfl⟩
theorem wm_1049 : Cond.methodLink RL 174 yX12_thingsBy ∈ wG := List.mem_filter.mpr ⟨wT_6 _ (List.mem_of_getElem? (i := 77) rfl), rfl⟩
theorem wm_1050 : Cond.instanceMethod yX12_thingsBy ∈ wG := List.mem_filter.mpr ⟨wT_6 _ (List.mem_of_getElem? (i := 78) rfl), rfl⟩
theorem wm_1051 : Cond.selects RX12 yX12_thingsBy yX12_thingsBy ∈ wG := List.mem_filter.mpr ⟨wT_6 _ (List.mem_of_getElem? (i := 79) rfl), rfl⟩
theorem wm_1052 : Cond.code yX12_thingsBy cX12_thingsBy 9 (some .int) ∈ wG := List.mem_filter.mpr ⟨wT_6 _ (List.mem_of_getElem? (i := 80) rfl), rfl⟩
theorem wm_1053 : Cond.methodLink RL 175 yX11_taken ∈ wG := List.mem_filter.mpr ⟨wT_4 _ (List.mem_of_getElem? (i := 88) rfl), rfl⟩
theorem wm_1054 : Cond.instanceMethod yX11_taken ∈ wG := List.mem_filter.mpr ⟨wT_4 _ (List.mem_of_getElem? (i := 89) rfl), rfl⟩
theorem wm_1055 : Cond.selects RX11 yX11_taken yX11_taken ∈ wG := List.mem_filter.mpr ⟨wT_4 _ (List.mem_of_getElem? (i := 90) rfl), rfl⟩
theorem wm_1056 : Cond.code yX11_taken cX11_taken 3 (some .int) ∈ wG := List.mem_filter.mpr ⟨wT_4 _ (List.mem_of_getElem? (i := 91) rfl), rfl⟩
theorem wm_1057 : Cond.methodLink RL 178 yX12_taken ∈ wG := List.mem_filter.mpr ⟨wT_6 _ (List.mem_of_getElem? (i := 82) rfl), rfl⟩
theorem wm_1058 : Cond.instanceMethod yX12_taken ∈ wG := List.mem_filter.mpr ⟨wT_6 _ (List.mem_of_getElem? (i := 83) rfl), rfl⟩
theorem wm_1059 : Cond.selects RX12 yX12_taken yX12_taken ∈ wG := List.mem_filter.mpr ⟨wT_6 _ (List.mem_of_getElem? (i := 84) rfl), rfl⟩
theorem wm_1060 : Cond.code yX12_taken cX12_taken 3 (some .int) ∈ wG := List.mem_filter.mpr ⟨wT_6 _ (List.mem_of_getElem? (i := 85) rfl), rfl⟩
theorem wm_1061 : Cond.selects RX10 yX10_blown yX10_blown ∈ wG := List.mem_filter.mpr ⟨wT_3 _ (List.mem_of_getElem? (i := 67) rfl), rfl⟩
theorem wm_1062 : Cond.selects RX7 yX10_blown yX10_blown ∈ wG := List.mem_filter.mpr ⟨wT_3 _ (List.mem_of_getElem? (i := 80) rfl), rfl⟩
theorem wm_1063 : Cond.selects RX5 yX10_blown yX10_blown ∈ wG := List.mem_filter.mpr ⟨wT_3 _ (List.mem_of_getElem? (i := 79) rfl), rfl⟩
theorem wm_1064 : Cond.selects RX8 yX10_blown yX10_blown ∈ wG := List.mem_filter.mpr ⟨wT_3 _ (List.mem_of_getElem? (i := 81) rfl), rfl⟩
theorem wm_1065 : Cond.selects RX0 yX10_blown yX0_blown ∈ wG := List.mem_filter.mpr ⟨wT_3 _ (List.mem_of_getElem? (i := 69) rfl), rfl⟩
theorem wm_1066 : Cond.instanceMethod yX0_blown ∈ wG := List.mem_filter.mpr ⟨wT_3 _ (List.mem_of_getElem? (i := 70) rfl), rfl⟩
theorem wm_1067 : Cond.code yX0_blown cX0_blown 3 (some .int) ∈ wG := List.mem_filter.mpr ⟨wT_3 _ (List.mem_of_getElem? (i := 71) rfl), rfl⟩
theorem wm_1068 : Cond.selects RX2 yX10_blown yX2_blown ∈ wG := List.mem_filter.mpr ⟨wT_3 _ (List.mem_of_getElem? (i := 75) rfl), rfl⟩
theorem wm_1069 : Cond.instanceMethod yX2_blown ∈ wG := List.mem_filter.mpr ⟨wT_3 _ (List.mem_of_getElem? (i := 76) rfl), rfl⟩
theorem wm_1070 : Cond.code yX2_blown cX2_blown 3 (some .int) ∈ wG := List.mem_filter.mpr ⟨wT_3 _ (List.mem_of_getElem? (i := 77) rfl), rfl⟩
theorem wm_1071 : Cond.sameMethod "WhereTheSpoonWent$Thing" "WhereTheSpoonWent$Thing" "moves" "(II)Z" ∈ wG := List.mem_filter.mpr ⟨wT_3 _ (List.mem_of_getElem? (i := 86) rfl), rfl⟩
theorem wm_1072 : Cond.selects RX10 yX10_moves yX10_moves ∈ wG := List.mem_filter.mpr ⟨wT_3 _ (List.mem_of_getElem? (i := 85) rfl), rfl⟩
theorem wm_1073 : Cond.instanceMethod yX10_moves ∈ wG := List.mem_filter.mpr ⟨wT_3 _ (List.mem_of_getElem? (i := 84) rfl), rfl⟩
theorem wm_1074 : Cond.code yX10_moves cX10_moves 3 (some .boolean) ∈ wG := List.mem_filter.mpr ⟨wT_3 _ (List.mem_of_getElem? (i := 97) rfl), rfl⟩
theorem wm_1075 : Cond.selects RX7 yX10_moves yX10_moves ∈ wG := List.mem_filter.mpr ⟨wT_3 _ (List.mem_of_getElem? (i := 90) rfl), rfl⟩
theorem wm_1076 : Cond.selects RX5 yX10_moves yX10_moves ∈ wG := List.mem_filter.mpr ⟨wT_3 _ (List.mem_of_getElem? (i := 89) rfl), rfl⟩
theorem wm_1077 : Cond.selects RX8 yX10_moves yX8_moves ∈ wG := List.mem_filter.mpr ⟨wT_3 _ (List.mem_of_getElem? (i := 91) rfl), rfl⟩
theorem wm_1078 : Cond.instanceMethod yX8_moves ∈ wG := List.mem_filter.mpr ⟨wT_3 _ (List.mem_of_getElem? (i := 92) rfl), rfl⟩
theorem wm_1079 : Cond.code yX8_moves cX8_moves 3 (some .boolean) ∈ wG := List.mem_filter.mpr ⟨wT_3 _ (List.mem_of_getElem? (i := 93) rfl), rfl⟩
theorem wm_1080 : Cond.selects RX0 yX10_moves yX10_moves ∈ wG := List.mem_filter.mpr ⟨wT_3 _ (List.mem_of_getElem? (i := 87) rfl), rfl⟩
theorem wm_1081 : Cond.selects RX2 yX10_moves yX10_moves ∈ wG := List.mem_filter.mpr ⟨wT_3 _ (List.mem_of_getElem? (i := 88) rfl), rfl⟩
theorem wm_1082 : Cond.sameMethod "WhereTheSpoonWent$Thing" "WhereTheSpoonWent$Thing" "touching" "(I)I" ∈ wG := List.mem_filter.mpr ⟨wT_3 _ (List.mem_of_getElem? (i := 106) rfl), rfl⟩
theorem wm_1083 : Cond.selects RX10 yX10_touching yX10_touching ∈ wG := List.mem_filter.mpr ⟨wT_3 _ (List.mem_of_getElem? (i := 105) rfl), rfl⟩
theorem wm_1084 : Cond.instanceMethod yX10_touching ∈ wG := List.mem_filter.mpr ⟨wT_3 _ (List.mem_of_getElem? (i := 104) rfl), rfl⟩
theorem wm_1085 : Cond.code yX10_touching cX10_touching 2 (some .int) ∈ wG := List.mem_filter.mpr ⟨wT_3 _ (List.mem_of_getElem? (i := 116) rfl), rfl⟩
theorem wm_1086 : Cond.selects RX7 yX10_touching yX7_touching ∈ wG := List.mem_filter.mpr ⟨wT_3 _ (List.mem_of_getElem? (i := 112) rfl), rfl⟩
theorem wm_1087 : Cond.instanceMethod yX7_touching ∈ wG := List.mem_filter.mpr ⟨wT_3 _ (List.mem_of_getElem? (i := 113) rfl), rfl⟩
theorem wm_1088 : Cond.code yX7_touching cX7_touching 2 (some .int) ∈ wG := List.mem_filter.mpr ⟨wT_3 _ (List.mem_of_getElem? (i := 114) rfl), rfl⟩
theorem wm_1089 : Cond.selects RX5 yX10_touching yX5_touching ∈ wG := List.mem_filter.mpr ⟨wT_3 _ (List.mem_of_getElem? (i := 111) rfl), rfl⟩
theorem wm_1090 : Cond.instanceMethod yX5_touching ∈ wG := List.mem_filter.mpr ⟨wT_3 _ (List.mem_of_getElem? (i := 108) rfl), rfl⟩
theorem wm_1091 : Cond.code yX5_touching cX5_touching 2 (some .int) ∈ wG := List.mem_filter.mpr ⟨wT_3 _ (List.mem_of_getElem? (i := 109) rfl), rfl⟩
theorem wm_1092 : Cond.selects RX8 yX10_touching yX7_touching ∈ wG := List.mem_filter.mpr ⟨wT_3 _ (List.mem_of_getElem? (i := 115) rfl), rfl⟩
theorem wm_1093 : Cond.selects RX0 yX10_touching yX5_touching ∈ wG := List.mem_filter.mpr ⟨wT_3 _ (List.mem_of_getElem? (i := 107) rfl), rfl⟩
theorem wm_1094 : Cond.selects RX2 yX10_touching yX10_touching ∈ wG := List.mem_filter.mpr ⟨wT_3 _ (List.mem_of_getElem? (i := 110) rfl), rfl⟩
theorem wm_1095 : Cond.selects RX10 yX10_isOne yX10_isOne ∈ wG := List.mem_filter.mpr ⟨wT_4 _ (List.mem_of_getElem? (i := 102) rfl), rfl⟩
theorem wm_1096 : Cond.selects RX7 yX10_isOne yX7_isOne ∈ wG := List.mem_filter.mpr ⟨wT_4 _ (List.mem_of_getElem? (i := 116) rfl), rfl⟩
theorem wm_1097 : Cond.selects RX5 yX10_isOne yX5_isOne ∈ wG := List.mem_filter.mpr ⟨wT_4 _ (List.mem_of_getElem? (i := 115) rfl), rfl⟩
theorem wm_1098 : Cond.selects RX8 yX10_isOne yX8_isOne ∈ wG := List.mem_filter.mpr ⟨wT_4 _ (List.mem_of_getElem? (i := 120) rfl), rfl⟩
theorem wm_1099 : Cond.instanceMethod yX8_isOne ∈ wG := List.mem_filter.mpr ⟨wT_4 _ (List.mem_of_getElem? (i := 121) rfl), rfl⟩
theorem wm_1100 : Cond.code yX8_isOne cX8_isOne 2 (some .boolean) ∈ wG := List.mem_filter.mpr ⟨wT_4 _ (List.mem_of_getElem? (i := 122) rfl), rfl⟩
theorem wm_1101 : Cond.selects RX0 yX10_isOne yX0_isOne ∈ wG := List.mem_filter.mpr ⟨wT_4 _ (List.mem_of_getElem? (i := 104) rfl), rfl⟩
theorem wm_1102 : Cond.instanceMethod yX0_isOne ∈ wG := List.mem_filter.mpr ⟨wT_4 _ (List.mem_of_getElem? (i := 105) rfl), rfl⟩
theorem wm_1103 : Cond.code yX0_isOne cX0_isOne 2 (some .boolean) ∈ wG := List.mem_filter.mpr ⟨wT_4 _ (List.mem_of_getElem? (i := 106) rfl), rfl⟩
theorem wm_1104 : Cond.selects RX2 yX10_isOne yX2_isOne ∈ wG := List.mem_filter.mpr ⟨wT_4 _ (List.mem_of_getElem? (i := 111) rfl), rfl⟩
theorem wm_1105 : Cond.instanceMethod yX2_isOne ∈ wG := List.mem_filter.mpr ⟨wT_4 _ (List.mem_of_getElem? (i := 112) rfl), rfl⟩
theorem wm_1106 : Cond.code yX2_isOne cX2_isOne 2 (some .boolean) ∈ wG := List.mem_filter.mpr ⟨wT_4 _ (List.mem_of_getElem? (i := 113) rfl), rfl⟩
theorem wm_1107 : Cond.fieldLink RJ0 38 "java/lang/String" "COMPACT_STRINGS" "Z" ∈ wG := List.mem_filter.mpr ⟨wT_2 _ (List.mem_of_getElem? (i := 134) rfl), rfl⟩
theorem wm_1108 : Cond.fieldLink RJ0 15 "java/lang/String" "coder" "B" ∈ wG := List.mem_filter.mpr ⟨wT_6 _ (List.mem_of_getElem? (i := 97) rfl), rfl⟩
theorem wm_1109 : Cond.fieldLink RJ0 9 "java/lang/String" "value" "[B" ∈ wG := List.mem_filter.mpr ⟨wT_6 _ (List.mem_of_getElem? (i := 96) rfl), rfl⟩
theorem wm_1110 : Cond.methodLink RJ0 335 yJ0_coder_7d493 ∈ wG := List.mem_filter.mpr ⟨wT_2 _ (List.mem_of_getElem? (i := 130) rfl), rfl⟩
theorem wm_1111 : Cond.instanceMethod yJ0_coder_7d493 ∈ wG := List.mem_filter.mpr ⟨wT_2 _ (List.mem_of_getElem? (i := 131) rfl), rfl⟩
theorem wm_1112 : Cond.selects RJ0 yJ0_coder_7d493 yJ0_coder_7d493 ∈ wG := List.mem_filter.mpr ⟨wT_2 _ (List.mem_of_getElem? (i := 132) rfl), rfl⟩
theorem wm_1113 : Cond.initialized RJ0 ∈ wG := List.mem_filter.mpr ⟨wT_1 _ (List.mem_of_getElem? (i := 14) rfl), rfl⟩
theorem wm_1114 : Cond.code yJ0_coder_7d493 cJ0_coder_7d493 1 (some .byte) ∈ wG := List.mem_filter.mpr ⟨wT_2 _ (List.mem_of_getElem? (i := 133) rfl), rfl⟩
theorem wm_1115 : Cond.fieldLink RJ0 1053 "jdk/internal/util/Preconditions" "SIOOBE_FORMATTER" "Ljava/util/function/BiFunction;" ∈ wG := List.mem_filter.mpr ⟨wT_2 _ (List.mem_of_getElem? (i := 150) rfl), rfl⟩
theorem wm_1116 : Cond.methodLink RJ0 1059 yJ3_checkIndex_8e157 ∈ wG := List.mem_filter.mpr ⟨wT_2 _ (List.mem_of_getElem? (i := 152) rfl), rfl⟩
theorem wm_1117 : Cond.static yJ3_checkIndex_8e157 ∈ wG := List.mem_filter.mpr ⟨wT_2 _ (List.mem_of_getElem? (i := 153) rfl), rfl⟩
theorem wm_1118 : Cond.initialized RJ3 ∈ wG := List.mem_filter.mpr ⟨wT_1 _ (List.mem_of_getElem? (i := 16) rfl), rfl⟩
theorem wm_1119 : Cond.code yJ3_checkIndex_8e157 cJ3_checkIndex_8e157 3 (some .int) ∈ wG := List.mem_filter.mpr ⟨wT_2 _ (List.mem_of_getElem? (i := 154) rfl), rfl⟩
theorem wm_1120 : Cond.methodLink RJ1 9 yJ0_checkIndex_df160 ∈ wG := List.mem_filter.mpr ⟨wT_2 _ (List.mem_of_getElem? (i := 147) rfl), rfl⟩
theorem wm_1121 : Cond.static yJ0_checkIndex_df160 ∈ wG := List.mem_filter.mpr ⟨wT_2 _ (List.mem_of_getElem? (i := 148) rfl), rfl⟩
theorem wm_1122 : Cond.code yJ0_checkIndex_df160 cJ0_checkIndex_df160 2 none ∈ wG := List.mem_filter.mpr ⟨wT_2 _ (List.mem_of_getElem? (i := 149) rfl), rfl⟩
theorem wm_1123 : Cond.methodLink RJ0 492 yJ0_isLatin1_aae02 ∈ wG := List.mem_filter.mpr ⟨wT_2 _ (List.mem_of_getElem? (i := 140) rfl), rfl⟩
theorem wm_1124 : Cond.instanceMethod yJ0_isLatin1_aae02 ∈ wG := List.mem_filter.mpr ⟨wT_2 _ (List.mem_of_getElem? (i := 141) rfl), rfl⟩
theorem wm_1125 : Cond.selects RJ0 yJ0_isLatin1_aae02 yJ0_isLatin1_aae02 ∈ wG := List.mem_filter.mpr ⟨wT_2 _ (List.mem_of_getElem? (i := 142) rfl), rfl⟩
theorem wm_1126 : Cond.code yJ0_isLatin1_aae02 cJ0_isLatin1_aae02 1 (some .boolean) ∈ wG := List.mem_filter.mpr ⟨wT_2 _ (List.mem_of_getElem? (i := 143) rfl), rfl⟩
theorem wm_1127 : Cond.methodLink RJ0 495 yJ1_charAt_3b067 ∈ wG := List.mem_filter.mpr ⟨wT_2 _ (List.mem_of_getElem? (i := 144) rfl), rfl⟩
theorem wm_1128 : Cond.static yJ1_charAt_3b067 ∈ wG := List.mem_filter.mpr ⟨wT_2 _ (List.mem_of_getElem? (i := 145) rfl), rfl⟩
theorem wm_1129 : Cond.initialized RJ1 ∈ wG := List.mem_filter.mpr ⟨wT_1 _ (List.mem_of_getElem? (i := 15) rfl), rfl⟩
theorem wm_1130 : Cond.code yJ1_charAt_3b067 cJ1_charAt_3b067 2 (some .char) ∈ wG := List.mem_filter.mpr ⟨wT_2 _ (List.mem_of_getElem? (i := 146) rfl), rfl⟩
theorem wm_1131 : Cond.instanceMethod yJ0_length_8abf5 ∈ wG := List.mem_filter.mpr ⟨wT_2 _ (List.mem_of_getElem? (i := 127) rfl), rfl⟩
theorem wm_1132 : Cond.selects RJ0 yJ0_length_8abf5 yJ0_length_8abf5 ∈ wG := List.mem_filter.mpr ⟨wT_2 _ (List.mem_of_getElem? (i := 128) rfl), rfl⟩
theorem wm_1133 : Cond.code yJ0_length_8abf5 cJ0_length_8abf5 1 (some .int) ∈ wG := List.mem_filter.mpr ⟨wT_2 _ (List.mem_of_getElem? (i := 129) rfl), rfl⟩
theorem wm_1134 : Cond.instanceMethod yJ0_charAt_5068e ∈ wG := List.mem_filter.mpr ⟨wT_2 _ (List.mem_of_getElem? (i := 137) rfl), rfl⟩
theorem wm_1135 : Cond.selects RJ0 yJ0_charAt_5068e yJ0_charAt_5068e ∈ wG := List.mem_filter.mpr ⟨wT_2 _ (List.mem_of_getElem? (i := 138) rfl), rfl⟩
theorem wm_1136 : Cond.code yJ0_charAt_5068e cJ0_charAt_5068e 2 (some .char) ∈ wG := List.mem_filter.mpr ⟨wT_2 _ (List.mem_of_getElem? (i := 139) rfl), rfl⟩
theorem wu_X11 : ∀ x ∈ u_ws RX11 TX11 14, x ∈ wG := fun x h => by
  obtain ⟨k, hk, rfl⟩ := List.mem_map.mp h
  have hk := List.mem_range.mp hk
  match k, hk with
  | 0, _ => exact wm_0
  | 1, _ => exact wm_1
  | 2, _ => exact wm_2
  | 3, _ => exact wm_3
  | 4, _ => exact wm_4
  | 5, _ => exact wm_5
  | 6, _ => exact wm_6
  | 7, _ => exact wm_7
  | 8, _ => exact wm_8
  | 9, _ => exact wm_9
  | 10, _ => exact wm_10
  | 11, _ => exact wm_11
  | 12, _ => exact wm_12
  | 13, _ => exact wm_13
  | k + 14, hk => exact absurd hk (by omega)
theorem gf_X11_0 {p : Program} {l : Launch} {e : Env} {R : Room} {s : State} {m : MethodId} {args : Array Value} {below : List Frame} {meth : Method} {c : Code} {w : wT} {A : Nat → Prop} {Q : State → Prop} {nL : Nat} {σ : Hp} {pc : Nat} {lv : List (Nat × Value)} {rest : List Value} {cc : ByteArray} {own : String} {r : Option FieldType} (E : YE p m meth c cc nL s args own r w 55 A) {o index : Nat} (h1 : 0 ≤ o) (h2 : o < 1) (hlink : Cond.fieldLink own index "WhereTheSpoonWent" "now" "LWhereTheSpoonWent$House;" ∈ wG) (hd : decode cc pc = .ok (.getfield index, 3)) (kk : YY p l e R s m args below meth c w xcf 55 A Q nL σ (pc + 3) lv (.ref (w.1 1) :: rest)) : YY p l e R s m args below meth c w xcf 55 A Q nL σ pc lv (.ref (w.1 o) :: rest) :=
  y_get E (ci := 11) (k := 0) (N := 14) (C := RX11) (T := TX11) (Nat.lt_of_lt_of_le h2 (by decide)) (xc_X11 h1 h2) rfl wu_X11 (by decide) hlink rfl hd kk
theorem gf_X11_1 {p : Program} {l : Launch} {e : Env} {R : Room} {s : State} {m : MethodId} {args : Array Value} {below : List Frame} {meth : Method} {c : Code} {w : wT} {A : Nat → Prop} {Q : State → Prop} {nL : Nat} {σ : Hp} {pc : Nat} {lv : List (Nat × Value)} {rest : List Value} {cc : ByteArray} {own : String} {r : Option FieldType} (E : YE p m meth c cc nL s args own r w 55 A) {o index : Nat} (h1 : 0 ≤ o) (h2 : o < 1) (hlink : Cond.fieldLink own index "WhereTheSpoonWent" "kept" "LWhereTheSpoonWent$House;" ∈ wG) (hd : decode cc pc = .ok (.getfield index, 3)) (kk : YY p l e R s m args below meth c w xcf 55 A Q nL σ (pc + 3) lv (.ref (w.1 2) :: rest)) : YY p l e R s m args below meth c w xcf 55 A Q nL σ pc lv (.ref (w.1 o) :: rest) :=
  y_get E (ci := 11) (k := 1) (N := 14) (C := RX11) (T := TX11) (Nat.lt_of_lt_of_le h2 (by decide)) (xc_X11 h1 h2) rfl wu_X11 (by decide) hlink rfl hd kk
theorem gf_X11_2 {p : Program} {l : Launch} {e : Env} {R : Room} {s : State} {m : MethodId} {args : Array Value} {below : List Frame} {meth : Method} {c : Code} {w : wT} {A : Nat → Prop} {Q : State → Prop} {nL : Nat} {σ : Hp} {pc : Nat} {lv : List (Nat × Value)} {rest : List Value} {cc : ByteArray} {own : String} {r : Option FieldType} (E : YE p m meth c cc nL s args own r w 55 A) {o index : Nat} (h1 : 0 ≤ o) (h2 : o < 1) (hlink : Cond.fieldLink own index "WhereTheSpoonWent" "isKept" "Z" ∈ wG) (hd : decode cc pc = .ok (.getfield index, 3)) (kk : YY p l e R s m args below meth c w xcf 55 A Q nL σ (pc + 3) lv (.int (σ o 2) :: rest)) : YY p l e R s m args below meth c w xcf 55 A Q nL σ pc lv (.ref (w.1 o) :: rest) :=
  y_get E (ci := 11) (k := 2) (N := 14) (C := RX11) (T := TX11) (Nat.lt_of_lt_of_le h2 (by decide)) (xc_X11 h1 h2) rfl wu_X11 (by decide) hlink rfl hd kk
theorem pf_X11_2 {p : Program} {l : Launch} {e : Env} {R : Room} {s : State} {m : MethodId} {args : Array Value} {below : List Frame} {meth : Method} {c : Code} {w : wT} {A : Nat → Prop} {Q : State → Prop} {nL : Nat} {σ : Hp} {pc : Nat} {lv : List (Nat × Value)} {rest : List Value} {cc : ByteArray} {own : String} {r : Option FieldType} (E : YE p m meth c cc nL s args own r w 55 A) {o index : Nat} {z : Int32} (h1 : 0 ≤ o) (h2 : o < 1) (hz : narrow .boolean (.int z) = .int z) (hf : fits .boolean (.int z) = true) (hlink : Cond.fieldLink own index "WhereTheSpoonWent" "isKept" "Z" ∈ wG) (hd : decode cc pc = .ok (.putfield index, 3)) (kk : YY p l e R s m args below meth c w xcf 55 A Q nL (hup σ o 2 z) (pc + 3) lv rest) : YY p l e R s m args below meth c w xcf 55 A Q nL σ pc lv (.int z :: .ref (w.1 o) :: rest) :=
  y_put E (ci := 11) (k := 2) (N := 14) (C := RX11) (T := TX11) (v := .int z) (ty := .boolean) (Nat.lt_of_lt_of_le h2 (by decide)) (xc_X11 h1 h2) (by rw [xc_X11 h1 h2]; simp [upd]) rfl wu_X11 tyX11 tyX11_ok nmX11 (by decide) hlink rfl (by decide +kernel) hz hf (by simp) hd kk
theorem gf_X11_3 {p : Program} {l : Launch} {e : Env} {R : Room} {s : State} {m : MethodId} {args : Array Value} {below : List Frame} {meth : Method} {c : Code} {w : wT} {A : Nat → Prop} {Q : State → Prop} {nL : Nat} {σ : Hp} {pc : Nat} {lv : List (Nat × Value)} {rest : List Value} {cc : ByteArray} {own : String} {r : Option FieldType} (E : YE p m meth c cc nL s args own r w 55 A) {o index : Nat} (h1 : 0 ≤ o) (h2 : o < 1) (hlink : Cond.fieldLink own index "WhereTheSpoonWent" "kinds" "[LWhereTheSpoonWent$Thing;" ∈ wG) (hd : decode cc pc = .ok (.getfield index, 3)) (kk : YY p l e R s m args below meth c w xcf 55 A Q nL σ (pc + 3) lv (.ref (w.1 11) :: rest)) : YY p l e R s m args below meth c w xcf 55 A Q nL σ pc lv (.ref (w.1 o) :: rest) :=
  y_get E (ci := 11) (k := 3) (N := 14) (C := RX11) (T := TX11) (Nat.lt_of_lt_of_le h2 (by decide)) (xc_X11 h1 h2) rfl wu_X11 (by decide) hlink rfl hd kk
theorem gf_X11_4 {p : Program} {l : Launch} {e : Env} {R : Room} {s : State} {m : MethodId} {args : Array Value} {below : List Frame} {meth : Method} {c : Code} {w : wT} {A : Nat → Prop} {Q : State → Prop} {nL : Nat} {σ : Hp} {pc : Nat} {lv : List (Nat × Value)} {rest : List Value} {cc : ByteArray} {own : String} {r : Option FieldType} (E : YE p m meth c cc nL s args own r w 55 A) {o index : Nat} (h1 : 0 ≤ o) (h2 : o < 1) (hlink : Cond.fieldLink own index "WhereTheSpoonWent" "texts" "[LWhereTheSpoonWent$Text;" ∈ wG) (hd : decode cc pc = .ok (.getfield index, 3)) (kk : YY p l e R s m args below meth c w xcf 55 A Q nL σ (pc + 3) lv (.ref (w.1 18) :: rest)) : YY p l e R s m args below meth c w xcf 55 A Q nL σ pc lv (.ref (w.1 o) :: rest) :=
  y_get E (ci := 11) (k := 4) (N := 14) (C := RX11) (T := TX11) (Nat.lt_of_lt_of_le h2 (by decide)) (xc_X11 h1 h2) rfl wu_X11 (by decide) hlink rfl hd kk
theorem gf_X11_5 {p : Program} {l : Launch} {e : Env} {R : Room} {s : State} {m : MethodId} {args : Array Value} {below : List Frame} {meth : Method} {c : Code} {w : wT} {A : Nat → Prop} {Q : State → Prop} {nL : Nat} {σ : Hp} {pc : Nat} {lv : List (Nat × Value)} {rest : List Value} {cc : ByteArray} {own : String} {r : Option FieldType} (E : YE p m meth c cc nL s args own r w 55 A) {o index : Nat} (h1 : 0 ≤ o) (h2 : o < 1) (hlink : Cond.fieldLink own index "WhereTheSpoonWent" "textCount" "I" ∈ wG) (hd : decode cc pc = .ok (.getfield index, 3)) (kk : YY p l e R s m args below meth c w xcf 55 A Q nL σ (pc + 3) lv (.int (σ o 5) :: rest)) : YY p l e R s m args below meth c w xcf 55 A Q nL σ pc lv (.ref (w.1 o) :: rest) :=
  y_get E (ci := 11) (k := 5) (N := 14) (C := RX11) (T := TX11) (Nat.lt_of_lt_of_le h2 (by decide)) (xc_X11 h1 h2) rfl wu_X11 (by decide) hlink rfl hd kk
theorem pf_X11_5 {p : Program} {l : Launch} {e : Env} {R : Room} {s : State} {m : MethodId} {args : Array Value} {below : List Frame} {meth : Method} {c : Code} {w : wT} {A : Nat → Prop} {Q : State → Prop} {nL : Nat} {σ : Hp} {pc : Nat} {lv : List (Nat × Value)} {rest : List Value} {cc : ByteArray} {own : String} {r : Option FieldType} (E : YE p m meth c cc nL s args own r w 55 A) {o index : Nat} {z : Int32} (h1 : 0 ≤ o) (h2 : o < 1) (hlink : Cond.fieldLink own index "WhereTheSpoonWent" "textCount" "I" ∈ wG) (hd : decode cc pc = .ok (.putfield index, 3)) (kk : YY p l e R s m args below meth c w xcf 55 A Q nL (hup σ o 5 z) (pc + 3) lv rest) : YY p l e R s m args below meth c w xcf 55 A Q nL σ pc lv (.int z :: .ref (w.1 o) :: rest) :=
  y_put E (ci := 11) (k := 5) (N := 14) (C := RX11) (T := TX11) (v := .int z) (ty := .int) (Nat.lt_of_lt_of_le h2 (by decide)) (xc_X11 h1 h2) (by rw [xc_X11 h1 h2]; simp [upd]) rfl wu_X11 tyX11 tyX11_ok nmX11 (by decide) hlink rfl (by decide +kernel) rfl rfl (by simp) hd kk
theorem gf_X11_6 {p : Program} {l : Launch} {e : Env} {R : Room} {s : State} {m : MethodId} {args : Array Value} {below : List Frame} {meth : Method} {c : Code} {w : wT} {A : Nat → Prop} {Q : State → Prop} {nL : Nat} {σ : Hp} {pc : Nat} {lv : List (Nat × Value)} {rest : List Value} {cc : ByteArray} {own : String} {r : Option FieldType} (E : YE p m meth c cc nL s args own r w 55 A) {o index : Nat} (h1 : 0 ≤ o) (h2 : o < 1) (hlink : Cond.fieldLink own index "WhereTheSpoonWent" "reader" "LWhereTheSpoonWent$Reader;" ∈ wG) (hd : decode cc pc = .ok (.getfield index, 3)) (kk : YY p l e R s m args below meth c w xcf 55 A Q nL σ (pc + 3) lv (.ref (w.1 38) :: rest)) : YY p l e R s m args below meth c w xcf 55 A Q nL σ pc lv (.ref (w.1 o) :: rest) :=
  y_get E (ci := 11) (k := 6) (N := 14) (C := RX11) (T := TX11) (Nat.lt_of_lt_of_le h2 (by decide)) (xc_X11 h1 h2) rfl wu_X11 (by decide) hlink rfl hd kk
theorem gf_X11_7 {p : Program} {l : Launch} {e : Env} {R : Room} {s : State} {m : MethodId} {args : Array Value} {below : List Frame} {meth : Method} {c : Code} {w : wT} {A : Nat → Prop} {Q : State → Prop} {nL : Nat} {σ : Hp} {pc : Nat} {lv : List (Nat × Value)} {rest : List Value} {cc : ByteArray} {own : String} {r : Option FieldType} (E : YE p m meth c cc nL s args own r w 55 A) {o index : Nat} (h1 : 0 ≤ o) (h2 : o < 1) (hlink : Cond.fieldLink own index "WhereTheSpoonWent" "sheets" "[LWhereTheSpoonWent$Sheet;" ∈ wG) (hd : decode cc pc = .ok (.getfield index, 3)) (kk : YY p l e R s m args below meth c w xcf 55 A Q nL σ (pc + 3) lv (.ref (w.1 40) :: rest)) : YY p l e R s m args below meth c w xcf 55 A Q nL σ pc lv (.ref (w.1 o) :: rest) :=
  y_get E (ci := 11) (k := 7) (N := 14) (C := RX11) (T := TX11) (Nat.lt_of_lt_of_le h2 (by decide)) (xc_X11 h1 h2) rfl wu_X11 (by decide) hlink rfl hd kk
theorem gf_X11_8 {p : Program} {l : Launch} {e : Env} {R : Room} {s : State} {m : MethodId} {args : Array Value} {below : List Frame} {meth : Method} {c : Code} {w : wT} {A : Nat → Prop} {Q : State → Prop} {nL : Nat} {σ : Hp} {pc : Nat} {lv : List (Nat × Value)} {rest : List Value} {cc : ByteArray} {own : String} {r : Option FieldType} (E : YE p m meth c cc nL s args own r w 55 A) {o index : Nat} (h1 : 0 ≤ o) (h2 : o < 1) (hlink : Cond.fieldLink own index "WhereTheSpoonWent" "flight" "LWhereTheSpoonWent$Flight;" ∈ wG) (hd : decode cc pc = .ok (.getfield index, 3)) (kk : YY p l e R s m args below meth c w xcf 55 A Q nL σ (pc + 3) lv (.ref (w.1 49) :: rest)) : YY p l e R s m args below meth c w xcf 55 A Q nL σ pc lv (.ref (w.1 o) :: rest) :=
  y_get E (ci := 11) (k := 8) (N := 14) (C := RX11) (T := TX11) (Nat.lt_of_lt_of_le h2 (by decide)) (xc_X11 h1 h2) rfl wu_X11 (by decide) hlink rfl hd kk
theorem gf_X11_9 {p : Program} {l : Launch} {e : Env} {R : Room} {s : State} {m : MethodId} {args : Array Value} {below : List Frame} {meth : Method} {c : Code} {w : wT} {A : Nat → Prop} {Q : State → Prop} {nL : Nat} {σ : Hp} {pc : Nat} {lv : List (Nat × Value)} {rest : List Value} {cc : ByteArray} {own : String} {r : Option FieldType} (E : YE p m meth c cc nL s args own r w 55 A) {o index : Nat} (h1 : 0 ≤ o) (h2 : o < 1) (hlink : Cond.fieldLink own index "WhereTheSpoonWent" "path" "[I" ∈ wG) (hd : decode cc pc = .ok (.getfield index, 3)) (kk : YY p l e R s m args below meth c w xcf 55 A Q nL σ (pc + 3) lv (.ref (w.1 50) :: rest)) : YY p l e R s m args below meth c w xcf 55 A Q nL σ pc lv (.ref (w.1 o) :: rest) :=
  y_get E (ci := 11) (k := 9) (N := 14) (C := RX11) (T := TX11) (Nat.lt_of_lt_of_le h2 (by decide)) (xc_X11 h1 h2) rfl wu_X11 (by decide) hlink rfl hd kk
theorem gf_X11_10 {p : Program} {l : Launch} {e : Env} {R : Room} {s : State} {m : MethodId} {args : Array Value} {below : List Frame} {meth : Method} {c : Code} {w : wT} {A : Nat → Prop} {Q : State → Prop} {nL : Nat} {σ : Hp} {pc : Nat} {lv : List (Nat × Value)} {rest : List Value} {cc : ByteArray} {own : String} {r : Option FieldType} (E : YE p m meth c cc nL s args own r w 55 A) {o index : Nat} (h1 : 0 ≤ o) (h2 : o < 1) (hlink : Cond.fieldLink own index "WhereTheSpoonWent" "far" "[I" ∈ wG) (hd : decode cc pc = .ok (.getfield index, 3)) (kk : YY p l e R s m args below meth c w xcf 55 A Q nL σ (pc + 3) lv (.ref (w.1 51) :: rest)) : YY p l e R s m args below meth c w xcf 55 A Q nL σ pc lv (.ref (w.1 o) :: rest) :=
  y_get E (ci := 11) (k := 10) (N := 14) (C := RX11) (T := TX11) (Nat.lt_of_lt_of_le h2 (by decide)) (xc_X11 h1 h2) rfl wu_X11 (by decide) hlink rfl hd kk
theorem gf_X11_11 {p : Program} {l : Launch} {e : Env} {R : Room} {s : State} {m : MethodId} {args : Array Value} {below : List Frame} {meth : Method} {c : Code} {w : wT} {A : Nat → Prop} {Q : State → Prop} {nL : Nat} {σ : Hp} {pc : Nat} {lv : List (Nat × Value)} {rest : List Value} {cc : ByteArray} {own : String} {r : Option FieldType} (E : YE p m meth c cc nL s args own r w 55 A) {o index : Nat} (h1 : 0 ≤ o) (h2 : o < 1) (hlink : Cond.fieldLink own index "WhereTheSpoonWent" "queue" "[I" ∈ wG) (hd : decode cc pc = .ok (.getfield index, 3)) (kk : YY p l e R s m args below meth c w xcf 55 A Q nL σ (pc + 3) lv (.ref (w.1 52) :: rest)) : YY p l e R s m args below meth c w xcf 55 A Q nL σ pc lv (.ref (w.1 o) :: rest) :=
  y_get E (ci := 11) (k := 11) (N := 14) (C := RX11) (T := TX11) (Nat.lt_of_lt_of_le h2 (by decide)) (xc_X11 h1 h2) rfl wu_X11 (by decide) hlink rfl hd kk
theorem gf_X11_12 {p : Program} {l : Launch} {e : Env} {R : Room} {s : State} {m : MethodId} {args : Array Value} {below : List Frame} {meth : Method} {c : Code} {w : wT} {A : Nat → Prop} {Q : State → Prop} {nL : Nat} {σ : Hp} {pc : Nat} {lv : List (Nat × Value)} {rest : List Value} {cc : ByteArray} {own : String} {r : Option FieldType} (E : YE p m meth c cc nL s args own r w 55 A) {o index : Nat} (h1 : 0 ≤ o) (h2 : o < 1) (hlink : Cond.fieldLink own index "WhereTheSpoonWent" "ends" "[I" ∈ wG) (hd : decode cc pc = .ok (.getfield index, 3)) (kk : YY p l e R s m args below meth c w xcf 55 A Q nL σ (pc + 3) lv (.ref (w.1 53) :: rest)) : YY p l e R s m args below meth c w xcf 55 A Q nL σ pc lv (.ref (w.1 o) :: rest) :=
  y_get E (ci := 11) (k := 12) (N := 14) (C := RX11) (T := TX11) (Nat.lt_of_lt_of_le h2 (by decide)) (xc_X11 h1 h2) rfl wu_X11 (by decide) hlink rfl hd kk
theorem gf_X11_13 {p : Program} {l : Launch} {e : Env} {R : Room} {s : State} {m : MethodId} {args : Array Value} {below : List Frame} {meth : Method} {c : Code} {w : wT} {A : Nat → Prop} {Q : State → Prop} {nL : Nat} {σ : Hp} {pc : Nat} {lv : List (Nat × Value)} {rest : List Value} {cc : ByteArray} {own : String} {r : Option FieldType} (E : YE p m meth c cc nL s args own r w 55 A) {o index : Nat} (h1 : 0 ≤ o) (h2 : o < 1) (hlink : Cond.fieldLink own index "WhereTheSpoonWent" "tally" "[I" ∈ wG) (hd : decode cc pc = .ok (.getfield index, 3)) (kk : YY p l e R s m args below meth c w xcf 55 A Q nL σ (pc + 3) lv (.ref (w.1 54) :: rest)) : YY p l e R s m args below meth c w xcf 55 A Q nL σ pc lv (.ref (w.1 o) :: rest) :=
  y_get E (ci := 11) (k := 13) (N := 14) (C := RX11) (T := TX11) (Nat.lt_of_lt_of_le h2 (by decide)) (xc_X11 h1 h2) rfl wu_X11 (by decide) hlink rfl hd kk
theorem wu_X3 : ∀ x ∈ u_ws RX3 TX3 10, x ∈ wG := fun x h => by
  obtain ⟨k, hk, rfl⟩ := List.mem_map.mp h
  have hk := List.mem_range.mp hk
  match k, hk with
  | 0, _ => exact wm_14
  | 1, _ => exact wm_15
  | 2, _ => exact wm_16
  | 3, _ => exact wm_17
  | 4, _ => exact wm_18
  | 5, _ => exact wm_19
  | 6, _ => exact wm_20
  | 7, _ => exact wm_21
  | 8, _ => exact wm_22
  | 9, _ => exact wm_23
  | k + 10, hk => exact absurd hk (by omega)
theorem gf_X3_0 {p : Program} {l : Launch} {e : Env} {R : Room} {s : State} {m : MethodId} {args : Array Value} {below : List Frame} {meth : Method} {c : Code} {w : wT} {A : Nat → Prop} {Q : State → Prop} {nL : Nat} {σ : Hp} {pc : Nat} {lv : List (Nat × Value)} {rest : List Value} {cc : ByteArray} {own : String} {r : Option FieldType} (E : YE p m meth c cc nL s args own r w 55 A) {o index : Nat} (h1 : 1 ≤ o) (h2 : o < 3) (hlink : Cond.fieldLink own index "WhereTheSpoonWent$House" "walls" "I" ∈ wG) (hd : decode cc pc = .ok (.getfield index, 3)) (kk : YY p l e R s m args below meth c w xcf 55 A Q nL σ (pc + 3) lv (.int (σ o 0) :: rest)) : YY p l e R s m args below meth c w xcf 55 A Q nL σ pc lv (.ref (w.1 o) :: rest) :=
  y_get E (ci := 3) (k := 0) (N := 10) (C := RX3) (T := TX3) (Nat.lt_of_lt_of_le h2 (by decide)) (xc_X3 h1 h2) rfl wu_X3 (by decide) hlink rfl hd kk
theorem pf_X3_0 {p : Program} {l : Launch} {e : Env} {R : Room} {s : State} {m : MethodId} {args : Array Value} {below : List Frame} {meth : Method} {c : Code} {w : wT} {A : Nat → Prop} {Q : State → Prop} {nL : Nat} {σ : Hp} {pc : Nat} {lv : List (Nat × Value)} {rest : List Value} {cc : ByteArray} {own : String} {r : Option FieldType} (E : YE p m meth c cc nL s args own r w 55 A) {o index : Nat} {z : Int32} (h1 : 1 ≤ o) (h2 : o < 3) (hlink : Cond.fieldLink own index "WhereTheSpoonWent$House" "walls" "I" ∈ wG) (hd : decode cc pc = .ok (.putfield index, 3)) (kk : YY p l e R s m args below meth c w xcf 55 A Q nL (hup σ o 0 z) (pc + 3) lv rest) : YY p l e R s m args below meth c w xcf 55 A Q nL σ pc lv (.int z :: .ref (w.1 o) :: rest) :=
  y_put E (ci := 3) (k := 0) (N := 10) (C := RX3) (T := TX3) (v := .int z) (ty := .int) (Nat.lt_of_lt_of_le h2 (by decide)) (xc_X3 h1 h2) (by rw [xc_X3 h1 h2]; simp [upd]) rfl wu_X3 tyX3 tyX3_ok nmX3 (by decide) hlink rfl (by decide +kernel) rfl rfl (by simp) hd kk
theorem gf_X3_1 {p : Program} {l : Launch} {e : Env} {R : Room} {s : State} {m : MethodId} {args : Array Value} {below : List Frame} {meth : Method} {c : Code} {w : wT} {A : Nat → Prop} {Q : State → Prop} {nL : Nat} {σ : Hp} {pc : Nat} {lv : List (Nat × Value)} {rest : List Value} {cc : ByteArray} {own : String} {r : Option FieldType} (E : YE p m meth c cc nL s args own r w 55 A) {o index : Nat} (h1 : 1 ≤ o) (h2 : o < 3) (hlink : Cond.fieldLink own index "WhereTheSpoonWent$House" "nets" "I" ∈ wG) (hd : decode cc pc = .ok (.getfield index, 3)) (kk : YY p l e R s m args below meth c w xcf 55 A Q nL σ (pc + 3) lv (.int (σ o 1) :: rest)) : YY p l e R s m args below meth c w xcf 55 A Q nL σ pc lv (.ref (w.1 o) :: rest) :=
  y_get E (ci := 3) (k := 1) (N := 10) (C := RX3) (T := TX3) (Nat.lt_of_lt_of_le h2 (by decide)) (xc_X3 h1 h2) rfl wu_X3 (by decide) hlink rfl hd kk
theorem pf_X3_1 {p : Program} {l : Launch} {e : Env} {R : Room} {s : State} {m : MethodId} {args : Array Value} {below : List Frame} {meth : Method} {c : Code} {w : wT} {A : Nat → Prop} {Q : State → Prop} {nL : Nat} {σ : Hp} {pc : Nat} {lv : List (Nat × Value)} {rest : List Value} {cc : ByteArray} {own : String} {r : Option FieldType} (E : YE p m meth c cc nL s args own r w 55 A) {o index : Nat} {z : Int32} (h1 : 1 ≤ o) (h2 : o < 3) (hlink : Cond.fieldLink own index "WhereTheSpoonWent$House" "nets" "I" ∈ wG) (hd : decode cc pc = .ok (.putfield index, 3)) (kk : YY p l e R s m args below meth c w xcf 55 A Q nL (hup σ o 1 z) (pc + 3) lv rest) : YY p l e R s m args below meth c w xcf 55 A Q nL σ pc lv (.int z :: .ref (w.1 o) :: rest) :=
  y_put E (ci := 3) (k := 1) (N := 10) (C := RX3) (T := TX3) (v := .int z) (ty := .int) (Nat.lt_of_lt_of_le h2 (by decide)) (xc_X3 h1 h2) (by rw [xc_X3 h1 h2]; simp [upd]) rfl wu_X3 tyX3 tyX3_ok nmX3 (by decide) hlink rfl (by decide +kernel) rfl rfl (by simp) hd kk
theorem gf_X3_2 {p : Program} {l : Launch} {e : Env} {R : Room} {s : State} {m : MethodId} {args : Array Value} {below : List Frame} {meth : Method} {c : Code} {w : wT} {A : Nat → Prop} {Q : State → Prop} {nL : Nat} {σ : Hp} {pc : Nat} {lv : List (Nat × Value)} {rest : List Value} {cc : ByteArray} {own : String} {r : Option FieldType} (E : YE p m meth c cc nL s args own r w 55 A) {o index : Nat} (h1 : 1 ≤ o) (h2 : o < 3) (hlink : Cond.fieldLink own index "WhereTheSpoonWent$House" "fans" "I" ∈ wG) (hd : decode cc pc = .ok (.getfield index, 3)) (kk : YY p l e R s m args below meth c w xcf 55 A Q nL σ (pc + 3) lv (.int (σ o 2) :: rest)) : YY p l e R s m args below meth c w xcf 55 A Q nL σ pc lv (.ref (w.1 o) :: rest) :=
  y_get E (ci := 3) (k := 2) (N := 10) (C := RX3) (T := TX3) (Nat.lt_of_lt_of_le h2 (by decide)) (xc_X3 h1 h2) rfl wu_X3 (by decide) hlink rfl hd kk
theorem pf_X3_2 {p : Program} {l : Launch} {e : Env} {R : Room} {s : State} {m : MethodId} {args : Array Value} {below : List Frame} {meth : Method} {c : Code} {w : wT} {A : Nat → Prop} {Q : State → Prop} {nL : Nat} {σ : Hp} {pc : Nat} {lv : List (Nat × Value)} {rest : List Value} {cc : ByteArray} {own : String} {r : Option FieldType} (E : YE p m meth c cc nL s args own r w 55 A) {o index : Nat} {z : Int32} (h1 : 1 ≤ o) (h2 : o < 3) (hlink : Cond.fieldLink own index "WhereTheSpoonWent$House" "fans" "I" ∈ wG) (hd : decode cc pc = .ok (.putfield index, 3)) (kk : YY p l e R s m args below meth c w xcf 55 A Q nL (hup σ o 2 z) (pc + 3) lv rest) : YY p l e R s m args below meth c w xcf 55 A Q nL σ pc lv (.int z :: .ref (w.1 o) :: rest) :=
  y_put E (ci := 3) (k := 2) (N := 10) (C := RX3) (T := TX3) (v := .int z) (ty := .int) (Nat.lt_of_lt_of_le h2 (by decide)) (xc_X3 h1 h2) (by rw [xc_X3 h1 h2]; simp [upd]) rfl wu_X3 tyX3 tyX3_ok nmX3 (by decide) hlink rfl (by decide +kernel) rfl rfl (by simp) hd kk
theorem gf_X3_3 {p : Program} {l : Launch} {e : Env} {R : Room} {s : State} {m : MethodId} {args : Array Value} {below : List Frame} {meth : Method} {c : Code} {w : wT} {A : Nat → Prop} {Q : State → Prop} {nL : Nat} {σ : Hp} {pc : Nat} {lv : List (Nat × Value)} {rest : List Value} {cc : ByteArray} {own : String} {r : Option FieldType} (E : YE p m meth c cc nL s args own r w 55 A) {o index : Nat} (h1 : 1 ≤ o) (h2 : o < 3) (hlink : Cond.fieldLink own index "WhereTheSpoonWent$House" "step" "I" ∈ wG) (hd : decode cc pc = .ok (.getfield index, 3)) (kk : YY p l e R s m args below meth c w xcf 55 A Q nL σ (pc + 3) lv (.int (σ o 3) :: rest)) : YY p l e R s m args below meth c w xcf 55 A Q nL σ pc lv (.ref (w.1 o) :: rest) :=
  y_get E (ci := 3) (k := 3) (N := 10) (C := RX3) (T := TX3) (Nat.lt_of_lt_of_le h2 (by decide)) (xc_X3 h1 h2) rfl wu_X3 (by decide) hlink rfl hd kk
theorem pf_X3_3 {p : Program} {l : Launch} {e : Env} {R : Room} {s : State} {m : MethodId} {args : Array Value} {below : List Frame} {meth : Method} {c : Code} {w : wT} {A : Nat → Prop} {Q : State → Prop} {nL : Nat} {σ : Hp} {pc : Nat} {lv : List (Nat × Value)} {rest : List Value} {cc : ByteArray} {own : String} {r : Option FieldType} (E : YE p m meth c cc nL s args own r w 55 A) {o index : Nat} {z : Int32} (h1 : 1 ≤ o) (h2 : o < 3) (hlink : Cond.fieldLink own index "WhereTheSpoonWent$House" "step" "I" ∈ wG) (hd : decode cc pc = .ok (.putfield index, 3)) (kk : YY p l e R s m args below meth c w xcf 55 A Q nL (hup σ o 3 z) (pc + 3) lv rest) : YY p l e R s m args below meth c w xcf 55 A Q nL σ pc lv (.int z :: .ref (w.1 o) :: rest) :=
  y_put E (ci := 3) (k := 3) (N := 10) (C := RX3) (T := TX3) (v := .int z) (ty := .int) (Nat.lt_of_lt_of_le h2 (by decide)) (xc_X3 h1 h2) (by rw [xc_X3 h1 h2]; simp [upd]) rfl wu_X3 tyX3 tyX3_ok nmX3 (by decide) hlink rfl (by decide +kernel) rfl rfl (by simp) hd kk
theorem gf_X3_4 {p : Program} {l : Launch} {e : Env} {R : Room} {s : State} {m : MethodId} {args : Array Value} {below : List Frame} {meth : Method} {c : Code} {w : wT} {A : Nat → Prop} {Q : State → Prop} {nL : Nat} {σ : Hp} {pc : Nat} {lv : List (Nat × Value)} {rest : List Value} {cc : ByteArray} {own : String} {r : Option FieldType} (E : YE p m meth c cc nL s args own r w 55 A) {o index : Nat} (h1 : 1 ≤ o) (h2 : o < 3) (hlink : Cond.fieldLink own index "WhereTheSpoonWent$House" "law" "I" ∈ wG) (hd : decode cc pc = .ok (.getfield index, 3)) (kk : YY p l e R s m args below meth c w xcf 55 A Q nL σ (pc + 3) lv (.int (σ o 4) :: rest)) : YY p l e R s m args below meth c w xcf 55 A Q nL σ pc lv (.ref (w.1 o) :: rest) :=
  y_get E (ci := 3) (k := 4) (N := 10) (C := RX3) (T := TX3) (Nat.lt_of_lt_of_le h2 (by decide)) (xc_X3 h1 h2) rfl wu_X3 (by decide) hlink rfl hd kk
theorem pf_X3_4 {p : Program} {l : Launch} {e : Env} {R : Room} {s : State} {m : MethodId} {args : Array Value} {below : List Frame} {meth : Method} {c : Code} {w : wT} {A : Nat → Prop} {Q : State → Prop} {nL : Nat} {σ : Hp} {pc : Nat} {lv : List (Nat × Value)} {rest : List Value} {cc : ByteArray} {own : String} {r : Option FieldType} (E : YE p m meth c cc nL s args own r w 55 A) {o index : Nat} {z : Int32} (h1 : 1 ≤ o) (h2 : o < 3) (hlink : Cond.fieldLink own index "WhereTheSpoonWent$House" "law" "I" ∈ wG) (hd : decode cc pc = .ok (.putfield index, 3)) (kk : YY p l e R s m args below meth c w xcf 55 A Q nL (hup σ o 4 z) (pc + 3) lv rest) : YY p l e R s m args below meth c w xcf 55 A Q nL σ pc lv (.int z :: .ref (w.1 o) :: rest) :=
  y_put E (ci := 3) (k := 4) (N := 10) (C := RX3) (T := TX3) (v := .int z) (ty := .int) (Nat.lt_of_lt_of_le h2 (by decide)) (xc_X3 h1 h2) (by rw [xc_X3 h1 h2]; simp [upd]) rfl wu_X3 tyX3 tyX3_ok nmX3 (by decide) hlink rfl (by decide +kernel) rfl rfl (by simp) hd kk
theorem gf_X3_5 {p : Program} {l : Launch} {e : Env} {R : Room} {s : State} {m : MethodId} {args : Array Value} {below : List Frame} {meth : Method} {c : Code} {w : wT} {A : Nat → Prop} {Q : State → Prop} {nL : Nat} {σ : Hp} {pc : Nat} {lv : List (Nat × Value)} {rest : List Value} {cc : ByteArray} {own : String} {r : Option FieldType} (E : YE p m meth c cc nL s args own r w 55 A) {o index : Nat} (h1 : 1 ≤ o) (h2 : o < 3) (hlink : Cond.fieldLink own index "WhereTheSpoonWent$House" "things" "I" ∈ wG) (hd : decode cc pc = .ok (.getfield index, 3)) (kk : YY p l e R s m args below meth c w xcf 55 A Q nL σ (pc + 3) lv (.int (σ o 5) :: rest)) : YY p l e R s m args below meth c w xcf 55 A Q nL σ pc lv (.ref (w.1 o) :: rest) :=
  y_get E (ci := 3) (k := 5) (N := 10) (C := RX3) (T := TX3) (Nat.lt_of_lt_of_le h2 (by decide)) (xc_X3 h1 h2) rfl wu_X3 (by decide) hlink rfl hd kk
theorem pf_X3_5 {p : Program} {l : Launch} {e : Env} {R : Room} {s : State} {m : MethodId} {args : Array Value} {below : List Frame} {meth : Method} {c : Code} {w : wT} {A : Nat → Prop} {Q : State → Prop} {nL : Nat} {σ : Hp} {pc : Nat} {lv : List (Nat × Value)} {rest : List Value} {cc : ByteArray} {own : String} {r : Option FieldType} (E : YE p m meth c cc nL s args own r w 55 A) {o index : Nat} {z : Int32} (h1 : 1 ≤ o) (h2 : o < 3) (hlink : Cond.fieldLink own index "WhereTheSpoonWent$House" "things" "I" ∈ wG) (hd : decode cc pc = .ok (.putfield index, 3)) (kk : YY p l e R s m args below meth c w xcf 55 A Q nL (hup σ o 5 z) (pc + 3) lv rest) : YY p l e R s m args below meth c w xcf 55 A Q nL σ pc lv (.int z :: .ref (w.1 o) :: rest) :=
  y_put E (ci := 3) (k := 5) (N := 10) (C := RX3) (T := TX3) (v := .int z) (ty := .int) (Nat.lt_of_lt_of_le h2 (by decide)) (xc_X3 h1 h2) (by rw [xc_X3 h1 h2]; simp [upd]) rfl wu_X3 tyX3 tyX3_ok nmX3 (by decide) hlink rfl (by decide +kernel) rfl rfl (by simp) hd kk
theorem gf_X3_6 {p : Program} {l : Launch} {e : Env} {R : Room} {s : State} {m : MethodId} {args : Array Value} {below : List Frame} {meth : Method} {c : Code} {w : wT} {A : Nat → Prop} {Q : State → Prop} {nL : Nat} {σ : Hp} {pc : Nat} {lv : List (Nat × Value)} {rest : List Value} {cc : ByteArray} {own : String} {r : Option FieldType} (E : YE p m meth c cc nL s args own r w 55 A) {o index q : Nat} (h1 : 1 ≤ o) (h2 : o < 3) (hq : 3 + 4 * (o - 1) = q) (hlink : Cond.fieldLink own index "WhereTheSpoonWent$House" "kinds" "[I" ∈ wG) (hd : decode cc pc = .ok (.getfield index, 3)) (kk : YY p l e R s m args below meth c w xcf 55 A Q nL σ (pc + 3) lv (.ref (w.1 q) :: rest)) : YY p l e R s m args below meth c w xcf 55 A Q nL σ pc lv (.ref (w.1 o) :: rest) :=
  y_get E (ci := 3) (k := 6) (N := 10) (C := RX3) (T := TX3) (Nat.lt_of_lt_of_le h2 (by decide)) (xc_X3 h1 h2) rfl wu_X3 (by decide) hlink rfl hd (by rw [hq]; exact kk)
theorem gf_X3_7 {p : Program} {l : Launch} {e : Env} {R : Room} {s : State} {m : MethodId} {args : Array Value} {below : List Frame} {meth : Method} {c : Code} {w : wT} {A : Nat → Prop} {Q : State → Prop} {nL : Nat} {σ : Hp} {pc : Nat} {lv : List (Nat × Value)} {rest : List Value} {cc : ByteArray} {own : String} {r : Option FieldType} (E : YE p m meth c cc nL s args own r w 55 A) {o index q : Nat} (h1 : 1 ≤ o) (h2 : o < 3) (hq : 4 + 4 * (o - 1) = q) (hlink : Cond.fieldLink own index "WhereTheSpoonWent$House" "mores" "[I" ∈ wG) (hd : decode cc pc = .ok (.getfield index, 3)) (kk : YY p l e R s m args below meth c w xcf 55 A Q nL σ (pc + 3) lv (.ref (w.1 q) :: rest)) : YY p l e R s m args below meth c w xcf 55 A Q nL σ pc lv (.ref (w.1 o) :: rest) :=
  y_get E (ci := 3) (k := 7) (N := 10) (C := RX3) (T := TX3) (Nat.lt_of_lt_of_le h2 (by decide)) (xc_X3 h1 h2) rfl wu_X3 (by decide) hlink rfl hd (by rw [hq]; exact kk)
theorem gf_X3_8 {p : Program} {l : Launch} {e : Env} {R : Room} {s : State} {m : MethodId} {args : Array Value} {below : List Frame} {meth : Method} {c : Code} {w : wT} {A : Nat → Prop} {Q : State → Prop} {nL : Nat} {σ : Hp} {pc : Nat} {lv : List (Nat × Value)} {rest : List Value} {cc : ByteArray} {own : String} {r : Option FieldType} (E : YE p m meth c cc nL s args own r w 55 A) {o index q : Nat} (h1 : 1 ≤ o) (h2 : o < 3) (hq : 5 + 4 * (o - 1) = q) (hlink : Cond.fieldLink own index "WhereTheSpoonWent$House" "cells" "[I" ∈ wG) (hd : decode cc pc = .ok (.getfield index, 3)) (kk : YY p l e R s m args below meth c w xcf 55 A Q nL σ (pc + 3) lv (.ref (w.1 q) :: rest)) : YY p l e R s m args below meth c w xcf 55 A Q nL σ pc lv (.ref (w.1 o) :: rest) :=
  y_get E (ci := 3) (k := 8) (N := 10) (C := RX3) (T := TX3) (Nat.lt_of_lt_of_le h2 (by decide)) (xc_X3 h1 h2) rfl wu_X3 (by decide) hlink rfl hd (by rw [hq]; exact kk)
theorem gf_X3_9 {p : Program} {l : Launch} {e : Env} {R : Room} {s : State} {m : MethodId} {args : Array Value} {below : List Frame} {meth : Method} {c : Code} {w : wT} {A : Nat → Prop} {Q : State → Prop} {nL : Nat} {σ : Hp} {pc : Nat} {lv : List (Nat × Value)} {rest : List Value} {cc : ByteArray} {own : String} {r : Option FieldType} (E : YE p m meth c cc nL s args own r w 55 A) {o index q : Nat} (h1 : 1 ≤ o) (h2 : o < 3) (hq : 6 + 4 * (o - 1) = q) (hlink : Cond.fieldLink own index "WhereTheSpoonWent$House" "ways" "[I" ∈ wG) (hd : decode cc pc = .ok (.getfield index, 3)) (kk : YY p l e R s m args below meth c w xcf 55 A Q nL σ (pc + 3) lv (.ref (w.1 q) :: rest)) : YY p l e R s m args below meth c w xcf 55 A Q nL σ pc lv (.ref (w.1 o) :: rest) :=
  y_get E (ci := 3) (k := 9) (N := 10) (C := RX3) (T := TX3) (Nat.lt_of_lt_of_le h2 (by decide)) (xc_X3 h1 h2) rfl wu_X3 (by decide) hlink rfl hd (by rw [hq]; exact kk)
theorem wu_X9 : ∀ x ∈ u_ws RX9 TX9 5, x ∈ wG := fun x h => by
  obtain ⟨k, hk, rfl⟩ := List.mem_map.mp h
  have hk := List.mem_range.mp hk
  match k, hk with
  | 0, _ => exact wm_24
  | 1, _ => exact wm_25
  | 2, _ => exact wm_26
  | 3, _ => exact wm_27
  | 4, _ => exact wm_28
  | k + 5, hk => exact absurd hk (by omega)
theorem gf_X9_0 {p : Program} {l : Launch} {e : Env} {R : Room} {s : State} {m : MethodId} {args : Array Value} {below : List Frame} {meth : Method} {c : Code} {w : wT} {A : Nat → Prop} {Q : State → Prop} {nL : Nat} {σ : Hp} {pc : Nat} {lv : List (Nat × Value)} {rest : List Value} {cc : ByteArray} {own : String} {r : Option FieldType} (E : YE p m meth c cc nL s args own r w 55 A) {o index q : Nat} (h1 : 19 ≤ o) (h2 : o < 25) (hq : 25 + 1 * (o - 19) = q) (hlink : Cond.fieldLink own index "WhereTheSpoonWent$Text" "codes" "[I" ∈ wG) (hd : decode cc pc = .ok (.getfield index, 3)) (kk : YY p l e R s m args below meth c w xcf 55 A Q nL σ (pc + 3) lv (.ref (w.1 q) :: rest)) : YY p l e R s m args below meth c w xcf 55 A Q nL σ pc lv (.ref (w.1 o) :: rest) :=
  y_get E (ci := 9) (k := 0) (N := 5) (C := RX9) (T := TX9) (Nat.lt_of_lt_of_le h2 (by decide)) (xc_X9 h1 h2) rfl wu_X9 (by decide) hlink rfl hd (by rw [hq]; exact kk)
theorem gf_X9_1 {p : Program} {l : Launch} {e : Env} {R : Room} {s : State} {m : MethodId} {args : Array Value} {below : List Frame} {meth : Method} {c : Code} {w : wT} {A : Nat → Prop} {Q : State → Prop} {nL : Nat} {σ : Hp} {pc : Nat} {lv : List (Nat × Value)} {rest : List Value} {cc : ByteArray} {own : String} {r : Option FieldType} (E : YE p m meth c cc nL s args own r w 55 A) {o index q : Nat} (h1 : 19 ≤ o) (h2 : o < 25) (hq : 31 + 1 * (o - 19) = q) (hlink : Cond.fieldLink own index "WhereTheSpoonWent$Text" "starts" "[I" ∈ wG) (hd : decode cc pc = .ok (.getfield index, 3)) (kk : YY p l e R s m args below meth c w xcf 55 A Q nL σ (pc + 3) lv (.ref (w.1 q) :: rest)) : YY p l e R s m args below meth c w xcf 55 A Q nL σ pc lv (.ref (w.1 o) :: rest) :=
  y_get E (ci := 9) (k := 1) (N := 5) (C := RX9) (T := TX9) (Nat.lt_of_lt_of_le h2 (by decide)) (xc_X9 h1 h2) rfl wu_X9 (by decide) hlink rfl hd (by rw [hq]; exact kk)
theorem gf_X9_2 {p : Program} {l : Launch} {e : Env} {R : Room} {s : State} {m : MethodId} {args : Array Value} {below : List Frame} {meth : Method} {c : Code} {w : wT} {A : Nat → Prop} {Q : State → Prop} {nL : Nat} {σ : Hp} {pc : Nat} {lv : List (Nat × Value)} {rest : List Value} {cc : ByteArray} {own : String} {r : Option FieldType} (E : YE p m meth c cc nL s args own r w 55 A) {o index : Nat} (h1 : 19 ≤ o) (h2 : o < 25) (hlink : Cond.fieldLink own index "WhereTheSpoonWent$Text" "stack" "[I" ∈ wG) (hd : decode cc pc = .ok (.getfield index, 3)) (kk : YY p l e R s m args below meth c w xcf 55 A Q nL σ (pc + 3) lv (.ref (w.1 37) :: rest)) : YY p l e R s m args below meth c w xcf 55 A Q nL σ pc lv (.ref (w.1 o) :: rest) :=
  y_get E (ci := 9) (k := 2) (N := 5) (C := RX9) (T := TX9) (Nat.lt_of_lt_of_le h2 (by decide)) (xc_X9 h1 h2) rfl wu_X9 (by decide) hlink rfl hd kk
theorem gf_X9_3 {p : Program} {l : Launch} {e : Env} {R : Room} {s : State} {m : MethodId} {args : Array Value} {below : List Frame} {meth : Method} {c : Code} {w : wT} {A : Nat → Prop} {Q : State → Prop} {nL : Nat} {σ : Hp} {pc : Nat} {lv : List (Nat × Value)} {rest : List Value} {cc : ByteArray} {own : String} {r : Option FieldType} (E : YE p m meth c cc nL s args own r w 55 A) {o index : Nat} (h1 : 19 ≤ o) (h2 : o < 25) (hlink : Cond.fieldLink own index "WhereTheSpoonWent$Text" "used" "I" ∈ wG) (hd : decode cc pc = .ok (.getfield index, 3)) (kk : YY p l e R s m args below meth c w xcf 55 A Q nL σ (pc + 3) lv (.int (σ o 3) :: rest)) : YY p l e R s m args below meth c w xcf 55 A Q nL σ pc lv (.ref (w.1 o) :: rest) :=
  y_get E (ci := 9) (k := 3) (N := 5) (C := RX9) (T := TX9) (Nat.lt_of_lt_of_le h2 (by decide)) (xc_X9 h1 h2) rfl wu_X9 (by decide) hlink rfl hd kk
theorem pf_X9_3 {p : Program} {l : Launch} {e : Env} {R : Room} {s : State} {m : MethodId} {args : Array Value} {below : List Frame} {meth : Method} {c : Code} {w : wT} {A : Nat → Prop} {Q : State → Prop} {nL : Nat} {σ : Hp} {pc : Nat} {lv : List (Nat × Value)} {rest : List Value} {cc : ByteArray} {own : String} {r : Option FieldType} (E : YE p m meth c cc nL s args own r w 55 A) {o index : Nat} {z : Int32} (h1 : 19 ≤ o) (h2 : o < 25) (hlink : Cond.fieldLink own index "WhereTheSpoonWent$Text" "used" "I" ∈ wG) (hd : decode cc pc = .ok (.putfield index, 3)) (kk : YY p l e R s m args below meth c w xcf 55 A Q nL (hup σ o 3 z) (pc + 3) lv rest) : YY p l e R s m args below meth c w xcf 55 A Q nL σ pc lv (.int z :: .ref (w.1 o) :: rest) :=
  y_put E (ci := 9) (k := 3) (N := 5) (C := RX9) (T := TX9) (v := .int z) (ty := .int) (Nat.lt_of_lt_of_le h2 (by decide)) (xc_X9 h1 h2) (by rw [xc_X9 h1 h2]; simp [upd]) rfl wu_X9 tyX9 tyX9_ok nmX9 (by decide) hlink rfl (by decide +kernel) rfl rfl (by simp) hd kk
theorem gf_X9_4 {p : Program} {l : Launch} {e : Env} {R : Room} {s : State} {m : MethodId} {args : Array Value} {below : List Frame} {meth : Method} {c : Code} {w : wT} {A : Nat → Prop} {Q : State → Prop} {nL : Nat} {σ : Hp} {pc : Nat} {lv : List (Nat × Value)} {rest : List Value} {cc : ByteArray} {own : String} {r : Option FieldType} (E : YE p m meth c cc nL s args own r w 55 A) {o index : Nat} (h1 : 19 ≤ o) (h2 : o < 25) (hlink : Cond.fieldLink own index "WhereTheSpoonWent$Text" "parts" "I" ∈ wG) (hd : decode cc pc = .ok (.getfield index, 3)) (kk : YY p l e R s m args below meth c w xcf 55 A Q nL σ (pc + 3) lv (.int (σ o 4) :: rest)) : YY p l e R s m args below meth c w xcf 55 A Q nL σ pc lv (.ref (w.1 o) :: rest) :=
  y_get E (ci := 9) (k := 4) (N := 5) (C := RX9) (T := TX9) (Nat.lt_of_lt_of_le h2 (by decide)) (xc_X9 h1 h2) rfl wu_X9 (by decide) hlink rfl hd kk
theorem pf_X9_4 {p : Program} {l : Launch} {e : Env} {R : Room} {s : State} {m : MethodId} {args : Array Value} {below : List Frame} {meth : Method} {c : Code} {w : wT} {A : Nat → Prop} {Q : State → Prop} {nL : Nat} {σ : Hp} {pc : Nat} {lv : List (Nat × Value)} {rest : List Value} {cc : ByteArray} {own : String} {r : Option FieldType} (E : YE p m meth c cc nL s args own r w 55 A) {o index : Nat} {z : Int32} (h1 : 19 ≤ o) (h2 : o < 25) (hlink : Cond.fieldLink own index "WhereTheSpoonWent$Text" "parts" "I" ∈ wG) (hd : decode cc pc = .ok (.putfield index, 3)) (kk : YY p l e R s m args below meth c w xcf 55 A Q nL (hup σ o 4 z) (pc + 3) lv rest) : YY p l e R s m args below meth c w xcf 55 A Q nL σ pc lv (.int z :: .ref (w.1 o) :: rest) :=
  y_put E (ci := 9) (k := 4) (N := 5) (C := RX9) (T := TX9) (v := .int z) (ty := .int) (Nat.lt_of_lt_of_le h2 (by decide)) (xc_X9 h1 h2) (by rw [xc_X9 h1 h2]; simp [upd]) rfl wu_X9 tyX9 tyX9_ok nmX9 (by decide) hlink rfl (by decide +kernel) rfl rfl (by simp) hd kk
theorem wu_X4 : ∀ x ∈ u_ws RX4 TX4 7, x ∈ wG := fun x h => by
  obtain ⟨k, hk, rfl⟩ := List.mem_map.mp h
  have hk := List.mem_range.mp hk
  match k, hk with
  | 0, _ => exact wm_29
  | 1, _ => exact wm_30
  | 2, _ => exact wm_31
  | 3, _ => exact wm_32
  | 4, _ => exact wm_33
  | 5, _ => exact wm_34
  | 6, _ => exact wm_35
  | k + 7, hk => exact absurd hk (by omega)
theorem gf_X4_0 {p : Program} {l : Launch} {e : Env} {R : Room} {s : State} {m : MethodId} {args : Array Value} {below : List Frame} {meth : Method} {c : Code} {w : wT} {A : Nat → Prop} {Q : State → Prop} {nL : Nat} {σ : Hp} {pc : Nat} {lv : List (Nat × Value)} {rest : List Value} {cc : ByteArray} {own : String} {r : Option FieldType} (E : YE p m meth c cc nL s args own r w 55 A) {o index : Nat} (h1 : 38 ≤ o) (h2 : o < 39) (hlink : Cond.fieldLink own index "WhereTheSpoonWent$Reader" "bytes" "[B" ∈ wG) (hd : decode cc pc = .ok (.getfield index, 3)) (kk : YY p l e R s m args below meth c w xcf 55 A Q nL σ (pc + 3) lv (.ref (w.1 39) :: rest)) : YY p l e R s m args below meth c w xcf 55 A Q nL σ pc lv (.ref (w.1 o) :: rest) :=
  y_get E (ci := 4) (k := 0) (N := 7) (C := RX4) (T := TX4) (Nat.lt_of_lt_of_le h2 (by decide)) (xc_X4 h1 h2) rfl wu_X4 (by decide) hlink rfl hd kk
theorem gf_X4_1 {p : Program} {l : Launch} {e : Env} {R : Room} {s : State} {m : MethodId} {args : Array Value} {below : List Frame} {meth : Method} {c : Code} {w : wT} {A : Nat → Prop} {Q : State → Prop} {nL : Nat} {σ : Hp} {pc : Nat} {lv : List (Nat × Value)} {rest : List Value} {cc : ByteArray} {own : String} {r : Option FieldType} (E : YE p m meth c cc nL s args own r w 55 A) {o index : Nat} (h1 : 38 ≤ o) (h2 : o < 39) (hlink : Cond.fieldLink own index "WhereTheSpoonWent$Reader" "size" "I" ∈ wG) (hd : decode cc pc = .ok (.getfield index, 3)) (kk : YY p l e R s m args below meth c w xcf 55 A Q nL σ (pc + 3) lv (.int (σ o 1) :: rest)) : YY p l e R s m args below meth c w xcf 55 A Q nL σ pc lv (.ref (w.1 o) :: rest) :=
  y_get E (ci := 4) (k := 1) (N := 7) (C := RX4) (T := TX4) (Nat.lt_of_lt_of_le h2 (by decide)) (xc_X4 h1 h2) rfl wu_X4 (by decide) hlink rfl hd kk
theorem pf_X4_1 {p : Program} {l : Launch} {e : Env} {R : Room} {s : State} {m : MethodId} {args : Array Value} {below : List Frame} {meth : Method} {c : Code} {w : wT} {A : Nat → Prop} {Q : State → Prop} {nL : Nat} {σ : Hp} {pc : Nat} {lv : List (Nat × Value)} {rest : List Value} {cc : ByteArray} {own : String} {r : Option FieldType} (E : YE p m meth c cc nL s args own r w 55 A) {o index : Nat} {z : Int32} (h1 : 38 ≤ o) (h2 : o < 39) (hlink : Cond.fieldLink own index "WhereTheSpoonWent$Reader" "size" "I" ∈ wG) (hd : decode cc pc = .ok (.putfield index, 3)) (kk : YY p l e R s m args below meth c w xcf 55 A Q nL (hup σ o 1 z) (pc + 3) lv rest) : YY p l e R s m args below meth c w xcf 55 A Q nL σ pc lv (.int z :: .ref (w.1 o) :: rest) :=
  y_put E (ci := 4) (k := 1) (N := 7) (C := RX4) (T := TX4) (v := .int z) (ty := .int) (Nat.lt_of_lt_of_le h2 (by decide)) (xc_X4 h1 h2) (by rw [xc_X4 h1 h2]; simp [upd]) rfl wu_X4 tyX4 tyX4_ok nmX4 (by decide) hlink rfl (by decide +kernel) rfl rfl (by simp) hd kk
theorem gf_X4_2 {p : Program} {l : Launch} {e : Env} {R : Room} {s : State} {m : MethodId} {args : Array Value} {below : List Frame} {meth : Method} {c : Code} {w : wT} {A : Nat → Prop} {Q : State → Prop} {nL : Nat} {σ : Hp} {pc : Nat} {lv : List (Nat × Value)} {rest : List Value} {cc : ByteArray} {own : String} {r : Option FieldType} (E : YE p m meth c cc nL s args own r w 55 A) {o index : Nat} (h1 : 38 ≤ o) (h2 : o < 39) (hlink : Cond.fieldLink own index "WhereTheSpoonWent$Reader" "token" "I" ∈ wG) (hd : decode cc pc = .ok (.getfield index, 3)) (kk : YY p l e R s m args below meth c w xcf 55 A Q nL σ (pc + 3) lv (.int (σ o 2) :: rest)) : YY p l e R s m args below meth c w xcf 55 A Q nL σ pc lv (.ref (w.1 o) :: rest) :=
  y_get E (ci := 4) (k := 2) (N := 7) (C := RX4) (T := TX4) (Nat.lt_of_lt_of_le h2 (by decide)) (xc_X4 h1 h2) rfl wu_X4 (by decide) hlink rfl hd kk
theorem pf_X4_2 {p : Program} {l : Launch} {e : Env} {R : Room} {s : State} {m : MethodId} {args : Array Value} {below : List Frame} {meth : Method} {c : Code} {w : wT} {A : Nat → Prop} {Q : State → Prop} {nL : Nat} {σ : Hp} {pc : Nat} {lv : List (Nat × Value)} {rest : List Value} {cc : ByteArray} {own : String} {r : Option FieldType} (E : YE p m meth c cc nL s args own r w 55 A) {o index : Nat} {z : Int32} (h1 : 38 ≤ o) (h2 : o < 39) (hlink : Cond.fieldLink own index "WhereTheSpoonWent$Reader" "token" "I" ∈ wG) (hd : decode cc pc = .ok (.putfield index, 3)) (kk : YY p l e R s m args below meth c w xcf 55 A Q nL (hup σ o 2 z) (pc + 3) lv rest) : YY p l e R s m args below meth c w xcf 55 A Q nL σ pc lv (.int z :: .ref (w.1 o) :: rest) :=
  y_put E (ci := 4) (k := 2) (N := 7) (C := RX4) (T := TX4) (v := .int z) (ty := .int) (Nat.lt_of_lt_of_le h2 (by decide)) (xc_X4 h1 h2) (by rw [xc_X4 h1 h2]; simp [upd]) rfl wu_X4 tyX4 tyX4_ok nmX4 (by decide) hlink rfl (by decide +kernel) rfl rfl (by simp) hd kk
theorem gf_X4_3 {p : Program} {l : Launch} {e : Env} {R : Room} {s : State} {m : MethodId} {args : Array Value} {below : List Frame} {meth : Method} {c : Code} {w : wT} {A : Nat → Prop} {Q : State → Prop} {nL : Nat} {σ : Hp} {pc : Nat} {lv : List (Nat × Value)} {rest : List Value} {cc : ByteArray} {own : String} {r : Option FieldType} (E : YE p m meth c cc nL s args own r w 55 A) {o index : Nat} (h1 : 38 ≤ o) (h2 : o < 39) (hlink : Cond.fieldLink own index "WhereTheSpoonWent$Reader" "start" "I" ∈ wG) (hd : decode cc pc = .ok (.getfield index, 3)) (kk : YY p l e R s m args below meth c w xcf 55 A Q nL σ (pc + 3) lv (.int (σ o 3) :: rest)) : YY p l e R s m args below meth c w xcf 55 A Q nL σ pc lv (.ref (w.1 o) :: rest) :=
  y_get E (ci := 4) (k := 3) (N := 7) (C := RX4) (T := TX4) (Nat.lt_of_lt_of_le h2 (by decide)) (xc_X4 h1 h2) rfl wu_X4 (by decide) hlink rfl hd kk
theorem pf_X4_3 {p : Program} {l : Launch} {e : Env} {R : Room} {s : State} {m : MethodId} {args : Array Value} {below : List Frame} {meth : Method} {c : Code} {w : wT} {A : Nat → Prop} {Q : State → Prop} {nL : Nat} {σ : Hp} {pc : Nat} {lv : List (Nat × Value)} {rest : List Value} {cc : ByteArray} {own : String} {r : Option FieldType} (E : YE p m meth c cc nL s args own r w 55 A) {o index : Nat} {z : Int32} (h1 : 38 ≤ o) (h2 : o < 39) (hlink : Cond.fieldLink own index "WhereTheSpoonWent$Reader" "start" "I" ∈ wG) (hd : decode cc pc = .ok (.putfield index, 3)) (kk : YY p l e R s m args below meth c w xcf 55 A Q nL (hup σ o 3 z) (pc + 3) lv rest) : YY p l e R s m args below meth c w xcf 55 A Q nL σ pc lv (.int z :: .ref (w.1 o) :: rest) :=
  y_put E (ci := 4) (k := 3) (N := 7) (C := RX4) (T := TX4) (v := .int z) (ty := .int) (Nat.lt_of_lt_of_le h2 (by decide)) (xc_X4 h1 h2) (by rw [xc_X4 h1 h2]; simp [upd]) rfl wu_X4 tyX4 tyX4_ok nmX4 (by decide) hlink rfl (by decide +kernel) rfl rfl (by simp) hd kk
theorem gf_X4_4 {p : Program} {l : Launch} {e : Env} {R : Room} {s : State} {m : MethodId} {args : Array Value} {below : List Frame} {meth : Method} {c : Code} {w : wT} {A : Nat → Prop} {Q : State → Prop} {nL : Nat} {σ : Hp} {pc : Nat} {lv : List (Nat × Value)} {rest : List Value} {cc : ByteArray} {own : String} {r : Option FieldType} (E : YE p m meth c cc nL s args own r w 55 A) {o index : Nat} (h1 : 38 ≤ o) (h2 : o < 39) (hlink : Cond.fieldLink own index "WhereTheSpoonWent$Reader" "next" "I" ∈ wG) (hd : decode cc pc = .ok (.getfield index, 3)) (kk : YY p l e R s m args below meth c w xcf 55 A Q nL σ (pc + 3) lv (.int (σ o 4) :: rest)) : YY p l e R s m args below meth c w xcf 55 A Q nL σ pc lv (.ref (w.1 o) :: rest) :=
  y_get E (ci := 4) (k := 4) (N := 7) (C := RX4) (T := TX4) (Nat.lt_of_lt_of_le h2 (by decide)) (xc_X4 h1 h2) rfl wu_X4 (by decide) hlink rfl hd kk
theorem pf_X4_4 {p : Program} {l : Launch} {e : Env} {R : Room} {s : State} {m : MethodId} {args : Array Value} {below : List Frame} {meth : Method} {c : Code} {w : wT} {A : Nat → Prop} {Q : State → Prop} {nL : Nat} {σ : Hp} {pc : Nat} {lv : List (Nat × Value)} {rest : List Value} {cc : ByteArray} {own : String} {r : Option FieldType} (E : YE p m meth c cc nL s args own r w 55 A) {o index : Nat} {z : Int32} (h1 : 38 ≤ o) (h2 : o < 39) (hlink : Cond.fieldLink own index "WhereTheSpoonWent$Reader" "next" "I" ∈ wG) (hd : decode cc pc = .ok (.putfield index, 3)) (kk : YY p l e R s m args below meth c w xcf 55 A Q nL (hup σ o 4 z) (pc + 3) lv rest) : YY p l e R s m args below meth c w xcf 55 A Q nL σ pc lv (.int z :: .ref (w.1 o) :: rest) :=
  y_put E (ci := 4) (k := 4) (N := 7) (C := RX4) (T := TX4) (v := .int z) (ty := .int) (Nat.lt_of_lt_of_le h2 (by decide)) (xc_X4 h1 h2) (by rw [xc_X4 h1 h2]; simp [upd]) rfl wu_X4 tyX4 tyX4_ok nmX4 (by decide) hlink rfl (by decide +kernel) rfl rfl (by simp) hd kk
theorem gf_X4_5 {p : Program} {l : Launch} {e : Env} {R : Room} {s : State} {m : MethodId} {args : Array Value} {below : List Frame} {meth : Method} {c : Code} {w : wT} {A : Nat → Prop} {Q : State → Prop} {nL : Nat} {σ : Hp} {pc : Nat} {lv : List (Nat × Value)} {rest : List Value} {cc : ByteArray} {own : String} {r : Option FieldType} (E : YE p m meth c cc nL s args own r w 55 A) {o index : Nat} (h1 : 38 ≤ o) (h2 : o < 39) (hlink : Cond.fieldLink own index "WhereTheSpoonWent$Reader" "fault" "I" ∈ wG) (hd : decode cc pc = .ok (.getfield index, 3)) (kk : YY p l e R s m args below meth c w xcf 55 A Q nL σ (pc + 3) lv (.int (σ o 5) :: rest)) : YY p l e R s m args below meth c w xcf 55 A Q nL σ pc lv (.ref (w.1 o) :: rest) :=
  y_get E (ci := 4) (k := 5) (N := 7) (C := RX4) (T := TX4) (Nat.lt_of_lt_of_le h2 (by decide)) (xc_X4 h1 h2) rfl wu_X4 (by decide) hlink rfl hd kk
theorem pf_X4_5 {p : Program} {l : Launch} {e : Env} {R : Room} {s : State} {m : MethodId} {args : Array Value} {below : List Frame} {meth : Method} {c : Code} {w : wT} {A : Nat → Prop} {Q : State → Prop} {nL : Nat} {σ : Hp} {pc : Nat} {lv : List (Nat × Value)} {rest : List Value} {cc : ByteArray} {own : String} {r : Option FieldType} (E : YE p m meth c cc nL s args own r w 55 A) {o index : Nat} {z : Int32} (h1 : 38 ≤ o) (h2 : o < 39) (hlink : Cond.fieldLink own index "WhereTheSpoonWent$Reader" "fault" "I" ∈ wG) (hd : decode cc pc = .ok (.putfield index, 3)) (kk : YY p l e R s m args below meth c w xcf 55 A Q nL (hup σ o 5 z) (pc + 3) lv rest) : YY p l e R s m args below meth c w xcf 55 A Q nL σ pc lv (.int z :: .ref (w.1 o) :: rest) :=
  y_put E (ci := 4) (k := 5) (N := 7) (C := RX4) (T := TX4) (v := .int z) (ty := .int) (Nat.lt_of_lt_of_le h2 (by decide)) (xc_X4 h1 h2) (by rw [xc_X4 h1 h2]; simp [upd]) rfl wu_X4 tyX4 tyX4_ok nmX4 (by decide) hlink rfl (by decide +kernel) rfl rfl (by simp) hd kk
theorem gf_X4_6 {p : Program} {l : Launch} {e : Env} {R : Room} {s : State} {m : MethodId} {args : Array Value} {below : List Frame} {meth : Method} {c : Code} {w : wT} {A : Nat → Prop} {Q : State → Prop} {nL : Nat} {σ : Hp} {pc : Nat} {lv : List (Nat × Value)} {rest : List Value} {cc : ByteArray} {own : String} {r : Option FieldType} (E : YE p m meth c cc nL s args own r w 55 A) {o index : Nat} (h1 : 38 ≤ o) (h2 : o < 39) (hnn : ¬ σ o 6 = 0) (hlink : Cond.fieldLink own index "WhereTheSpoonWent$Reader" "out" "LWhereTheSpoonWent$Text;" ∈ wG) (hd : decode cc pc = .ok (.getfield index, 3)) (kk : YY p l e R s m args below meth c w xcf 55 A Q nL σ (pc + 3) lv (.ref (w.1 ((σ o 6).toNatClampNeg - 1)) :: rest)) : YY p l e R s m args below meth c w xcf 55 A Q nL σ pc lv (.ref (w.1 o) :: rest) :=
  y_get E (ci := 4) (k := 6) (N := 7) (C := RX4) (T := TX4) (Nat.lt_of_lt_of_le h2 (by decide)) (xc_X4 h1 h2) rfl wu_X4 (by decide) hlink (v := .ref (w.1 ((σ o 6).toNatClampNeg - 1))) (congrArg some (if_neg hnn)) hd kk
theorem pf_X4_6 {p : Program} {l : Launch} {e : Env} {R : Room} {s : State} {m : MethodId} {args : Array Value} {below : List Frame} {meth : Method} {c : Code} {w : wT} {A : Nat → Prop} {Q : State → Prop} {nL : Nat} {σ : Hp} {pc : Nat} {lv : List (Nat × Value)} {rest : List Value} {cc : ByteArray} {own : String} {r : Option FieldType} (E : YE p m meth c cc nL s args own r w 55 A) {o index q : Nat} (h1 : 38 ≤ o) (h2 : o < 39) (hq : q < 1000) (hlink : Cond.fieldLink own index "WhereTheSpoonWent$Reader" "out" "LWhereTheSpoonWent$Text;" ∈ wG) (hd : decode cc pc = .ok (.putfield index, 3)) (kk : YY p l e R s m args below meth c w xcf 55 A Q nL (hup σ o 6 (nI (q + 1))) (pc + 3) lv rest) : YY p l e R s m args below meth c w xcf 55 A Q nL σ pc lv (.ref (w.1 q) :: .ref (w.1 o) :: rest) :=
  y_put E (ci := 4) (k := 6) (N := 7) (C := RX4) (T := TX4) (v := .ref (w.1 q)) (ty := .object "WhereTheSpoonWent$Text") (Nat.lt_of_lt_of_le h2 (by decide)) (xc_X4 h1 h2) (by rw [xc_X4 h1 h2]; simp [upd, rfv_nI hq]) rfl wu_X4 tyX4 tyX4_ok nmX4 (by decide) hlink rfl (by decide +kernel) rfl rfl (by simp) hd kk
theorem wu_X6 : ∀ x ∈ u_ws RX6 TX6 3, x ∈ wG := fun x h => by
  obtain ⟨k, hk, rfl⟩ := List.mem_map.mp h
  have hk := List.mem_range.mp hk
  match k, hk with
  | 0, _ => exact wm_36
  | 1, _ => exact wm_37
  | 2, _ => exact wm_38
  | k + 3, hk => exact absurd hk (by omega)
theorem gf_X6_0 {p : Program} {l : Launch} {e : Env} {R : Room} {s : State} {m : MethodId} {args : Array Value} {below : List Frame} {meth : Method} {c : Code} {w : wT} {A : Nat → Prop} {Q : State → Prop} {nL : Nat} {σ : Hp} {pc : Nat} {lv : List (Nat × Value)} {rest : List Value} {cc : ByteArray} {own : String} {r : Option FieldType} (E : YE p m meth c cc nL s args own r w 55 A) {o index q : Nat} (h1 : 41 ≤ o) (h2 : o < 45) (hq : 45 + 1 * (o - 41) = q) (hlink : Cond.fieldLink own index "WhereTheSpoonWent$Sheet" "numbers" "[I" ∈ wG) (hd : decode cc pc = .ok (.getfield index, 3)) (kk : YY p l e R s m args below meth c w xcf 55 A Q nL σ (pc + 3) lv (.ref (w.1 q) :: rest)) : YY p l e R s m args below meth c w xcf 55 A Q nL σ pc lv (.ref (w.1 o) :: rest) :=
  y_get E (ci := 6) (k := 0) (N := 3) (C := RX6) (T := TX6) (Nat.lt_of_lt_of_le h2 (by decide)) (xc_X6 h1 h2) rfl wu_X6 (by decide) hlink rfl hd (by rw [hq]; exact kk)
theorem gf_X6_1 {p : Program} {l : Launch} {e : Env} {R : Room} {s : State} {m : MethodId} {args : Array Value} {below : List Frame} {meth : Method} {c : Code} {w : wT} {A : Nat → Prop} {Q : State → Prop} {nL : Nat} {σ : Hp} {pc : Nat} {lv : List (Nat × Value)} {rest : List Value} {cc : ByteArray} {own : String} {r : Option FieldType} (E : YE p m meth c cc nL s args own r w 55 A) {o index : Nat} (h1 : 41 ≤ o) (h2 : o < 45) (hlink : Cond.fieldLink own index "WhereTheSpoonWent$Sheet" "sort" "I" ∈ wG) (hd : decode cc pc = .ok (.getfield index, 3)) (kk : YY p l e R s m args below meth c w xcf 55 A Q nL σ (pc + 3) lv (.int (σ o 1) :: rest)) : YY p l e R s m args below meth c w xcf 55 A Q nL σ pc lv (.ref (w.1 o) :: rest) :=
  y_get E (ci := 6) (k := 1) (N := 3) (C := RX6) (T := TX6) (Nat.lt_of_lt_of_le h2 (by decide)) (xc_X6 h1 h2) rfl wu_X6 (by decide) hlink rfl hd kk
theorem pf_X6_1 {p : Program} {l : Launch} {e : Env} {R : Room} {s : State} {m : MethodId} {args : Array Value} {below : List Frame} {meth : Method} {c : Code} {w : wT} {A : Nat → Prop} {Q : State → Prop} {nL : Nat} {σ : Hp} {pc : Nat} {lv : List (Nat × Value)} {rest : List Value} {cc : ByteArray} {own : String} {r : Option FieldType} (E : YE p m meth c cc nL s args own r w 55 A) {o index : Nat} {z : Int32} (h1 : 41 ≤ o) (h2 : o < 45) (hlink : Cond.fieldLink own index "WhereTheSpoonWent$Sheet" "sort" "I" ∈ wG) (hd : decode cc pc = .ok (.putfield index, 3)) (kk : YY p l e R s m args below meth c w xcf 55 A Q nL (hup σ o 1 z) (pc + 3) lv rest) : YY p l e R s m args below meth c w xcf 55 A Q nL σ pc lv (.int z :: .ref (w.1 o) :: rest) :=
  y_put E (ci := 6) (k := 1) (N := 3) (C := RX6) (T := TX6) (v := .int z) (ty := .int) (Nat.lt_of_lt_of_le h2 (by decide)) (xc_X6 h1 h2) (by rw [xc_X6 h1 h2]; simp [upd]) rfl wu_X6 tyX6 tyX6_ok nmX6 (by decide) hlink rfl (by decide +kernel) rfl rfl (by simp) hd kk
theorem gf_X6_2 {p : Program} {l : Launch} {e : Env} {R : Room} {s : State} {m : MethodId} {args : Array Value} {below : List Frame} {meth : Method} {c : Code} {w : wT} {A : Nat → Prop} {Q : State → Prop} {nL : Nat} {σ : Hp} {pc : Nat} {lv : List (Nat × Value)} {rest : List Value} {cc : ByteArray} {own : String} {r : Option FieldType} (E : YE p m meth c cc nL s args own r w 55 A) {o index : Nat} (h1 : 41 ≤ o) (h2 : o < 45) (hlink : Cond.fieldLink own index "WhereTheSpoonWent$Sheet" "size" "I" ∈ wG) (hd : decode cc pc = .ok (.getfield index, 3)) (kk : YY p l e R s m args below meth c w xcf 55 A Q nL σ (pc + 3) lv (.int (σ o 2) :: rest)) : YY p l e R s m args below meth c w xcf 55 A Q nL σ pc lv (.ref (w.1 o) :: rest) :=
  y_get E (ci := 6) (k := 2) (N := 3) (C := RX6) (T := TX6) (Nat.lt_of_lt_of_le h2 (by decide)) (xc_X6 h1 h2) rfl wu_X6 (by decide) hlink rfl hd kk
theorem pf_X6_2 {p : Program} {l : Launch} {e : Env} {R : Room} {s : State} {m : MethodId} {args : Array Value} {below : List Frame} {meth : Method} {c : Code} {w : wT} {A : Nat → Prop} {Q : State → Prop} {nL : Nat} {σ : Hp} {pc : Nat} {lv : List (Nat × Value)} {rest : List Value} {cc : ByteArray} {own : String} {r : Option FieldType} (E : YE p m meth c cc nL s args own r w 55 A) {o index : Nat} {z : Int32} (h1 : 41 ≤ o) (h2 : o < 45) (hlink : Cond.fieldLink own index "WhereTheSpoonWent$Sheet" "size" "I" ∈ wG) (hd : decode cc pc = .ok (.putfield index, 3)) (kk : YY p l e R s m args below meth c w xcf 55 A Q nL (hup σ o 2 z) (pc + 3) lv rest) : YY p l e R s m args below meth c w xcf 55 A Q nL σ pc lv (.int z :: .ref (w.1 o) :: rest) :=
  y_put E (ci := 6) (k := 2) (N := 3) (C := RX6) (T := TX6) (v := .int z) (ty := .int) (Nat.lt_of_lt_of_le h2 (by decide)) (xc_X6 h1 h2) (by rw [xc_X6 h1 h2]; simp [upd]) rfl wu_X6 tyX6 tyX6_ok nmX6 (by decide) hlink rfl (by decide +kernel) rfl rfl (by simp) hd kk
theorem wu_X1 : ∀ x ∈ u_ws RX1 TX1 8, x ∈ wG := fun x h => by
  obtain ⟨k, hk, rfl⟩ := List.mem_map.mp h
  have hk := List.mem_range.mp hk
  match k, hk with
  | 0, _ => exact wm_39
  | 1, _ => exact wm_40
  | 2, _ => exact wm_41
  | 3, _ => exact wm_42
  | 4, _ => exact wm_43
  | 5, _ => exact wm_44
  | 6, _ => exact wm_45
  | 7, _ => exact wm_46
  | k + 8, hk => exact absurd hk (by omega)
theorem gf_X1_0 {p : Program} {l : Launch} {e : Env} {R : Room} {s : State} {m : MethodId} {args : Array Value} {below : List Frame} {meth : Method} {c : Code} {w : wT} {A : Nat → Prop} {Q : State → Prop} {nL : Nat} {σ : Hp} {pc : Nat} {lv : List (Nat × Value)} {rest : List Value} {cc : ByteArray} {own : String} {r : Option FieldType} (E : YE p m meth c cc nL s args own r w 55 A) {o index : Nat} (h1 : 49 ≤ o) (h2 : o < 50) (hlink : Cond.fieldLink own index "WhereTheSpoonWent$Flight" "house" "LWhereTheSpoonWent$House;" ∈ wG) (hd : decode cc pc = .ok (.getfield index, 3)) (kk : YY p l e R s m args below meth c w xcf 55 A Q nL σ (pc + 3) lv (.ref (w.1 1) :: rest)) : YY p l e R s m args below meth c w xcf 55 A Q nL σ pc lv (.ref (w.1 o) :: rest) :=
  y_get E (ci := 1) (k := 0) (N := 8) (C := RX1) (T := TX1) (Nat.lt_of_lt_of_le h2 (by decide)) (xc_X1 h1 h2) rfl wu_X1 (by decide) hlink rfl hd kk
theorem gf_X1_1 {p : Program} {l : Launch} {e : Env} {R : Room} {s : State} {m : MethodId} {args : Array Value} {below : List Frame} {meth : Method} {c : Code} {w : wT} {A : Nat → Prop} {Q : State → Prop} {nL : Nat} {σ : Hp} {pc : Nat} {lv : List (Nat × Value)} {rest : List Value} {cc : ByteArray} {own : String} {r : Option FieldType} (E : YE p m meth c cc nL s args own r w 55 A) {o index : Nat} (h1 : 49 ≤ o) (h2 : o < 50) (hnn : ¬ σ o 1 = 0) (hlink : Cond.fieldLink own index "WhereTheSpoonWent$Flight" "law" "LWhereTheSpoonWent$Text;" ∈ wG) (hd : decode cc pc = .ok (.getfield index, 3)) (kk : YY p l e R s m args below meth c w xcf 55 A Q nL σ (pc + 3) lv (.ref (w.1 ((σ o 1).toNatClampNeg - 1)) :: rest)) : YY p l e R s m args below meth c w xcf 55 A Q nL σ pc lv (.ref (w.1 o) :: rest) :=
  y_get E (ci := 1) (k := 1) (N := 8) (C := RX1) (T := TX1) (Nat.lt_of_lt_of_le h2 (by decide)) (xc_X1 h1 h2) rfl wu_X1 (by decide) hlink (v := .ref (w.1 ((σ o 1).toNatClampNeg - 1))) (congrArg some (if_neg hnn)) hd kk
theorem pf_X1_1 {p : Program} {l : Launch} {e : Env} {R : Room} {s : State} {m : MethodId} {args : Array Value} {below : List Frame} {meth : Method} {c : Code} {w : wT} {A : Nat → Prop} {Q : State → Prop} {nL : Nat} {σ : Hp} {pc : Nat} {lv : List (Nat × Value)} {rest : List Value} {cc : ByteArray} {own : String} {r : Option FieldType} (E : YE p m meth c cc nL s args own r w 55 A) {o index q : Nat} (h1 : 49 ≤ o) (h2 : o < 50) (hq : q < 1000) (hlink : Cond.fieldLink own index "WhereTheSpoonWent$Flight" "law" "LWhereTheSpoonWent$Text;" ∈ wG) (hd : decode cc pc = .ok (.putfield index, 3)) (kk : YY p l e R s m args below meth c w xcf 55 A Q nL (hup σ o 1 (nI (q + 1))) (pc + 3) lv rest) : YY p l e R s m args below meth c w xcf 55 A Q nL σ pc lv (.ref (w.1 q) :: .ref (w.1 o) :: rest) :=
  y_put E (ci := 1) (k := 1) (N := 8) (C := RX1) (T := TX1) (v := .ref (w.1 q)) (ty := .object "WhereTheSpoonWent$Text") (Nat.lt_of_lt_of_le h2 (by decide)) (xc_X1 h1 h2) (by rw [xc_X1 h1 h2]; simp [upd, rfv_nI hq]) rfl wu_X1 tyX1 tyX1_ok nmX1 (by decide) hlink rfl (by decide +kernel) rfl rfl (by simp) hd kk
theorem gf_X1_2 {p : Program} {l : Launch} {e : Env} {R : Room} {s : State} {m : MethodId} {args : Array Value} {below : List Frame} {meth : Method} {c : Code} {w : wT} {A : Nat → Prop} {Q : State → Prop} {nL : Nat} {σ : Hp} {pc : Nat} {lv : List (Nat × Value)} {rest : List Value} {cc : ByteArray} {own : String} {r : Option FieldType} (E : YE p m meth c cc nL s args own r w 55 A) {o index : Nat} (h1 : 49 ≤ o) (h2 : o < 50) (hnn : ¬ σ o 2 = 0) (hlink : Cond.fieldLink own index "WhereTheSpoonWent$Flight" "kind" "LWhereTheSpoonWent$Thing;" ∈ wG) (hd : decode cc pc = .ok (.getfield index, 3)) (kk : YY p l e R s m args below meth c w xcf 55 A Q nL σ (pc + 3) lv (.ref (w.1 ((σ o 2).toNatClampNeg - 1)) :: rest)) : YY p l e R s m args below meth c w xcf 55 A Q nL σ pc lv (.ref (w.1 o) :: rest) :=
  y_get E (ci := 1) (k := 2) (N := 8) (C := RX1) (T := TX1) (Nat.lt_of_lt_of_le h2 (by decide)) (xc_X1 h1 h2) rfl wu_X1 (by decide) hlink (v := .ref (w.1 ((σ o 2).toNatClampNeg - 1))) (congrArg some (if_neg hnn)) hd kk
theorem pf_X1_2 {p : Program} {l : Launch} {e : Env} {R : Room} {s : State} {m : MethodId} {args : Array Value} {below : List Frame} {meth : Method} {c : Code} {w : wT} {A : Nat → Prop} {Q : State → Prop} {nL : Nat} {σ : Hp} {pc : Nat} {lv : List (Nat × Value)} {rest : List Value} {cc : ByteArray} {own : String} {r : Option FieldType} (E : YE p m meth c cc nL s args own r w 55 A) {o index q : Nat} (h1 : 49 ≤ o) (h2 : o < 50) (hq : q < 1000) (hlink : Cond.fieldLink own index "WhereTheSpoonWent$Flight" "kind" "LWhereTheSpoonWent$Thing;" ∈ wG) (hd : decode cc pc = .ok (.putfield index, 3)) (kk : YY p l e R s m args below meth c w xcf 55 A Q nL (hup σ o 2 (nI (q + 1))) (pc + 3) lv rest) : YY p l e R s m args below meth c w xcf 55 A Q nL σ pc lv (.ref (w.1 q) :: .ref (w.1 o) :: rest) :=
  y_put E (ci := 1) (k := 2) (N := 8) (C := RX1) (T := TX1) (v := .ref (w.1 q)) (ty := .object "WhereTheSpoonWent$Thing") (Nat.lt_of_lt_of_le h2 (by decide)) (xc_X1 h1 h2) (by rw [xc_X1 h1 h2]; simp [upd, rfv_nI hq]) rfl wu_X1 tyX1 tyX1_ok nmX1 (by decide) hlink rfl (by decide +kernel) rfl rfl (by simp) hd kk
theorem gf_X1_3 {p : Program} {l : Launch} {e : Env} {R : Room} {s : State} {m : MethodId} {args : Array Value} {below : List Frame} {meth : Method} {c : Code} {w : wT} {A : Nat → Prop} {Q : State → Prop} {nL : Nat} {σ : Hp} {pc : Nat} {lv : List (Nat × Value)} {rest : List Value} {cc : ByteArray} {own : String} {r : Option FieldType} (E : YE p m meth c cc nL s args own r w 55 A) {o index : Nat} (h1 : 49 ≤ o) (h2 : o < 50) (hlink : Cond.fieldLink own index "WhereTheSpoonWent$Flight" "nets" "I" ∈ wG) (hd : decode cc pc = .ok (.getfield index, 3)) (kk : YY p l e R s m args below meth c w xcf 55 A Q nL σ (pc + 3) lv (.int (σ o 3) :: rest)) : YY p l e R s m args below meth c w xcf 55 A Q nL σ pc lv (.ref (w.1 o) :: rest) :=
  y_get E (ci := 1) (k := 3) (N := 8) (C := RX1) (T := TX1) (Nat.lt_of_lt_of_le h2 (by decide)) (xc_X1 h1 h2) rfl wu_X1 (by decide) hlink rfl hd kk
theorem pf_X1_3 {p : Program} {l : Launch} {e : Env} {R : Room} {s : State} {m : MethodId} {args : Array Value} {below : List Frame} {meth : Method} {c : Code} {w : wT} {A : Nat → Prop} {Q : State → Prop} {nL : Nat} {σ : Hp} {pc : Nat} {lv : List (Nat × Value)} {rest : List Value} {cc : ByteArray} {own : String} {r : Option FieldType} (E : YE p m meth c cc nL s args own r w 55 A) {o index : Nat} {z : Int32} (h1 : 49 ≤ o) (h2 : o < 50) (hlink : Cond.fieldLink own index "WhereTheSpoonWent$Flight" "nets" "I" ∈ wG) (hd : decode cc pc = .ok (.putfield index, 3)) (kk : YY p l e R s m args below meth c w xcf 55 A Q nL (hup σ o 3 z) (pc + 3) lv rest) : YY p l e R s m args below meth c w xcf 55 A Q nL σ pc lv (.int z :: .ref (w.1 o) :: rest) :=
  y_put E (ci := 1) (k := 3) (N := 8) (C := RX1) (T := TX1) (v := .int z) (ty := .int) (Nat.lt_of_lt_of_le h2 (by decide)) (xc_X1 h1 h2) (by rw [xc_X1 h1 h2]; simp [upd]) rfl wu_X1 tyX1 tyX1_ok nmX1 (by decide) hlink rfl (by decide +kernel) rfl rfl (by simp) hd kk
theorem gf_X1_4 {p : Program} {l : Launch} {e : Env} {R : Room} {s : State} {m : MethodId} {args : Array Value} {below : List Frame} {meth : Method} {c : Code} {w : wT} {A : Nat → Prop} {Q : State → Prop} {nL : Nat} {σ : Hp} {pc : Nat} {lv : List (Nat × Value)} {rest : List Value} {cc : ByteArray} {own : String} {r : Option FieldType} (E : YE p m meth c cc nL s args own r w 55 A) {o index : Nat} (h1 : 49 ≤ o) (h2 : o < 50) (hlink : Cond.fieldLink own index "WhereTheSpoonWent$Flight" "number" "I" ∈ wG) (hd : decode cc pc = .ok (.getfield index, 3)) (kk : YY p l e R s m args below meth c w xcf 55 A Q nL σ (pc + 3) lv (.int (σ o 4) :: rest)) : YY p l e R s m args below meth c w xcf 55 A Q nL σ pc lv (.ref (w.1 o) :: rest) :=
  y_get E (ci := 1) (k := 4) (N := 8) (C := RX1) (T := TX1) (Nat.lt_of_lt_of_le h2 (by decide)) (xc_X1 h1 h2) rfl wu_X1 (by decide) hlink rfl hd kk
theorem pf_X1_4 {p : Program} {l : Launch} {e : Env} {R : Room} {s : State} {m : MethodId} {args : Array Value} {below : List Frame} {meth : Method} {c : Code} {w : wT} {A : Nat → Prop} {Q : State → Prop} {nL : Nat} {σ : Hp} {pc : Nat} {lv : List (Nat × Value)} {rest : List Value} {cc : ByteArray} {own : String} {r : Option FieldType} (E : YE p m meth c cc nL s args own r w 55 A) {o index : Nat} {z : Int32} (h1 : 49 ≤ o) (h2 : o < 50) (hlink : Cond.fieldLink own index "WhereTheSpoonWent$Flight" "number" "I" ∈ wG) (hd : decode cc pc = .ok (.putfield index, 3)) (kk : YY p l e R s m args below meth c w xcf 55 A Q nL (hup σ o 4 z) (pc + 3) lv rest) : YY p l e R s m args below meth c w xcf 55 A Q nL σ pc lv (.int z :: .ref (w.1 o) :: rest) :=
  y_put E (ci := 1) (k := 4) (N := 8) (C := RX1) (T := TX1) (v := .int z) (ty := .int) (Nat.lt_of_lt_of_le h2 (by decide)) (xc_X1 h1 h2) (by rw [xc_X1 h1 h2]; simp [upd]) rfl wu_X1 tyX1 tyX1_ok nmX1 (by decide) hlink rfl (by decide +kernel) rfl rfl (by simp) hd kk
theorem gf_X1_5 {p : Program} {l : Launch} {e : Env} {R : Room} {s : State} {m : MethodId} {args : Array Value} {below : List Frame} {meth : Method} {c : Code} {w : wT} {A : Nat → Prop} {Q : State → Prop} {nL : Nat} {σ : Hp} {pc : Nat} {lv : List (Nat × Value)} {rest : List Value} {cc : ByteArray} {own : String} {r : Option FieldType} (E : YE p m meth c cc nL s args own r w 55 A) {o index : Nat} (h1 : 49 ≤ o) (h2 : o < 50) (hlink : Cond.fieldLink own index "WhereTheSpoonWent$Flight" "more" "I" ∈ wG) (hd : decode cc pc = .ok (.getfield index, 3)) (kk : YY p l e R s m args below meth c w xcf 55 A Q nL σ (pc + 3) lv (.int (σ o 5) :: rest)) : YY p l e R s m args below meth c w xcf 55 A Q nL σ pc lv (.ref (w.1 o) :: rest) :=
  y_get E (ci := 1) (k := 5) (N := 8) (C := RX1) (T := TX1) (Nat.lt_of_lt_of_le h2 (by decide)) (xc_X1 h1 h2) rfl wu_X1 (by decide) hlink rfl hd kk
theorem pf_X1_5 {p : Program} {l : Launch} {e : Env} {R : Room} {s : State} {m : MethodId} {args : Array Value} {below : List Frame} {meth : Method} {c : Code} {w : wT} {A : Nat → Prop} {Q : State → Prop} {nL : Nat} {σ : Hp} {pc : Nat} {lv : List (Nat × Value)} {rest : List Value} {cc : ByteArray} {own : String} {r : Option FieldType} (E : YE p m meth c cc nL s args own r w 55 A) {o index : Nat} {z : Int32} (h1 : 49 ≤ o) (h2 : o < 50) (hlink : Cond.fieldLink own index "WhereTheSpoonWent$Flight" "more" "I" ∈ wG) (hd : decode cc pc = .ok (.putfield index, 3)) (kk : YY p l e R s m args below meth c w xcf 55 A Q nL (hup σ o 5 z) (pc + 3) lv rest) : YY p l e R s m args below meth c w xcf 55 A Q nL σ pc lv (.int z :: .ref (w.1 o) :: rest) :=
  y_put E (ci := 1) (k := 5) (N := 8) (C := RX1) (T := TX1) (v := .int z) (ty := .int) (Nat.lt_of_lt_of_le h2 (by decide)) (xc_X1 h1 h2) (by rw [xc_X1 h1 h2]; simp [upd]) rfl wu_X1 tyX1 tyX1_ok nmX1 (by decide) hlink rfl (by decide +kernel) rfl rfl (by simp) hd kk
theorem gf_X1_6 {p : Program} {l : Launch} {e : Env} {R : Room} {s : State} {m : MethodId} {args : Array Value} {below : List Frame} {meth : Method} {c : Code} {w : wT} {A : Nat → Prop} {Q : State → Prop} {nL : Nat} {σ : Hp} {pc : Nat} {lv : List (Nat × Value)} {rest : List Value} {cc : ByteArray} {own : String} {r : Option FieldType} (E : YE p m meth c cc nL s args own r w 55 A) {o index : Nat} (h1 : 49 ≤ o) (h2 : o < 50) (hlink : Cond.fieldLink own index "WhereTheSpoonWent$Flight" "cell" "I" ∈ wG) (hd : decode cc pc = .ok (.getfield index, 3)) (kk : YY p l e R s m args below meth c w xcf 55 A Q nL σ (pc + 3) lv (.int (σ o 6) :: rest)) : YY p l e R s m args below meth c w xcf 55 A Q nL σ pc lv (.ref (w.1 o) :: rest) :=
  y_get E (ci := 1) (k := 6) (N := 8) (C := RX1) (T := TX1) (Nat.lt_of_lt_of_le h2 (by decide)) (xc_X1 h1 h2) rfl wu_X1 (by decide) hlink rfl hd kk
theorem pf_X1_6 {p : Program} {l : Launch} {e : Env} {R : Room} {s : State} {m : MethodId} {args : Array Value} {below : List Frame} {meth : Method} {c : Code} {w : wT} {A : Nat → Prop} {Q : State → Prop} {nL : Nat} {σ : Hp} {pc : Nat} {lv : List (Nat × Value)} {rest : List Value} {cc : ByteArray} {own : String} {r : Option FieldType} (E : YE p m meth c cc nL s args own r w 55 A) {o index : Nat} {z : Int32} (h1 : 49 ≤ o) (h2 : o < 50) (hlink : Cond.fieldLink own index "WhereTheSpoonWent$Flight" "cell" "I" ∈ wG) (hd : decode cc pc = .ok (.putfield index, 3)) (kk : YY p l e R s m args below meth c w xcf 55 A Q nL (hup σ o 6 z) (pc + 3) lv rest) : YY p l e R s m args below meth c w xcf 55 A Q nL σ pc lv (.int z :: .ref (w.1 o) :: rest) :=
  y_put E (ci := 1) (k := 6) (N := 8) (C := RX1) (T := TX1) (v := .int z) (ty := .int) (Nat.lt_of_lt_of_le h2 (by decide)) (xc_X1 h1 h2) (by rw [xc_X1 h1 h2]; simp [upd]) rfl wu_X1 tyX1 tyX1_ok nmX1 (by decide) hlink rfl (by decide +kernel) rfl rfl (by simp) hd kk
theorem gf_X1_7 {p : Program} {l : Launch} {e : Env} {R : Room} {s : State} {m : MethodId} {args : Array Value} {below : List Frame} {meth : Method} {c : Code} {w : wT} {A : Nat → Prop} {Q : State → Prop} {nL : Nat} {σ : Hp} {pc : Nat} {lv : List (Nat × Value)} {rest : List Value} {cc : ByteArray} {own : String} {r : Option FieldType} (E : YE p m meth c cc nL s args own r w 55 A) {o index : Nat} (h1 : 49 ≤ o) (h2 : o < 50) (hlink : Cond.fieldLink own index "WhereTheSpoonWent$Flight" "way" "I" ∈ wG) (hd : decode cc pc = .ok (.getfield index, 3)) (kk : YY p l e R s m args below meth c w xcf 55 A Q nL σ (pc + 3) lv (.int (σ o 7) :: rest)) : YY p l e R s m args below meth c w xcf 55 A Q nL σ pc lv (.ref (w.1 o) :: rest) :=
  y_get E (ci := 1) (k := 7) (N := 8) (C := RX1) (T := TX1) (Nat.lt_of_lt_of_le h2 (by decide)) (xc_X1 h1 h2) rfl wu_X1 (by decide) hlink rfl hd kk
theorem pf_X1_7 {p : Program} {l : Launch} {e : Env} {R : Room} {s : State} {m : MethodId} {args : Array Value} {below : List Frame} {meth : Method} {c : Code} {w : wT} {A : Nat → Prop} {Q : State → Prop} {nL : Nat} {σ : Hp} {pc : Nat} {lv : List (Nat × Value)} {rest : List Value} {cc : ByteArray} {own : String} {r : Option FieldType} (E : YE p m meth c cc nL s args own r w 55 A) {o index : Nat} {z : Int32} (h1 : 49 ≤ o) (h2 : o < 50) (hlink : Cond.fieldLink own index "WhereTheSpoonWent$Flight" "way" "I" ∈ wG) (hd : decode cc pc = .ok (.putfield index, 3)) (kk : YY p l e R s m args below meth c w xcf 55 A Q nL (hup σ o 7 z) (pc + 3) lv rest) : YY p l e R s m args below meth c w xcf 55 A Q nL σ pc lv (.int z :: .ref (w.1 o) :: rest) :=
  y_put E (ci := 1) (k := 7) (N := 8) (C := RX1) (T := TX1) (v := .int z) (ty := .int) (Nat.lt_of_lt_of_le h2 (by decide)) (xc_X1 h1 h2) (by rw [xc_X1 h1 h2]; simp [upd]) rfl wu_X1 tyX1 tyX1_ok nmX1 (by decide) hlink rfl (by decide +kernel) rfl rfl (by simp) hd kk
theorem wu_X12 : ∀ x ∈ u_ws RX12 TX12 36, x ∈ wG := fun x h => by
  obtain ⟨k, hk, rfl⟩ := List.mem_map.mp h
  have hk := List.mem_range.mp hk
  match k, hk with
  | 0, _ => exact wm_47
  | 1, _ => exact wm_48
  | 2, _ => exact wm_49
  | 3, _ => exact wm_50
  | 4, _ => exact wm_51
  | 5, _ => exact wm_52
  | 6, _ => exact wm_53
  | 7, _ => exact wm_54
  | 8, _ => exact wm_55
  | 9, _ => exact wm_56
  | 10, _ => exact wm_57
  | 11, _ => exact wm_58
  | 12, _ => exact wm_59
  | 13, _ => exact wm_60
  | 14, _ => exact wm_61
  | 15, _ => exact wm_62
  | 16, _ => exact wm_63
  | 17, _ => exact wm_64
  | 18, _ => exact wm_65
  | 19, _ => exact wm_66
  | 20, _ => exact wm_67
  | 21, _ => exact wm_68
  | 22, _ => exact wm_69
  | 23, _ => exact wm_70
  | 24, _ => exact wm_71
  | 25, _ => exact wm_72
  | 26, _ => exact wm_73
  | 27, _ => exact wm_74
  | 28, _ => exact wm_75
  | 29, _ => exact wm_76
  | 30, _ => exact wm_77
  | 31, _ => exact wm_78
  | 32, _ => exact wm_79
  | 33, _ => exact wm_80
  | 34, _ => exact wm_81
  | 35, _ => exact wm_82
  | k + 36, hk => exact absurd hk (by omega)
theorem gf_X12_0 {p : Program} {l : Launch} {e : Env} {R : Room} {s : State} {m : MethodId} {args : Array Value} {below : List Frame} {meth : Method} {c : Code} {w : wT} {A : Nat → Prop} {Q : State → Prop} {nL : Nat} {σ : Hp} {pc : Nat} {lv : List (Nat × Value)} {rest : List Value} {cc : ByteArray} {own : String} {r : Option FieldType} (E : YE p m meth c cc nL s args own r w 20 A) {o index : Nat} (h1 : 0 ≤ o) (h2 : o < 1) (hlink : Cond.fieldLink own index "WhereTheSpoonWentModel" "sets" "[I" ∈ wG) (hd : decode cc pc = .ok (.getfield index, 3)) (kk : YY p l e R s m args below meth c w mcf 20 A Q nL σ (pc + 3) lv (.ref (w.1 1) :: rest)) : YY p l e R s m args below meth c w mcf 20 A Q nL σ pc lv (.ref (w.1 o) :: rest) :=
  y_get E (ci := 12) (k := 0) (N := 36) (C := RX12) (T := TX12) (Nat.lt_of_lt_of_le h2 (by decide)) (mc_X12 h1 h2) rfl wu_X12 (by decide) hlink rfl hd kk
theorem gf_X12_1 {p : Program} {l : Launch} {e : Env} {R : Room} {s : State} {m : MethodId} {args : Array Value} {below : List Frame} {meth : Method} {c : Code} {w : wT} {A : Nat → Prop} {Q : State → Prop} {nL : Nat} {σ : Hp} {pc : Nat} {lv : List (Nat × Value)} {rest : List Value} {cc : ByteArray} {own : String} {r : Option FieldType} (E : YE p m meth c cc nL s args own r w 20 A) {o index : Nat} (h1 : 0 ≤ o) (h2 : o < 1) (hlink : Cond.fieldLink own index "WhereTheSpoonWentModel" "step" "I" ∈ wG) (hd : decode cc pc = .ok (.getfield index, 3)) (kk : YY p l e R s m args below meth c w mcf 20 A Q nL σ (pc + 3) lv (.int (σ o 1) :: rest)) : YY p l e R s m args below meth c w mcf 20 A Q nL σ pc lv (.ref (w.1 o) :: rest) :=
  y_get E (ci := 12) (k := 1) (N := 36) (C := RX12) (T := TX12) (Nat.lt_of_lt_of_le h2 (by decide)) (mc_X12 h1 h2) rfl wu_X12 (by decide) hlink rfl hd kk
theorem pf_X12_1 {p : Program} {l : Launch} {e : Env} {R : Room} {s : State} {m : MethodId} {args : Array Value} {below : List Frame} {meth : Method} {c : Code} {w : wT} {A : Nat → Prop} {Q : State → Prop} {nL : Nat} {σ : Hp} {pc : Nat} {lv : List (Nat × Value)} {rest : List Value} {cc : ByteArray} {own : String} {r : Option FieldType} (E : YE p m meth c cc nL s args own r w 20 A) {o index : Nat} {z : Int32} (h1 : 0 ≤ o) (h2 : o < 1) (hlink : Cond.fieldLink own index "WhereTheSpoonWentModel" "step" "I" ∈ wG) (hd : decode cc pc = .ok (.putfield index, 3)) (kk : YY p l e R s m args below meth c w mcf 20 A Q nL (hup σ o 1 z) (pc + 3) lv rest) : YY p l e R s m args below meth c w mcf 20 A Q nL σ pc lv (.int z :: .ref (w.1 o) :: rest) :=
  y_put E (ci := 12) (k := 1) (N := 36) (C := RX12) (T := TX12) (v := .int z) (ty := .int) (Nat.lt_of_lt_of_le h2 (by decide)) (mc_X12 h1 h2) (by rw [mc_X12 h1 h2]; simp [upd]) rfl wu_X12 tyX12 tyX12_ok nmX12 (by decide) hlink rfl (by decide +kernel) rfl rfl (by simp) hd kk
theorem gf_X12_2 {p : Program} {l : Launch} {e : Env} {R : Room} {s : State} {m : MethodId} {args : Array Value} {below : List Frame} {meth : Method} {c : Code} {w : wT} {A : Nat → Prop} {Q : State → Prop} {nL : Nat} {σ : Hp} {pc : Nat} {lv : List (Nat × Value)} {rest : List Value} {cc : ByteArray} {own : String} {r : Option FieldType} (E : YE p m meth c cc nL s args own r w 20 A) {o index : Nat} (h1 : 0 ≤ o) (h2 : o < 1) (hlink : Cond.fieldLink own index "WhereTheSpoonWentModel" "things" "I" ∈ wG) (hd : decode cc pc = .ok (.getfield index, 3)) (kk : YY p l e R s m args below meth c w mcf 20 A Q nL σ (pc + 3) lv (.int (σ o 2) :: rest)) : YY p l e R s m args below meth c w mcf 20 A Q nL σ pc lv (.ref (w.1 o) :: rest) :=
  y_get E (ci := 12) (k := 2) (N := 36) (C := RX12) (T := TX12) (Nat.lt_of_lt_of_le h2 (by decide)) (mc_X12 h1 h2) rfl wu_X12 (by decide) hlink rfl hd kk
theorem pf_X12_2 {p : Program} {l : Launch} {e : Env} {R : Room} {s : State} {m : MethodId} {args : Array Value} {below : List Frame} {meth : Method} {c : Code} {w : wT} {A : Nat → Prop} {Q : State → Prop} {nL : Nat} {σ : Hp} {pc : Nat} {lv : List (Nat × Value)} {rest : List Value} {cc : ByteArray} {own : String} {r : Option FieldType} (E : YE p m meth c cc nL s args own r w 20 A) {o index : Nat} {z : Int32} (h1 : 0 ≤ o) (h2 : o < 1) (hlink : Cond.fieldLink own index "WhereTheSpoonWentModel" "things" "I" ∈ wG) (hd : decode cc pc = .ok (.putfield index, 3)) (kk : YY p l e R s m args below meth c w mcf 20 A Q nL (hup σ o 2 z) (pc + 3) lv rest) : YY p l e R s m args below meth c w mcf 20 A Q nL σ pc lv (.int z :: .ref (w.1 o) :: rest) :=
  y_put E (ci := 12) (k := 2) (N := 36) (C := RX12) (T := TX12) (v := .int z) (ty := .int) (Nat.lt_of_lt_of_le h2 (by decide)) (mc_X12 h1 h2) (by rw [mc_X12 h1 h2]; simp [upd]) rfl wu_X12 tyX12 tyX12_ok nmX12 (by decide) hlink rfl (by decide +kernel) rfl rfl (by simp) hd kk
theorem gf_X12_3 {p : Program} {l : Launch} {e : Env} {R : Room} {s : State} {m : MethodId} {args : Array Value} {below : List Frame} {meth : Method} {c : Code} {w : wT} {A : Nat → Prop} {Q : State → Prop} {nL : Nat} {σ : Hp} {pc : Nat} {lv : List (Nat × Value)} {rest : List Value} {cc : ByteArray} {own : String} {r : Option FieldType} (E : YE p m meth c cc nL s args own r w 20 A) {o index : Nat} (h1 : 0 ≤ o) (h2 : o < 1) (hlink : Cond.fieldLink own index "WhereTheSpoonWentModel" "kind" "[I" ∈ wG) (hd : decode cc pc = .ok (.getfield index, 3)) (kk : YY p l e R s m args below meth c w mcf 20 A Q nL σ (pc + 3) lv (.ref (w.1 2) :: rest)) : YY p l e R s m args below meth c w mcf 20 A Q nL σ pc lv (.ref (w.1 o) :: rest) :=
  y_get E (ci := 12) (k := 3) (N := 36) (C := RX12) (T := TX12) (Nat.lt_of_lt_of_le h2 (by decide)) (mc_X12 h1 h2) rfl wu_X12 (by decide) hlink rfl hd kk
theorem gf_X12_4 {p : Program} {l : Launch} {e : Env} {R : Room} {s : State} {m : MethodId} {args : Array Value} {below : List Frame} {meth : Method} {c : Code} {w : wT} {A : Nat → Prop} {Q : State → Prop} {nL : Nat} {σ : Hp} {pc : Nat} {lv : List (Nat × Value)} {rest : List Value} {cc : ByteArray} {own : String} {r : Option FieldType} (E : YE p m meth c cc nL s args own r w 20 A) {o index : Nat} (h1 : 0 ≤ o) (h2 : o < 1) (hlink : Cond.fieldLink own index "WhereTheSpoonWentModel" "moreOf" "[I" ∈ wG) (hd : decode cc pc = .ok (.getfield index, 3)) (kk : YY p l e R s m args below meth c w mcf 20 A Q nL σ (pc + 3) lv (.ref (w.1 3) :: rest)) : YY p l e R s m args below meth c w mcf 20 A Q nL σ pc lv (.ref (w.1 o) :: rest) :=
  y_get E (ci := 12) (k := 4) (N := 36) (C := RX12) (T := TX12) (Nat.lt_of_lt_of_le h2 (by decide)) (mc_X12 h1 h2) rfl wu_X12 (by decide) hlink rfl hd kk
theorem gf_X12_5 {p : Program} {l : Launch} {e : Env} {R : Room} {s : State} {m : MethodId} {args : Array Value} {below : List Frame} {meth : Method} {c : Code} {w : wT} {A : Nat → Prop} {Q : State → Prop} {nL : Nat} {σ : Hp} {pc : Nat} {lv : List (Nat × Value)} {rest : List Value} {cc : ByteArray} {own : String} {r : Option FieldType} (E : YE p m meth c cc nL s args own r w 20 A) {o index : Nat} (h1 : 0 ≤ o) (h2 : o < 1) (hlink : Cond.fieldLink own index "WhereTheSpoonWentModel" "cellOf" "[I" ∈ wG) (hd : decode cc pc = .ok (.getfield index, 3)) (kk : YY p l e R s m args below meth c w mcf 20 A Q nL σ (pc + 3) lv (.ref (w.1 4) :: rest)) : YY p l e R s m args below meth c w mcf 20 A Q nL σ pc lv (.ref (w.1 o) :: rest) :=
  y_get E (ci := 12) (k := 5) (N := 36) (C := RX12) (T := TX12) (Nat.lt_of_lt_of_le h2 (by decide)) (mc_X12 h1 h2) rfl wu_X12 (by decide) hlink rfl hd kk
theorem gf_X12_6 {p : Program} {l : Launch} {e : Env} {R : Room} {s : State} {m : MethodId} {args : Array Value} {below : List Frame} {meth : Method} {c : Code} {w : wT} {A : Nat → Prop} {Q : State → Prop} {nL : Nat} {σ : Hp} {pc : Nat} {lv : List (Nat × Value)} {rest : List Value} {cc : ByteArray} {own : String} {r : Option FieldType} (E : YE p m meth c cc nL s args own r w 20 A) {o index : Nat} (h1 : 0 ≤ o) (h2 : o < 1) (hlink : Cond.fieldLink own index "WhereTheSpoonWentModel" "wayOf" "[I" ∈ wG) (hd : decode cc pc = .ok (.getfield index, 3)) (kk : YY p l e R s m args below meth c w mcf 20 A Q nL σ (pc + 3) lv (.ref (w.1 5) :: rest)) : YY p l e R s m args below meth c w mcf 20 A Q nL σ pc lv (.ref (w.1 o) :: rest) :=
  y_get E (ci := 12) (k := 6) (N := 36) (C := RX12) (T := TX12) (Nat.lt_of_lt_of_le h2 (by decide)) (mc_X12 h1 h2) rfl wu_X12 (by decide) hlink rfl hd kk
theorem gf_X12_7 {p : Program} {l : Launch} {e : Env} {R : Room} {s : State} {m : MethodId} {args : Array Value} {below : List Frame} {meth : Method} {c : Code} {w : wT} {A : Nat → Prop} {Q : State → Prop} {nL : Nat} {σ : Hp} {pc : Nat} {lv : List (Nat × Value)} {rest : List Value} {cc : ByteArray} {own : String} {r : Option FieldType} (E : YE p m meth c cc nL s args own r w 20 A) {o index : Nat} (h1 : 0 ≤ o) (h2 : o < 1) (hlink : Cond.fieldLink own index "WhereTheSpoonWentModel" "tape" "[I" ∈ wG) (hd : decode cc pc = .ok (.getfield index, 3)) (kk : YY p l e R s m args below meth c w mcf 20 A Q nL σ (pc + 3) lv (.ref (w.1 6) :: rest)) : YY p l e R s m args below meth c w mcf 20 A Q nL σ pc lv (.ref (w.1 o) :: rest) :=
  y_get E (ci := 12) (k := 7) (N := 36) (C := RX12) (T := TX12) (Nat.lt_of_lt_of_le h2 (by decide)) (mc_X12 h1 h2) rfl wu_X12 (by decide) hlink rfl hd kk
theorem gf_X12_8 {p : Program} {l : Launch} {e : Env} {R : Room} {s : State} {m : MethodId} {args : Array Value} {below : List Frame} {meth : Method} {c : Code} {w : wT} {A : Nat → Prop} {Q : State → Prop} {nL : Nat} {σ : Hp} {pc : Nat} {lv : List (Nat × Value)} {rest : List Value} {cc : ByteArray} {own : String} {r : Option FieldType} (E : YE p m meth c cc nL s args own r w 20 A) {o index : Nat} (h1 : 0 ≤ o) (h2 : o < 1) (hlink : Cond.fieldLink own index "WhereTheSpoonWentModel" "taped" "I" ∈ wG) (hd : decode cc pc = .ok (.getfield index, 3)) (kk : YY p l e R s m args below meth c w mcf 20 A Q nL σ (pc + 3) lv (.int (σ o 8) :: rest)) : YY p l e R s m args below meth c w mcf 20 A Q nL σ pc lv (.ref (w.1 o) :: rest) :=
  y_get E (ci := 12) (k := 8) (N := 36) (C := RX12) (T := TX12) (Nat.lt_of_lt_of_le h2 (by decide)) (mc_X12 h1 h2) rfl wu_X12 (by decide) hlink rfl hd kk
theorem pf_X12_8 {p : Program} {l : Launch} {e : Env} {R : Room} {s : State} {m : MethodId} {args : Array Value} {below : List Frame} {meth : Method} {c : Code} {w : wT} {A : Nat → Prop} {Q : State → Prop} {nL : Nat} {σ : Hp} {pc : Nat} {lv : List (Nat × Value)} {rest : List Value} {cc : ByteArray} {own : String} {r : Option FieldType} (E : YE p m meth c cc nL s args own r w 20 A) {o index : Nat} {z : Int32} (h1 : 0 ≤ o) (h2 : o < 1) (hlink : Cond.fieldLink own index "WhereTheSpoonWentModel" "taped" "I" ∈ wG) (hd : decode cc pc = .ok (.putfield index, 3)) (kk : YY p l e R s m args below meth c w mcf 20 A Q nL (hup σ o 8 z) (pc + 3) lv rest) : YY p l e R s m args below meth c w mcf 20 A Q nL σ pc lv (.int z :: .ref (w.1 o) :: rest) :=
  y_put E (ci := 12) (k := 8) (N := 36) (C := RX12) (T := TX12) (v := .int z) (ty := .int) (Nat.lt_of_lt_of_le h2 (by decide)) (mc_X12 h1 h2) (by rw [mc_X12 h1 h2]; simp [upd]) rfl wu_X12 tyX12 tyX12_ok nmX12 (by decide) hlink rfl (by decide +kernel) rfl rfl (by simp) hd kk
theorem gf_X12_9 {p : Program} {l : Launch} {e : Env} {R : Room} {s : State} {m : MethodId} {args : Array Value} {below : List Frame} {meth : Method} {c : Code} {w : wT} {A : Nat → Prop} {Q : State → Prop} {nL : Nat} {σ : Hp} {pc : Nat} {lv : List (Nat × Value)} {rest : List Value} {cc : ByteArray} {own : String} {r : Option FieldType} (E : YE p m meth c cc nL s args own r w 20 A) {o index : Nat} (h1 : 0 ≤ o) (h2 : o < 1) (hlink : Cond.fieldLink own index "WhereTheSpoonWentModel" "codes" "[I" ∈ wG) (hd : decode cc pc = .ok (.getfield index, 3)) (kk : YY p l e R s m args below meth c w mcf 20 A Q nL σ (pc + 3) lv (.ref (w.1 7) :: rest)) : YY p l e R s m args below meth c w mcf 20 A Q nL σ pc lv (.ref (w.1 o) :: rest) :=
  y_get E (ci := 12) (k := 9) (N := 36) (C := RX12) (T := TX12) (Nat.lt_of_lt_of_le h2 (by decide)) (mc_X12 h1 h2) rfl wu_X12 (by decide) hlink rfl hd kk
theorem gf_X12_10 {p : Program} {l : Launch} {e : Env} {R : Room} {s : State} {m : MethodId} {args : Array Value} {below : List Frame} {meth : Method} {c : Code} {w : wT} {A : Nat → Prop} {Q : State → Prop} {nL : Nat} {σ : Hp} {pc : Nat} {lv : List (Nat × Value)} {rest : List Value} {cc : ByteArray} {own : String} {r : Option FieldType} (E : YE p m meth c cc nL s args own r w 20 A) {o index : Nat} (h1 : 0 ≤ o) (h2 : o < 1) (hlink : Cond.fieldLink own index "WhereTheSpoonWentModel" "starts" "[I" ∈ wG) (hd : decode cc pc = .ok (.getfield index, 3)) (kk : YY p l e R s m args below meth c w mcf 20 A Q nL σ (pc + 3) lv (.ref (w.1 8) :: rest)) : YY p l e R s m args below meth c w mcf 20 A Q nL σ pc lv (.ref (w.1 o) :: rest) :=
  y_get E (ci := 12) (k := 10) (N := 36) (C := RX12) (T := TX12) (Nat.lt_of_lt_of_le h2 (by decide)) (mc_X12 h1 h2) rfl wu_X12 (by decide) hlink rfl hd kk
theorem gf_X12_11 {p : Program} {l : Launch} {e : Env} {R : Room} {s : State} {m : MethodId} {args : Array Value} {below : List Frame} {meth : Method} {c : Code} {w : wT} {A : Nat → Prop} {Q : State → Prop} {nL : Nat} {σ : Hp} {pc : Nat} {lv : List (Nat × Value)} {rest : List Value} {cc : ByteArray} {own : String} {r : Option FieldType} (E : YE p m meth c cc nL s args own r w 20 A) {o index : Nat} (h1 : 0 ≤ o) (h2 : o < 1) (hlink : Cond.fieldLink own index "WhereTheSpoonWentModel" "texts" "I" ∈ wG) (hd : decode cc pc = .ok (.getfield index, 3)) (kk : YY p l e R s m args below meth c w mcf 20 A Q nL σ (pc + 3) lv (.int (σ o 11) :: rest)) : YY p l e R s m args below meth c w mcf 20 A Q nL σ pc lv (.ref (w.1 o) :: rest) :=
  y_get E (ci := 12) (k := 11) (N := 36) (C := RX12) (T := TX12) (Nat.lt_of_lt_of_le h2 (by decide)) (mc_X12 h1 h2) rfl wu_X12 (by decide) hlink rfl hd kk
theorem pf_X12_11 {p : Program} {l : Launch} {e : Env} {R : Room} {s : State} {m : MethodId} {args : Array Value} {below : List Frame} {meth : Method} {c : Code} {w : wT} {A : Nat → Prop} {Q : State → Prop} {nL : Nat} {σ : Hp} {pc : Nat} {lv : List (Nat × Value)} {rest : List Value} {cc : ByteArray} {own : String} {r : Option FieldType} (E : YE p m meth c cc nL s args own r w 20 A) {o index : Nat} {z : Int32} (h1 : 0 ≤ o) (h2 : o < 1) (hlink : Cond.fieldLink own index "WhereTheSpoonWentModel" "texts" "I" ∈ wG) (hd : decode cc pc = .ok (.putfield index, 3)) (kk : YY p l e R s m args below meth c w mcf 20 A Q nL (hup σ o 11 z) (pc + 3) lv rest) : YY p l e R s m args below meth c w mcf 20 A Q nL σ pc lv (.int z :: .ref (w.1 o) :: rest) :=
  y_put E (ci := 12) (k := 11) (N := 36) (C := RX12) (T := TX12) (v := .int z) (ty := .int) (Nat.lt_of_lt_of_le h2 (by decide)) (mc_X12 h1 h2) (by rw [mc_X12 h1 h2]; simp [upd]) rfl wu_X12 tyX12 tyX12_ok nmX12 (by decide) hlink rfl (by decide +kernel) rfl rfl (by simp) hd kk
theorem gf_X12_12 {p : Program} {l : Launch} {e : Env} {R : Room} {s : State} {m : MethodId} {args : Array Value} {below : List Frame} {meth : Method} {c : Code} {w : wT} {A : Nat → Prop} {Q : State → Prop} {nL : Nat} {σ : Hp} {pc : Nat} {lv : List (Nat × Value)} {rest : List Value} {cc : ByteArray} {own : String} {r : Option FieldType} (E : YE p m meth c cc nL s args own r w 20 A) {o index : Nat} (h1 : 0 ≤ o) (h2 : o < 1) (hlink : Cond.fieldLink own index "WhereTheSpoonWentModel" "rule" "I" ∈ wG) (hd : decode cc pc = .ok (.getfield index, 3)) (kk : YY p l e R s m args below meth c w mcf 20 A Q nL σ (pc + 3) lv (.int (σ o 12) :: rest)) : YY p l e R s m args below meth c w mcf 20 A Q nL σ pc lv (.ref (w.1 o) :: rest) :=
  y_get E (ci := 12) (k := 12) (N := 36) (C := RX12) (T := TX12) (Nat.lt_of_lt_of_le h2 (by decide)) (mc_X12 h1 h2) rfl wu_X12 (by decide) hlink rfl hd kk
theorem pf_X12_12 {p : Program} {l : Launch} {e : Env} {R : Room} {s : State} {m : MethodId} {args : Array Value} {below : List Frame} {meth : Method} {c : Code} {w : wT} {A : Nat → Prop} {Q : State → Prop} {nL : Nat} {σ : Hp} {pc : Nat} {lv : List (Nat × Value)} {rest : List Value} {cc : ByteArray} {own : String} {r : Option FieldType} (E : YE p m meth c cc nL s args own r w 20 A) {o index : Nat} {z : Int32} (h1 : 0 ≤ o) (h2 : o < 1) (hlink : Cond.fieldLink own index "WhereTheSpoonWentModel" "rule" "I" ∈ wG) (hd : decode cc pc = .ok (.putfield index, 3)) (kk : YY p l e R s m args below meth c w mcf 20 A Q nL (hup σ o 12 z) (pc + 3) lv rest) : YY p l e R s m args below meth c w mcf 20 A Q nL σ pc lv (.int z :: .ref (w.1 o) :: rest) :=
  y_put E (ci := 12) (k := 12) (N := 36) (C := RX12) (T := TX12) (v := .int z) (ty := .int) (Nat.lt_of_lt_of_le h2 (by decide)) (mc_X12 h1 h2) (by rw [mc_X12 h1 h2]; simp [upd]) rfl wu_X12 tyX12 tyX12_ok nmX12 (by decide) hlink rfl (by decide +kernel) rfl rfl (by simp) hd kk
theorem gf_X12_13 {p : Program} {l : Launch} {e : Env} {R : Room} {s : State} {m : MethodId} {args : Array Value} {below : List Frame} {meth : Method} {c : Code} {w : wT} {A : Nat → Prop} {Q : State → Prop} {nL : Nat} {σ : Hp} {pc : Nat} {lv : List (Nat × Value)} {rest : List Value} {cc : ByteArray} {own : String} {r : Option FieldType} (E : YE p m meth c cc nL s args own r w 20 A) {o index : Nat} (h1 : 0 ≤ o) (h2 : o < 1) (hlink : Cond.fieldLink own index "WhereTheSpoonWentModel" "hasImage" "Z" ∈ wG) (hd : decode cc pc = .ok (.getfield index, 3)) (kk : YY p l e R s m args below meth c w mcf 20 A Q nL σ (pc + 3) lv (.int (σ o 13) :: rest)) : YY p l e R s m args below meth c w mcf 20 A Q nL σ pc lv (.ref (w.1 o) :: rest) :=
  y_get E (ci := 12) (k := 13) (N := 36) (C := RX12) (T := TX12) (Nat.lt_of_lt_of_le h2 (by decide)) (mc_X12 h1 h2) rfl wu_X12 (by decide) hlink rfl hd kk
theorem pf_X12_13 {p : Program} {l : Launch} {e : Env} {R : Room} {s : State} {m : MethodId} {args : Array Value} {below : List Frame} {meth : Method} {c : Code} {w : wT} {A : Nat → Prop} {Q : State → Prop} {nL : Nat} {σ : Hp} {pc : Nat} {lv : List (Nat × Value)} {rest : List Value} {cc : ByteArray} {own : String} {r : Option FieldType} (E : YE p m meth c cc nL s args own r w 20 A) {o index : Nat} {z : Int32} (h1 : 0 ≤ o) (h2 : o < 1) (hz : narrow .boolean (.int z) = .int z) (hf : fits .boolean (.int z) = true) (hlink : Cond.fieldLink own index "WhereTheSpoonWentModel" "hasImage" "Z" ∈ wG) (hd : decode cc pc = .ok (.putfield index, 3)) (kk : YY p l e R s m args below meth c w mcf 20 A Q nL (hup σ o 13 z) (pc + 3) lv rest) : YY p l e R s m args below meth c w mcf 20 A Q nL σ pc lv (.int z :: .ref (w.1 o) :: rest) :=
  y_put E (ci := 12) (k := 13) (N := 36) (C := RX12) (T := TX12) (v := .int z) (ty := .boolean) (Nat.lt_of_lt_of_le h2 (by decide)) (mc_X12 h1 h2) (by rw [mc_X12 h1 h2]; simp [upd]) rfl wu_X12 tyX12 tyX12_ok nmX12 (by decide) hlink rfl (by decide +kernel) hz hf (by simp) hd kk
theorem gf_X12_14 {p : Program} {l : Launch} {e : Env} {R : Room} {s : State} {m : MethodId} {args : Array Value} {below : List Frame} {meth : Method} {c : Code} {w : wT} {A : Nat → Prop} {Q : State → Prop} {nL : Nat} {σ : Hp} {pc : Nat} {lv : List (Nat × Value)} {rest : List Value} {cc : ByteArray} {own : String} {r : Option FieldType} (E : YE p m meth c cc nL s args own r w 20 A) {o index : Nat} (h1 : 0 ≤ o) (h2 : o < 1) (hlink : Cond.fieldLink own index "WhereTheSpoonWentModel" "imageThings" "I" ∈ wG) (hd : decode cc pc = .ok (.getfield index, 3)) (kk : YY p l e R s m args below meth c w mcf 20 A Q nL σ (pc + 3) lv (.int (σ o 14) :: rest)) : YY p l e R s m args below meth c w mcf 20 A Q nL σ pc lv (.ref (w.1 o) :: rest) :=
  y_get E (ci := 12) (k := 14) (N := 36) (C := RX12) (T := TX12) (Nat.lt_of_lt_of_le h2 (by decide)) (mc_X12 h1 h2) rfl wu_X12 (by decide) hlink rfl hd kk
theorem pf_X12_14 {p : Program} {l : Launch} {e : Env} {R : Room} {s : State} {m : MethodId} {args : Array Value} {below : List Frame} {meth : Method} {c : Code} {w : wT} {A : Nat → Prop} {Q : State → Prop} {nL : Nat} {σ : Hp} {pc : Nat} {lv : List (Nat × Value)} {rest : List Value} {cc : ByteArray} {own : String} {r : Option FieldType} (E : YE p m meth c cc nL s args own r w 20 A) {o index : Nat} {z : Int32} (h1 : 0 ≤ o) (h2 : o < 1) (hlink : Cond.fieldLink own index "WhereTheSpoonWentModel" "imageThings" "I" ∈ wG) (hd : decode cc pc = .ok (.putfield index, 3)) (kk : YY p l e R s m args below meth c w mcf 20 A Q nL (hup σ o 14 z) (pc + 3) lv rest) : YY p l e R s m args below meth c w mcf 20 A Q nL σ pc lv (.int z :: .ref (w.1 o) :: rest) :=
  y_put E (ci := 12) (k := 14) (N := 36) (C := RX12) (T := TX12) (v := .int z) (ty := .int) (Nat.lt_of_lt_of_le h2 (by decide)) (mc_X12 h1 h2) (by rw [mc_X12 h1 h2]; simp [upd]) rfl wu_X12 tyX12 tyX12_ok nmX12 (by decide) hlink rfl (by decide +kernel) rfl rfl (by simp) hd kk
theorem gf_X12_15 {p : Program} {l : Launch} {e : Env} {R : Room} {s : State} {m : MethodId} {args : Array Value} {below : List Frame} {meth : Method} {c : Code} {w : wT} {A : Nat → Prop} {Q : State → Prop} {nL : Nat} {σ : Hp} {pc : Nat} {lv : List (Nat × Value)} {rest : List Value} {cc : ByteArray} {own : String} {r : Option FieldType} (E : YE p m meth c cc nL s args own r w 20 A) {o index : Nat} (h1 : 0 ≤ o) (h2 : o < 1) (hlink : Cond.fieldLink own index "WhereTheSpoonWentModel" "imageRule" "I" ∈ wG) (hd : decode cc pc = .ok (.getfield index, 3)) (kk : YY p l e R s m args below meth c w mcf 20 A Q nL σ (pc + 3) lv (.int (σ o 15) :: rest)) : YY p l e R s m args below meth c w mcf 20 A Q nL σ pc lv (.ref (w.1 o) :: rest) :=
  y_get E (ci := 12) (k := 15) (N := 36) (C := RX12) (T := TX12) (Nat.lt_of_lt_of_le h2 (by decide)) (mc_X12 h1 h2) rfl wu_X12 (by decide) hlink rfl hd kk
theorem pf_X12_15 {p : Program} {l : Launch} {e : Env} {R : Room} {s : State} {m : MethodId} {args : Array Value} {below : List Frame} {meth : Method} {c : Code} {w : wT} {A : Nat → Prop} {Q : State → Prop} {nL : Nat} {σ : Hp} {pc : Nat} {lv : List (Nat × Value)} {rest : List Value} {cc : ByteArray} {own : String} {r : Option FieldType} (E : YE p m meth c cc nL s args own r w 20 A) {o index : Nat} {z : Int32} (h1 : 0 ≤ o) (h2 : o < 1) (hlink : Cond.fieldLink own index "WhereTheSpoonWentModel" "imageRule" "I" ∈ wG) (hd : decode cc pc = .ok (.putfield index, 3)) (kk : YY p l e R s m args below meth c w mcf 20 A Q nL (hup σ o 15 z) (pc + 3) lv rest) : YY p l e R s m args below meth c w mcf 20 A Q nL σ pc lv (.int z :: .ref (w.1 o) :: rest) :=
  y_put E (ci := 12) (k := 15) (N := 36) (C := RX12) (T := TX12) (v := .int z) (ty := .int) (Nat.lt_of_lt_of_le h2 (by decide)) (mc_X12 h1 h2) (by rw [mc_X12 h1 h2]; simp [upd]) rfl wu_X12 tyX12 tyX12_ok nmX12 (by decide) hlink rfl (by decide +kernel) rfl rfl (by simp) hd kk
theorem gf_X12_16 {p : Program} {l : Launch} {e : Env} {R : Room} {s : State} {m : MethodId} {args : Array Value} {below : List Frame} {meth : Method} {c : Code} {w : wT} {A : Nat → Prop} {Q : State → Prop} {nL : Nat} {σ : Hp} {pc : Nat} {lv : List (Nat × Value)} {rest : List Value} {cc : ByteArray} {own : String} {r : Option FieldType} (E : YE p m meth c cc nL s args own r w 20 A) {o index : Nat} (h1 : 0 ≤ o) (h2 : o < 1) (hlink : Cond.fieldLink own index "WhereTheSpoonWentModel" "imageRows" "[I" ∈ wG) (hd : decode cc pc = .ok (.getfield index, 3)) (kk : YY p l e R s m args below meth c w mcf 20 A Q nL σ (pc + 3) lv (.ref (w.1 9) :: rest)) : YY p l e R s m args below meth c w mcf 20 A Q nL σ pc lv (.ref (w.1 o) :: rest) :=
  y_get E (ci := 12) (k := 16) (N := 36) (C := RX12) (T := TX12) (Nat.lt_of_lt_of_le h2 (by decide)) (mc_X12 h1 h2) rfl wu_X12 (by decide) hlink rfl hd kk
theorem gf_X12_17 {p : Program} {l : Launch} {e : Env} {R : Room} {s : State} {m : MethodId} {args : Array Value} {below : List Frame} {meth : Method} {c : Code} {w : wT} {A : Nat → Prop} {Q : State → Prop} {nL : Nat} {σ : Hp} {pc : Nat} {lv : List (Nat × Value)} {rest : List Value} {cc : ByteArray} {own : String} {r : Option FieldType} (E : YE p m meth c cc nL s args own r w 20 A) {o index : Nat} (h1 : 0 ≤ o) (h2 : o < 1) (hlink : Cond.fieldLink own index "WhereTheSpoonWentModel" "sheetSort" "[I" ∈ wG) (hd : decode cc pc = .ok (.getfield index, 3)) (kk : YY p l e R s m args below meth c w mcf 20 A Q nL σ (pc + 3) lv (.ref (w.1 10) :: rest)) : YY p l e R s m args below meth c w mcf 20 A Q nL σ pc lv (.ref (w.1 o) :: rest) :=
  y_get E (ci := 12) (k := 17) (N := 36) (C := RX12) (T := TX12) (Nat.lt_of_lt_of_le h2 (by decide)) (mc_X12 h1 h2) rfl wu_X12 (by decide) hlink rfl hd kk
theorem gf_X12_18 {p : Program} {l : Launch} {e : Env} {R : Room} {s : State} {m : MethodId} {args : Array Value} {below : List Frame} {meth : Method} {c : Code} {w : wT} {A : Nat → Prop} {Q : State → Prop} {nL : Nat} {σ : Hp} {pc : Nat} {lv : List (Nat × Value)} {rest : List Value} {cc : ByteArray} {own : String} {r : Option FieldType} (E : YE p m meth c cc nL s args own r w 20 A) {o index : Nat} (h1 : 0 ≤ o) (h2 : o < 1) (hlink : Cond.fieldLink own index "WhereTheSpoonWentModel" "sheetSize" "[I" ∈ wG) (hd : decode cc pc = .ok (.getfield index, 3)) (kk : YY p l e R s m args below meth c w mcf 20 A Q nL σ (pc + 3) lv (.ref (w.1 11) :: rest)) : YY p l e R s m args below meth c w mcf 20 A Q nL σ pc lv (.ref (w.1 o) :: rest) :=
  y_get E (ci := 12) (k := 18) (N := 36) (C := RX12) (T := TX12) (Nat.lt_of_lt_of_le h2 (by decide)) (mc_X12 h1 h2) rfl wu_X12 (by decide) hlink rfl hd kk
theorem gf_X12_19 {p : Program} {l : Launch} {e : Env} {R : Room} {s : State} {m : MethodId} {args : Array Value} {below : List Frame} {meth : Method} {c : Code} {w : wT} {A : Nat → Prop} {Q : State → Prop} {nL : Nat} {σ : Hp} {pc : Nat} {lv : List (Nat × Value)} {rest : List Value} {cc : ByteArray} {own : String} {r : Option FieldType} (E : YE p m meth c cc nL s args own r w 20 A) {o index : Nat} (h1 : 0 ≤ o) (h2 : o < 1) (hlink : Cond.fieldLink own index "WhereTheSpoonWentModel" "cells" "[I" ∈ wG) (hd : decode cc pc = .ok (.getfield index, 3)) (kk : YY p l e R s m args below meth c w mcf 20 A Q nL σ (pc + 3) lv (.ref (w.1 12) :: rest)) : YY p l e R s m args below meth c w mcf 20 A Q nL σ pc lv (.ref (w.1 o) :: rest) :=
  y_get E (ci := 12) (k := 19) (N := 36) (C := RX12) (T := TX12) (Nat.lt_of_lt_of_le h2 (by decide)) (mc_X12 h1 h2) rfl wu_X12 (by decide) hlink rfl hd kk
theorem gf_X12_20 {p : Program} {l : Launch} {e : Env} {R : Room} {s : State} {m : MethodId} {args : Array Value} {below : List Frame} {meth : Method} {c : Code} {w : wT} {A : Nat → Prop} {Q : State → Prop} {nL : Nat} {σ : Hp} {pc : Nat} {lv : List (Nat × Value)} {rest : List Value} {cc : ByteArray} {own : String} {r : Option FieldType} (E : YE p m meth c cc nL s args own r w 20 A) {o index : Nat} (h1 : 0 ≤ o) (h2 : o < 1) (hlink : Cond.fieldLink own index "WhereTheSpoonWentModel" "law" "[I" ∈ wG) (hd : decode cc pc = .ok (.getfield index, 3)) (kk : YY p l e R s m args below meth c w mcf 20 A Q nL σ (pc + 3) lv (.ref (w.1 13) :: rest)) : YY p l e R s m args below meth c w mcf 20 A Q nL σ pc lv (.ref (w.1 o) :: rest) :=
  y_get E (ci := 12) (k := 20) (N := 36) (C := RX12) (T := TX12) (Nat.lt_of_lt_of_le h2 (by decide)) (mc_X12 h1 h2) rfl wu_X12 (by decide) hlink rfl hd kk
theorem gf_X12_21 {p : Program} {l : Launch} {e : Env} {R : Room} {s : State} {m : MethodId} {args : Array Value} {below : List Frame} {meth : Method} {c : Code} {w : wT} {A : Nat → Prop} {Q : State → Prop} {nL : Nat} {σ : Hp} {pc : Nat} {lv : List (Nat × Value)} {rest : List Value} {cc : ByteArray} {own : String} {r : Option FieldType} (E : YE p m meth c cc nL s args own r w 20 A) {o index : Nat} (h1 : 0 ≤ o) (h2 : o < 1) (hlink : Cond.fieldLink own index "WhereTheSpoonWentModel" "at" "I" ∈ wG) (hd : decode cc pc = .ok (.getfield index, 3)) (kk : YY p l e R s m args below meth c w mcf 20 A Q nL σ (pc + 3) lv (.int (σ o 21) :: rest)) : YY p l e R s m args below meth c w mcf 20 A Q nL σ pc lv (.ref (w.1 o) :: rest) :=
  y_get E (ci := 12) (k := 21) (N := 36) (C := RX12) (T := TX12) (Nat.lt_of_lt_of_le h2 (by decide)) (mc_X12 h1 h2) rfl wu_X12 (by decide) hlink rfl hd kk
theorem pf_X12_21 {p : Program} {l : Launch} {e : Env} {R : Room} {s : State} {m : MethodId} {args : Array Value} {below : List Frame} {meth : Method} {c : Code} {w : wT} {A : Nat → Prop} {Q : State → Prop} {nL : Nat} {σ : Hp} {pc : Nat} {lv : List (Nat × Value)} {rest : List Value} {cc : ByteArray} {own : String} {r : Option FieldType} (E : YE p m meth c cc nL s args own r w 20 A) {o index : Nat} {z : Int32} (h1 : 0 ≤ o) (h2 : o < 1) (hlink : Cond.fieldLink own index "WhereTheSpoonWentModel" "at" "I" ∈ wG) (hd : decode cc pc = .ok (.putfield index, 3)) (kk : YY p l e R s m args below meth c w mcf 20 A Q nL (hup σ o 21 z) (pc + 3) lv rest) : YY p l e R s m args below meth c w mcf 20 A Q nL σ pc lv (.int z :: .ref (w.1 o) :: rest) :=
  y_put E (ci := 12) (k := 21) (N := 36) (C := RX12) (T := TX12) (v := .int z) (ty := .int) (Nat.lt_of_lt_of_le h2 (by decide)) (mc_X12 h1 h2) (by rw [mc_X12 h1 h2]; simp [upd]) rfl wu_X12 tyX12 tyX12_ok nmX12 (by decide) hlink rfl (by decide +kernel) rfl rfl (by simp) hd kk
theorem gf_X12_22 {p : Program} {l : Launch} {e : Env} {R : Room} {s : State} {m : MethodId} {args : Array Value} {below : List Frame} {meth : Method} {c : Code} {w : wT} {A : Nat → Prop} {Q : State → Prop} {nL : Nat} {σ : Hp} {pc : Nat} {lv : List (Nat × Value)} {rest : List Value} {cc : ByteArray} {own : String} {r : Option FieldType} (E : YE p m meth c cc nL s args own r w 20 A) {o index : Nat} (h1 : 0 ≤ o) (h2 : o < 1) (hlink : Cond.fieldLink own index "WhereTheSpoonWentModel" "begun" "I" ∈ wG) (hd : decode cc pc = .ok (.getfield index, 3)) (kk : YY p l e R s m args below meth c w mcf 20 A Q nL σ (pc + 3) lv (.int (σ o 22) :: rest)) : YY p l e R s m args below meth c w mcf 20 A Q nL σ pc lv (.ref (w.1 o) :: rest) :=
  y_get E (ci := 12) (k := 22) (N := 36) (C := RX12) (T := TX12) (Nat.lt_of_lt_of_le h2 (by decide)) (mc_X12 h1 h2) rfl wu_X12 (by decide) hlink rfl hd kk
theorem pf_X12_22 {p : Program} {l : Launch} {e : Env} {R : Room} {s : State} {m : MethodId} {args : Array Value} {below : List Frame} {meth : Method} {c : Code} {w : wT} {A : Nat → Prop} {Q : State → Prop} {nL : Nat} {σ : Hp} {pc : Nat} {lv : List (Nat × Value)} {rest : List Value} {cc : ByteArray} {own : String} {r : Option FieldType} (E : YE p m meth c cc nL s args own r w 20 A) {o index : Nat} {z : Int32} (h1 : 0 ≤ o) (h2 : o < 1) (hlink : Cond.fieldLink own index "WhereTheSpoonWentModel" "begun" "I" ∈ wG) (hd : decode cc pc = .ok (.putfield index, 3)) (kk : YY p l e R s m args below meth c w mcf 20 A Q nL (hup σ o 22 z) (pc + 3) lv rest) : YY p l e R s m args below meth c w mcf 20 A Q nL σ pc lv (.int z :: .ref (w.1 o) :: rest) :=
  y_put E (ci := 12) (k := 22) (N := 36) (C := RX12) (T := TX12) (v := .int z) (ty := .int) (Nat.lt_of_lt_of_le h2 (by decide)) (mc_X12 h1 h2) (by rw [mc_X12 h1 h2]; simp [upd]) rfl wu_X12 tyX12 tyX12_ok nmX12 (by decide) hlink rfl (by decide +kernel) rfl rfl (by simp) hd kk
theorem gf_X12_23 {p : Program} {l : Launch} {e : Env} {R : Room} {s : State} {m : MethodId} {args : Array Value} {below : List Frame} {meth : Method} {c : Code} {w : wT} {A : Nat → Prop} {Q : State → Prop} {nL : Nat} {σ : Hp} {pc : Nat} {lv : List (Nat × Value)} {rest : List Value} {cc : ByteArray} {own : String} {r : Option FieldType} (E : YE p m meth c cc nL s args own r w 20 A) {o index : Nat} (h1 : 0 ≤ o) (h2 : o < 1) (hlink : Cond.fieldLink own index "WhereTheSpoonWentModel" "token" "I" ∈ wG) (hd : decode cc pc = .ok (.getfield index, 3)) (kk : YY p l e R s m args below meth c w mcf 20 A Q nL σ (pc + 3) lv (.int (σ o 23) :: rest)) : YY p l e R s m args below meth c w mcf 20 A Q nL σ pc lv (.ref (w.1 o) :: rest) :=
  y_get E (ci := 12) (k := 23) (N := 36) (C := RX12) (T := TX12) (Nat.lt_of_lt_of_le h2 (by decide)) (mc_X12 h1 h2) rfl wu_X12 (by decide) hlink rfl hd kk
theorem pf_X12_23 {p : Program} {l : Launch} {e : Env} {R : Room} {s : State} {m : MethodId} {args : Array Value} {below : List Frame} {meth : Method} {c : Code} {w : wT} {A : Nat → Prop} {Q : State → Prop} {nL : Nat} {σ : Hp} {pc : Nat} {lv : List (Nat × Value)} {rest : List Value} {cc : ByteArray} {own : String} {r : Option FieldType} (E : YE p m meth c cc nL s args own r w 20 A) {o index : Nat} {z : Int32} (h1 : 0 ≤ o) (h2 : o < 1) (hlink : Cond.fieldLink own index "WhereTheSpoonWentModel" "token" "I" ∈ wG) (hd : decode cc pc = .ok (.putfield index, 3)) (kk : YY p l e R s m args below meth c w mcf 20 A Q nL (hup σ o 23 z) (pc + 3) lv rest) : YY p l e R s m args below meth c w mcf 20 A Q nL σ pc lv (.int z :: .ref (w.1 o) :: rest) :=
  y_put E (ci := 12) (k := 23) (N := 36) (C := RX12) (T := TX12) (v := .int z) (ty := .int) (Nat.lt_of_lt_of_le h2 (by decide)) (mc_X12 h1 h2) (by rw [mc_X12 h1 h2]; simp [upd]) rfl wu_X12 tyX12 tyX12_ok nmX12 (by decide) hlink rfl (by decide +kernel) rfl rfl (by simp) hd kk
theorem gf_X12_24 {p : Program} {l : Launch} {e : Env} {R : Room} {s : State} {m : MethodId} {args : Array Value} {below : List Frame} {meth : Method} {c : Code} {w : wT} {A : Nat → Prop} {Q : State → Prop} {nL : Nat} {σ : Hp} {pc : Nat} {lv : List (Nat × Value)} {rest : List Value} {cc : ByteArray} {own : String} {r : Option FieldType} (E : YE p m meth c cc nL s args own r w 20 A) {o index : Nat} (h1 : 0 ≤ o) (h2 : o < 1) (hlink : Cond.fieldLink own index "WhereTheSpoonWentModel" "value" "I" ∈ wG) (hd : decode cc pc = .ok (.getfield index, 3)) (kk : YY p l e R s m args below meth c w mcf 20 A Q nL σ (pc + 3) lv (.int (σ o 24) :: rest)) : YY p l e R s m args below meth c w mcf 20 A Q nL σ pc lv (.ref (w.1 o) :: rest) :=
  y_get E (ci := 12) (k := 24) (N := 36) (C := RX12) (T := TX12) (Nat.lt_of_lt_of_le h2 (by decide)) (mc_X12 h1 h2) rfl wu_X12 (by decide) hlink rfl hd kk
theorem pf_X12_24 {p : Program} {l : Launch} {e : Env} {R : Room} {s : State} {m : MethodId} {args : Array Value} {below : List Frame} {meth : Method} {c : Code} {w : wT} {A : Nat → Prop} {Q : State → Prop} {nL : Nat} {σ : Hp} {pc : Nat} {lv : List (Nat × Value)} {rest : List Value} {cc : ByteArray} {own : String} {r : Option FieldType} (E : YE p m meth c cc nL s args own r w 20 A) {o index : Nat} {z : Int32} (h1 : 0 ≤ o) (h2 : o < 1) (hlink : Cond.fieldLink own index "WhereTheSpoonWentModel" "value" "I" ∈ wG) (hd : decode cc pc = .ok (.putfield index, 3)) (kk : YY p l e R s m args below meth c w mcf 20 A Q nL (hup σ o 24 z) (pc + 3) lv rest) : YY p l e R s m args below meth c w mcf 20 A Q nL σ pc lv (.int z :: .ref (w.1 o) :: rest) :=
  y_put E (ci := 12) (k := 24) (N := 36) (C := RX12) (T := TX12) (v := .int z) (ty := .int) (Nat.lt_of_lt_of_le h2 (by decide)) (mc_X12 h1 h2) (by rw [mc_X12 h1 h2]; simp [upd]) rfl wu_X12 tyX12 tyX12_ok nmX12 (by decide) hlink rfl (by decide +kernel) rfl rfl (by simp) hd kk
theorem gf_X12_25 {p : Program} {l : Launch} {e : Env} {R : Room} {s : State} {m : MethodId} {args : Array Value} {below : List Frame} {meth : Method} {c : Code} {w : wT} {A : Nat → Prop} {Q : State → Prop} {nL : Nat} {σ : Hp} {pc : Nat} {lv : List (Nat × Value)} {rest : List Value} {cc : ByteArray} {own : String} {r : Option FieldType} (E : YE p m meth c cc nL s args own r w 20 A) {o index : Nat} (h1 : 0 ≤ o) (h2 : o < 1) (hlink : Cond.fieldLink own index "WhereTheSpoonWentModel" "words" "[I" ∈ wG) (hd : decode cc pc = .ok (.getfield index, 3)) (kk : YY p l e R s m args below meth c w mcf 20 A Q nL σ (pc + 3) lv (.ref (w.1 14) :: rest)) : YY p l e R s m args below meth c w mcf 20 A Q nL σ pc lv (.ref (w.1 o) :: rest) :=
  y_get E (ci := 12) (k := 25) (N := 36) (C := RX12) (T := TX12) (Nat.lt_of_lt_of_le h2 (by decide)) (mc_X12 h1 h2) rfl wu_X12 (by decide) hlink rfl hd kk
theorem gf_X12_26 {p : Program} {l : Launch} {e : Env} {R : Room} {s : State} {m : MethodId} {args : Array Value} {below : List Frame} {meth : Method} {c : Code} {w : wT} {A : Nat → Prop} {Q : State → Prop} {nL : Nat} {σ : Hp} {pc : Nat} {lv : List (Nat × Value)} {rest : List Value} {cc : ByteArray} {own : String} {r : Option FieldType} (E : YE p m meth c cc nL s args own r w 20 A) {o index : Nat} (h1 : 0 ≤ o) (h2 : o < 1) (hlink : Cond.fieldLink own index "WhereTheSpoonWentModel" "held" "[I" ∈ wG) (hd : decode cc pc = .ok (.getfield index, 3)) (kk : YY p l e R s m args below meth c w mcf 20 A Q nL σ (pc + 3) lv (.ref (w.1 15) :: rest)) : YY p l e R s m args below meth c w mcf 20 A Q nL σ pc lv (.ref (w.1 o) :: rest) :=
  y_get E (ci := 12) (k := 26) (N := 36) (C := RX12) (T := TX12) (Nat.lt_of_lt_of_le h2 (by decide)) (mc_X12 h1 h2) rfl wu_X12 (by decide) hlink rfl hd kk
theorem gf_X12_27 {p : Program} {l : Launch} {e : Env} {R : Room} {s : State} {m : MethodId} {args : Array Value} {below : List Frame} {meth : Method} {c : Code} {w : wT} {A : Nat → Prop} {Q : State → Prop} {nL : Nat} {σ : Hp} {pc : Nat} {lv : List (Nat × Value)} {rest : List Value} {cc : ByteArray} {own : String} {r : Option FieldType} (E : YE p m meth c cc nL s args own r w 20 A) {o index : Nat} (h1 : 0 ≤ o) (h2 : o < 1) (hlink : Cond.fieldLink own index "WhereTheSpoonWentModel" "heldMany" "I" ∈ wG) (hd : decode cc pc = .ok (.getfield index, 3)) (kk : YY p l e R s m args below meth c w mcf 20 A Q nL σ (pc + 3) lv (.int (σ o 27) :: rest)) : YY p l e R s m args below meth c w mcf 20 A Q nL σ pc lv (.ref (w.1 o) :: rest) :=
  y_get E (ci := 12) (k := 27) (N := 36) (C := RX12) (T := TX12) (Nat.lt_of_lt_of_le h2 (by decide)) (mc_X12 h1 h2) rfl wu_X12 (by decide) hlink rfl hd kk
theorem pf_X12_27 {p : Program} {l : Launch} {e : Env} {R : Room} {s : State} {m : MethodId} {args : Array Value} {below : List Frame} {meth : Method} {c : Code} {w : wT} {A : Nat → Prop} {Q : State → Prop} {nL : Nat} {σ : Hp} {pc : Nat} {lv : List (Nat × Value)} {rest : List Value} {cc : ByteArray} {own : String} {r : Option FieldType} (E : YE p m meth c cc nL s args own r w 20 A) {o index : Nat} {z : Int32} (h1 : 0 ≤ o) (h2 : o < 1) (hlink : Cond.fieldLink own index "WhereTheSpoonWentModel" "heldMany" "I" ∈ wG) (hd : decode cc pc = .ok (.putfield index, 3)) (kk : YY p l e R s m args below meth c w mcf 20 A Q nL (hup σ o 27 z) (pc + 3) lv rest) : YY p l e R s m args below meth c w mcf 20 A Q nL σ pc lv (.int z :: .ref (w.1 o) :: rest) :=
  y_put E (ci := 12) (k := 27) (N := 36) (C := RX12) (T := TX12) (v := .int z) (ty := .int) (Nat.lt_of_lt_of_le h2 (by decide)) (mc_X12 h1 h2) (by rw [mc_X12 h1 h2]; simp [upd]) rfl wu_X12 tyX12 tyX12_ok nmX12 (by decide) hlink rfl (by decide +kernel) rfl rfl (by simp) hd kk
theorem gf_X12_28 {p : Program} {l : Launch} {e : Env} {R : Room} {s : State} {m : MethodId} {args : Array Value} {below : List Frame} {meth : Method} {c : Code} {w : wT} {A : Nat → Prop} {Q : State → Prop} {nL : Nat} {σ : Hp} {pc : Nat} {lv : List (Nat × Value)} {rest : List Value} {cc : ByteArray} {own : String} {r : Option FieldType} (E : YE p m meth c cc nL s args own r w 20 A) {o index : Nat} (h1 : 0 ≤ o) (h2 : o < 1) (hlink : Cond.fieldLink own index "WhereTheSpoonWentModel" "opens" "I" ∈ wG) (hd : decode cc pc = .ok (.getfield index, 3)) (kk : YY p l e R s m args below meth c w mcf 20 A Q nL σ (pc + 3) lv (.int (σ o 28) :: rest)) : YY p l e R s m args below meth c w mcf 20 A Q nL σ pc lv (.ref (w.1 o) :: rest) :=
  y_get E (ci := 12) (k := 28) (N := 36) (C := RX12) (T := TX12) (Nat.lt_of_lt_of_le h2 (by decide)) (mc_X12 h1 h2) rfl wu_X12 (by decide) hlink rfl hd kk
theorem pf_X12_28 {p : Program} {l : Launch} {e : Env} {R : Room} {s : State} {m : MethodId} {args : Array Value} {below : List Frame} {meth : Method} {c : Code} {w : wT} {A : Nat → Prop} {Q : State → Prop} {nL : Nat} {σ : Hp} {pc : Nat} {lv : List (Nat × Value)} {rest : List Value} {cc : ByteArray} {own : String} {r : Option FieldType} (E : YE p m meth c cc nL s args own r w 20 A) {o index : Nat} {z : Int32} (h1 : 0 ≤ o) (h2 : o < 1) (hlink : Cond.fieldLink own index "WhereTheSpoonWentModel" "opens" "I" ∈ wG) (hd : decode cc pc = .ok (.putfield index, 3)) (kk : YY p l e R s m args below meth c w mcf 20 A Q nL (hup σ o 28 z) (pc + 3) lv rest) : YY p l e R s m args below meth c w mcf 20 A Q nL σ pc lv (.int z :: .ref (w.1 o) :: rest) :=
  y_put E (ci := 12) (k := 28) (N := 36) (C := RX12) (T := TX12) (v := .int z) (ty := .int) (Nat.lt_of_lt_of_le h2 (by decide)) (mc_X12 h1 h2) (by rw [mc_X12 h1 h2]; simp [upd]) rfl wu_X12 tyX12 tyX12_ok nmX12 (by decide) hlink rfl (by decide +kernel) rfl rfl (by simp) hd kk
theorem gf_X12_29 {p : Program} {l : Launch} {e : Env} {R : Room} {s : State} {m : MethodId} {args : Array Value} {below : List Frame} {meth : Method} {c : Code} {w : wT} {A : Nat → Prop} {Q : State → Prop} {nL : Nat} {σ : Hp} {pc : Nat} {lv : List (Nat × Value)} {rest : List Value} {cc : ByteArray} {own : String} {r : Option FieldType} (E : YE p m meth c cc nL s args own r w 20 A) {o index : Nat} (h1 : 0 ≤ o) (h2 : o < 1) (hlink : Cond.fieldLink own index "WhereTheSpoonWentModel" "out" "I" ∈ wG) (hd : decode cc pc = .ok (.getfield index, 3)) (kk : YY p l e R s m args below meth c w mcf 20 A Q nL σ (pc + 3) lv (.int (σ o 29) :: rest)) : YY p l e R s m args below meth c w mcf 20 A Q nL σ pc lv (.ref (w.1 o) :: rest) :=
  y_get E (ci := 12) (k := 29) (N := 36) (C := RX12) (T := TX12) (Nat.lt_of_lt_of_le h2 (by decide)) (mc_X12 h1 h2) rfl wu_X12 (by decide) hlink rfl hd kk
theorem pf_X12_29 {p : Program} {l : Launch} {e : Env} {R : Room} {s : State} {m : MethodId} {args : Array Value} {below : List Frame} {meth : Method} {c : Code} {w : wT} {A : Nat → Prop} {Q : State → Prop} {nL : Nat} {σ : Hp} {pc : Nat} {lv : List (Nat × Value)} {rest : List Value} {cc : ByteArray} {own : String} {r : Option FieldType} (E : YE p m meth c cc nL s args own r w 20 A) {o index : Nat} {z : Int32} (h1 : 0 ≤ o) (h2 : o < 1) (hlink : Cond.fieldLink own index "WhereTheSpoonWentModel" "out" "I" ∈ wG) (hd : decode cc pc = .ok (.putfield index, 3)) (kk : YY p l e R s m args below meth c w mcf 20 A Q nL (hup σ o 29 z) (pc + 3) lv rest) : YY p l e R s m args below meth c w mcf 20 A Q nL σ pc lv (.int z :: .ref (w.1 o) :: rest) :=
  y_put E (ci := 12) (k := 29) (N := 36) (C := RX12) (T := TX12) (v := .int z) (ty := .int) (Nat.lt_of_lt_of_le h2 (by decide)) (mc_X12 h1 h2) (by rw [mc_X12 h1 h2]; simp [upd]) rfl wu_X12 tyX12 tyX12_ok nmX12 (by decide) hlink rfl (by decide +kernel) rfl rfl (by simp) hd kk
theorem gf_X12_30 {p : Program} {l : Launch} {e : Env} {R : Room} {s : State} {m : MethodId} {args : Array Value} {below : List Frame} {meth : Method} {c : Code} {w : wT} {A : Nat → Prop} {Q : State → Prop} {nL : Nat} {σ : Hp} {pc : Nat} {lv : List (Nat × Value)} {rest : List Value} {cc : ByteArray} {own : String} {r : Option FieldType} (E : YE p m meth c cc nL s args own r w 20 A) {o index : Nat} (h1 : 0 ≤ o) (h2 : o < 1) (hlink : Cond.fieldLink own index "WhereTheSpoonWentModel" "stack" "[I" ∈ wG) (hd : decode cc pc = .ok (.getfield index, 3)) (kk : YY p l e R s m args below meth c w mcf 20 A Q nL σ (pc + 3) lv (.ref (w.1 16) :: rest)) : YY p l e R s m args below meth c w mcf 20 A Q nL σ pc lv (.ref (w.1 o) :: rest) :=
  y_get E (ci := 12) (k := 30) (N := 36) (C := RX12) (T := TX12) (Nat.lt_of_lt_of_le h2 (by decide)) (mc_X12 h1 h2) rfl wu_X12 (by decide) hlink rfl hd kk
theorem gf_X12_31 {p : Program} {l : Launch} {e : Env} {R : Room} {s : State} {m : MethodId} {args : Array Value} {below : List Frame} {meth : Method} {c : Code} {w : wT} {A : Nat → Prop} {Q : State → Prop} {nL : Nat} {σ : Hp} {pc : Nat} {lv : List (Nat × Value)} {rest : List Value} {cc : ByteArray} {own : String} {r : Option FieldType} (E : YE p m meth c cc nL s args own r w 20 A) {o index : Nat} (h1 : 0 ≤ o) (h2 : o < 1) (hlink : Cond.fieldLink own index "WhereTheSpoonWentModel" "named" "[I" ∈ wG) (hd : decode cc pc = .ok (.getfield index, 3)) (kk : YY p l e R s m args below meth c w mcf 20 A Q nL σ (pc + 3) lv (.ref (w.1 17) :: rest)) : YY p l e R s m args below meth c w mcf 20 A Q nL σ pc lv (.ref (w.1 o) :: rest) :=
  y_get E (ci := 12) (k := 31) (N := 36) (C := RX12) (T := TX12) (Nat.lt_of_lt_of_le h2 (by decide)) (mc_X12 h1 h2) rfl wu_X12 (by decide) hlink rfl hd kk
theorem gf_X12_32 {p : Program} {l : Launch} {e : Env} {R : Room} {s : State} {m : MethodId} {args : Array Value} {below : List Frame} {meth : Method} {c : Code} {w : wT} {A : Nat → Prop} {Q : State → Prop} {nL : Nat} {σ : Hp} {pc : Nat} {lv : List (Nat × Value)} {rest : List Value} {cc : ByteArray} {own : String} {r : Option FieldType} (E : YE p m meth c cc nL s args own r w 20 A) {o index : Nat} (h1 : 0 ≤ o) (h2 : o < 1) (hlink : Cond.fieldLink own index "WhereTheSpoonWentModel" "now" "I" ∈ wG) (hd : decode cc pc = .ok (.getfield index, 3)) (kk : YY p l e R s m args below meth c w mcf 20 A Q nL σ (pc + 3) lv (.int (σ o 32) :: rest)) : YY p l e R s m args below meth c w mcf 20 A Q nL σ pc lv (.ref (w.1 o) :: rest) :=
  y_get E (ci := 12) (k := 32) (N := 36) (C := RX12) (T := TX12) (Nat.lt_of_lt_of_le h2 (by decide)) (mc_X12 h1 h2) rfl wu_X12 (by decide) hlink rfl hd kk
theorem pf_X12_32 {p : Program} {l : Launch} {e : Env} {R : Room} {s : State} {m : MethodId} {args : Array Value} {below : List Frame} {meth : Method} {c : Code} {w : wT} {A : Nat → Prop} {Q : State → Prop} {nL : Nat} {σ : Hp} {pc : Nat} {lv : List (Nat × Value)} {rest : List Value} {cc : ByteArray} {own : String} {r : Option FieldType} (E : YE p m meth c cc nL s args own r w 20 A) {o index : Nat} {z : Int32} (h1 : 0 ≤ o) (h2 : o < 1) (hlink : Cond.fieldLink own index "WhereTheSpoonWentModel" "now" "I" ∈ wG) (hd : decode cc pc = .ok (.putfield index, 3)) (kk : YY p l e R s m args below meth c w mcf 20 A Q nL (hup σ o 32 z) (pc + 3) lv rest) : YY p l e R s m args below meth c w mcf 20 A Q nL σ pc lv (.int z :: .ref (w.1 o) :: rest) :=
  y_put E (ci := 12) (k := 32) (N := 36) (C := RX12) (T := TX12) (v := .int z) (ty := .int) (Nat.lt_of_lt_of_le h2 (by decide)) (mc_X12 h1 h2) (by rw [mc_X12 h1 h2]; simp [upd]) rfl wu_X12 tyX12 tyX12_ok nmX12 (by decide) hlink rfl (by decide +kernel) rfl rfl (by simp) hd kk
theorem gf_X12_33 {p : Program} {l : Launch} {e : Env} {R : Room} {s : State} {m : MethodId} {args : Array Value} {below : List Frame} {meth : Method} {c : Code} {w : wT} {A : Nat → Prop} {Q : State → Prop} {nL : Nat} {σ : Hp} {pc : Nat} {lv : List (Nat × Value)} {rest : List Value} {cc : ByteArray} {own : String} {r : Option FieldType} (E : YE p m meth c cc nL s args own r w 20 A) {o index : Nat} (h1 : 0 ≤ o) (h2 : o < 1) (hlink : Cond.fieldLink own index "WhereTheSpoonWentModel" "way" "I" ∈ wG) (hd : decode cc pc = .ok (.getfield index, 3)) (kk : YY p l e R s m args below meth c w mcf 20 A Q nL σ (pc + 3) lv (.int (σ o 33) :: rest)) : YY p l e R s m args below meth c w mcf 20 A Q nL σ pc lv (.ref (w.1 o) :: rest) :=
  y_get E (ci := 12) (k := 33) (N := 36) (C := RX12) (T := TX12) (Nat.lt_of_lt_of_le h2 (by decide)) (mc_X12 h1 h2) rfl wu_X12 (by decide) hlink rfl hd kk
theorem pf_X12_33 {p : Program} {l : Launch} {e : Env} {R : Room} {s : State} {m : MethodId} {args : Array Value} {below : List Frame} {meth : Method} {c : Code} {w : wT} {A : Nat → Prop} {Q : State → Prop} {nL : Nat} {σ : Hp} {pc : Nat} {lv : List (Nat × Value)} {rest : List Value} {cc : ByteArray} {own : String} {r : Option FieldType} (E : YE p m meth c cc nL s args own r w 20 A) {o index : Nat} {z : Int32} (h1 : 0 ≤ o) (h2 : o < 1) (hlink : Cond.fieldLink own index "WhereTheSpoonWentModel" "way" "I" ∈ wG) (hd : decode cc pc = .ok (.putfield index, 3)) (kk : YY p l e R s m args below meth c w mcf 20 A Q nL (hup σ o 33 z) (pc + 3) lv rest) : YY p l e R s m args below meth c w mcf 20 A Q nL σ pc lv (.int z :: .ref (w.1 o) :: rest) :=
  y_put E (ci := 12) (k := 33) (N := 36) (C := RX12) (T := TX12) (v := .int z) (ty := .int) (Nat.lt_of_lt_of_le h2 (by decide)) (mc_X12 h1 h2) (by rw [mc_X12 h1 h2]; simp [upd]) rfl wu_X12 tyX12 tyX12_ok nmX12 (by decide) hlink rfl (by decide +kernel) rfl rfl (by simp) hd kk
theorem gf_X12_34 {p : Program} {l : Launch} {e : Env} {R : Room} {s : State} {m : MethodId} {args : Array Value} {below : List Frame} {meth : Method} {c : Code} {w : wT} {A : Nat → Prop} {Q : State → Prop} {nL : Nat} {σ : Hp} {pc : Nat} {lv : List (Nat × Value)} {rest : List Value} {cc : ByteArray} {own : String} {r : Option FieldType} (E : YE p m meth c cc nL s args own r w 20 A) {o index : Nat} (h1 : 0 ≤ o) (h2 : o < 1) (hlink : Cond.fieldLink own index "WhereTheSpoonWentModel" "far" "[I" ∈ wG) (hd : decode cc pc = .ok (.getfield index, 3)) (kk : YY p l e R s m args below meth c w mcf 20 A Q nL σ (pc + 3) lv (.ref (w.1 18) :: rest)) : YY p l e R s m args below meth c w mcf 20 A Q nL σ pc lv (.ref (w.1 o) :: rest) :=
  y_get E (ci := 12) (k := 34) (N := 36) (C := RX12) (T := TX12) (Nat.lt_of_lt_of_le h2 (by decide)) (mc_X12 h1 h2) rfl wu_X12 (by decide) hlink rfl hd kk
theorem gf_X12_35 {p : Program} {l : Launch} {e : Env} {R : Room} {s : State} {m : MethodId} {args : Array Value} {below : List Frame} {meth : Method} {c : Code} {w : wT} {A : Nat → Prop} {Q : State → Prop} {nL : Nat} {σ : Hp} {pc : Nat} {lv : List (Nat × Value)} {rest : List Value} {cc : ByteArray} {own : String} {r : Option FieldType} (E : YE p m meth c cc nL s args own r w 20 A) {o index : Nat} (h1 : 0 ≤ o) (h2 : o < 1) (hlink : Cond.fieldLink own index "WhereTheSpoonWentModel" "wentTo" "[I" ∈ wG) (hd : decode cc pc = .ok (.getfield index, 3)) (kk : YY p l e R s m args below meth c w mcf 20 A Q nL σ (pc + 3) lv (.ref (w.1 19) :: rest)) : YY p l e R s m args below meth c w mcf 20 A Q nL σ pc lv (.ref (w.1 o) :: rest) :=
  y_get E (ci := 12) (k := 35) (N := 36) (C := RX12) (T := TX12) (Nat.lt_of_lt_of_le h2 (by decide)) (mc_X12 h1 h2) rfl wu_X12 (by decide) hlink rfl hd kk
end
section
/-! ===== further rows ===== -/
theorem vp_in_lt {i : Int32} {N : Nat} (h : vp_in i N) : i.toNatClampNeg < N := Nat.not_le.mp fun q => h (Or.inr q)
theorem nar01 {v : Int32} (h : v = 0 ∨ v = 1) : narrow .boolean (.int v) = .int v := by rcases h with rfl | rfl <;> decide
theorem i32_ne {x k : Int32} {z : Int} (hk : k.toInt = z) (h : ¬ x = k) : x.toInt ≠ z := fun e => h (Int32.toInt_inj.mp (e.trans hk.symm))
theorem i32_eq {x k : Int32} {z : Int} (hk : k.toInt = z) (h : x = k) : x.toInt = z := by rw [h]; exact hk
theorem xthing {w : wT} {o : Nat} {r : Nat → Int32} (hg : 12 ≤ o ∧ o < 18) : ∃ (ci : Nat) (fs : List Value) (C : String) (T : u_T) (N : Nat), xcf w o r = .inr (ci, fs) ∧ vwCl[ci]? = some (C, T, N) := by
  rcases (show o = 12 ∨ o = 13 ∨ o = 14 ∨ o = 15 ∨ o = 16 ∨ o = 17 by omega) with rfl | rfl | rfl | rfl | rfl | rfl
  · exact ⟨_, _, _, _, _, xc_t0 (by decide) (by decide), rfl⟩
  · exact ⟨_, _, _, _, _, xc_t1 (by decide) (by decide), rfl⟩
  · exact ⟨_, _, _, _, _, xc_t2 (by decide) (by decide), rfl⟩
  · exact ⟨_, _, _, _, _, xc_t3 (by decide) (by decide), rfl⟩
  · exact ⟨_, _, _, _, _, xc_t4 (by decide) (by decide), rfl⟩
  · exact ⟨_, _, _, _, _, xc_t5 (by decide) (by decide), rfl⟩
section YROWS2
variable {p : Program} {l : Launch} {e : Env} {R : Room} {s : State} {m : MethodId} {args : Array Value} {below : List Frame} {meth : Method} {c : Code}
variable {w : wT} {cf : cT} {n : Nat} {A : Nat → Prop} {Q : State → Prop} {nL : Nat} {σ : Hp} {pc : Nat} {lv : List (Nat × Value)} {st rest : List Value} {cc : ByteArray} {own : String} {r : Option FieldType}
theorem y_ialdc (E : YE p m meth c cc nL s args own r w n A) {o N j : Nat} {i : Int32} (ho : o < n) (hcell : cf w o (σ o) = .inl (w.2.1 1, N, .inl (σ o))) (hj : i.toNatClampNeg = j ∧ ¬ i < 0) (hlt : j < N) (hd : decode cc pc = .ok (.iaload, 1)) (kk : YY p l e R s m args below meth c w cf n A Q nL σ (pc + 1) lv (.int (σ o j) :: rest)) : YY p l e R s m args below meth c w cf n A Q nL σ pc lv (.int i :: .ref (w.1 o) :: rest) := by
  obtain ⟨rfl, h0⟩ := hj
  exact y_iald E ho hcell (fun h => h.elim h0 (fun q => absurd hlt (Nat.not_lt.mpr q))) hd kk
theorem y_baldc (E : YE p m meth c cc nL s args own r w n A) {o N j : Nat} {i : Int32} (ho : o < n) (hcell : cf w o (σ o) = .inl (w.2.1 0, N, .inl (σ o))) (hj : i.toNatClampNeg = j ∧ ¬ i < 0) (hlt : j < N) (hd : decode cc pc = .ok (.baload, 1)) (kk : YY p l e R s m args below meth c w cf n A Q nL σ (pc + 1) lv (.int (σ o j) :: rest)) : YY p l e R s m args below meth c w cf n A Q nL σ pc lv (.int i :: .ref (w.1 o) :: rest) := by
  obtain ⟨rfl, h0⟩ := hj
  exact y_bald E ho hcell (fun h => h.elim h0 (fun q => absurd hlt (Nat.not_lt.mpr q))) hd kk
theorem y_iastc (E : YE p m meth c cc nL s args own r w n A) {o N j : Nat} {i x : Int32} (ho : o < n) (hcell : ∀ f : Nat → Int32, cf w o f = .inl (w.2.1 1, N, .inl f)) (hj : i.toNatClampNeg = j ∧ ¬ i < 0) (hlt : j < N) (hd : decode cc pc = .ok (.iastore, 1)) (kk : YY p l e R s m args below meth c w cf n A Q nL (hup σ o j x) (pc + 1) lv rest) : YY p l e R s m args below meth c w cf n A Q nL σ pc lv (.int x :: .int i :: .ref (w.1 o) :: rest) := by
  obtain ⟨rfl, h0⟩ := hj
  exact y_iast E ho hcell (fun h => h.elim h0 (fun q => absurd hlt (Nat.not_lt.mpr q))) hd kk
theorem y_table1 (E : YE p m meth c cc nL s args own r w n A) {dflt lo hi : Int} {offs : Array Int} {len : Nat} {x : Int32} {z off : Int} {j tgt : Nat} (hd : decode cc pc = .ok (.tableswitch dflt lo hi offs, len)) (hx : x.toInt = z) (hj : z = lo + (j : Int) ∧ z ≤ hi) (ho : offs[j]? = some off) (ht : (pc : Int) + off = (tgt : Int)) (k : YY p l e R s m args below meth c w cf n A Q nL σ tgt lv rest) : YY p l e R s m args below meth c w cf n A Q nL σ pc lv (.int x :: rest) :=
  y_tableIn E hd (by omega) (by omega) (by rw [show (x.toInt - lo).toNat = j by omega]; exact ho) ht k
theorem y_table0 (E : YE p m meth c cc nL s args own r w n A) {dflt lo hi : Int} {offs : Array Int} {len : Nat} {x : Int32} {tgt : Nat} (hd : decode cc pc = .ok (.tableswitch dflt lo hi offs, len)) (ht : (pc : Int) + dflt = (tgt : Int)) (h : ∀ j : Nat, j < offs.size → offs[j]? = some dflt ∨ x.toInt ≠ lo + (j : Int)) (hsz : hi - lo < (offs.size : Int)) (k : YY p l e R s m args below meth c w cf n A Q nL σ tgt lv rest) : YY p l e R s m args below meth c w cf n A Q nL σ pc lv (.int x :: rest) := by
  by_cases h1 : x.toInt < lo ∨ hi < x.toInt
  · exact y_tableOut E hd h1 ht k
  · have hj : (x.toInt - lo).toNat < offs.size := by omega
    rcases h _ hj with h2 | h2
    · exact y_tableIn E hd (fun q => h1 (Or.inl q)) (fun q => h1 (Or.inr q)) h2 ht k
    · exact absurd (by omega) h2
theorem y_ldcS (E : YE p m meth c cc nL s args RX4 r w n A) {index : Nat} (i : Nat) (hi : i < 12) (hidx : scIdx.getD i 0 = index) (hd : decode cc pc = .ok (.ldc index, 2)) (kk : YY p l e R s m args below meth c w cf n A Q nL σ (pc + 2) lv (.ref (w.2.2.2.1 i) :: rest)) : YY p l e R s m args below meth c w cf n A Q nL σ pc lv rest := fun H locs ls hP hS hl =>
  va_ldcS (own := RX4) (tx := scTxt.getD i "") E.1.1 E.1.2.1 E.1.2.2.2.1 (by rw [← hidx]; exact E.2.1.2.2.2.1 i hi) hd (kk H locs ls hP hS hl)
theorem y_callSI {T : State} {locs : List Loc} {cells slots : Nat} (X : Stand p l e R s m args below meth c T locs cells slots) (hexec : p.tables.exec = Jvm.exec) {own owner : String} {index : Nat} {x y : MethodName} {bytes : ByteArray} {maxL : Nat} {ret : Option FieldType}
    (hown : s.vm.findClass own = some m.cls) (hlink : (Cond.methodLink own index x).before args s = true) (hsame : (Cond.sameMethod x.cls owner x.name x.desc).before args s = true) (hsup : (Cond.superclass own x.cls).before args s = true) (hsup2 : (Cond.superclass x.cls owner).before args s = true) (hyx : y = ⟨owner, x.name, x.desc⟩)
    (hinst : (Cond.instanceMethod y).before args s = true) (hcode : (Cond.code y bytes maxL ret).before args s = true) (hno : x.name ≠ "<init>")
    {W : Nat} {Pre : Pt → Array Value → Prop} {Post : Pt → Array Value → Option Value → Pt → Prop} (hK : Back l R p e below s args y 3 W Pre Post)
    {b : Addr} {cellB : Cell} {kB : Class} (hcell : T.heap[b]? = some cellB) (hobj : cellB.vm.isStatics = false) (hkB : s.vm.classes[cellB.cls]? = some kB)
    {g : JFrame} (hg : g.method = m) (hsize : g.locals.size = c.maxLocals) {argsL rest : List Value} (hlen : ∀ sig, parseMethodDescriptor y.desc = some sig → argsL.length = sig.parameters.length)
    (hstack : g.stack = argsL.reverse ++ .ref b :: rest) (hW : 2 * g.monitorRoom + (rest.map fun v => v.category).sum ≤ W) (hdg : decode c.code g.pc = .ok (.invokespecial index, 3))
    (hpre : ∀ vm₁, s.WarmedH vm₁ → Pre ⟨T.setVm vm₁, locs, cells, slots⟩ (Value.ref b :: argsL).toArray) :
    ∃ (v : Option Value) (vm₁ : Vm) (B : Pt), s.WarmedH vm₁ ∧ Stand p l e R s m args below meth c B.U B.locs B.cells B.slots ∧ Post ⟨T.setVm vm₁, locs, cells, slots⟩ (Value.ref b :: argsL).toArray v B ∧
      ∀ target, Steps p.tables e below (B.U.setTop { g with pc := g.pc + 3, stack := v.toList ++ rest }) target → Steps p.tables e below (T.setTop g) target := by
  obtain ⟨mk, methM, hnamed, hmethM, hstM, habM⟩ := Cond.instanceMethod_spec hinst
  obtain ⟨methM', cM, hmethM', -, -, -, -, -, -, hsigM⟩ := Cond.code_spec hnamed hcode
  cases hmethM.symm.trans hmethM'
  obtain ⟨ps, dk, kp, hps, hdk, hkp, hsuper, -, -, hnid⟩ := Cond.superclass_spec hown hsup
  obtain ⟨ps2, dk2, kp2, hps2, hdk2, hkp2, hsuper2, -, -, -⟩ := Cond.superclass_spec hps hsup2
  have hn : s.methodNamed? ⟨owner, x.name, x.desc⟩ = some mk := by rw [← hyx]; exact hnamed
  have hpm : ps2 = mk.cls := Option.some.inj (hps2.symm.trans (findClass_of_methodNamed hn))
  have hsz : 0 < s.vm.classes.size := Nat.lt_of_le_of_lt (Nat.zero_le _) (Array.getElem?_eq_some_iff.mp hdk2).1
  have hsub : s.vm.isSubclass ps mk.cls = true := by
    obtain ⟨z, hz⟩ : ∃ z, s.vm.classes.size = z + 1 := ⟨s.vm.classes.size - 1, by omega⟩
    rw [← hpm]
    simp [Vm.isSubclass, Vm.isSubclassAux, hz, hdk2, hsuper2]
  obtain ⟨vm₁, X₁, hstep₁⟩ := X.invokespecialUp hexec hown hlink hsame hn hmethM hstM habM hno hdk hnid hps hsuper hsub (a := b) (cell := cellB) hcell
    (fun z h => by rw [h] at hobj; cases hobj) hkB (g := g) hg (argsL := argsL) (rest := rest) (hlen _ hsigM) hstack hdg
  obtain ⟨v, B, X', hpost, hsteps⟩ := hK m meth c ⟨T.setVm vm₁, locs, cells, slots⟩ { g with stack := rest } (.invokespecial index) mk (Value.ref b :: argsL).toArray X₁ hg hsize hdg hW (X₁.named hnamed) (hpre vm₁ X₁.warmed)
  exact ⟨v, vm₁, B, X₁.warmed, X', hpost, fun target h => hstep₁ _ (by rw [doInvoke_state]; exact hsteps.trans h)⟩
variable {y x0 : MethodName} {b : ByteArray} {nL' d k o ci N index : Nat} {r' : Option FieldType} {As : List Value} {C host owner : String} {T : u_T} {fs : List Value} {Qc : (Nat → Prop) → Array Value → State → Outcome → State → Prop} {a : Array Value}
theorem y_runSI (E : YE p m meth c cc nL s args own r w n A) (hM : yMet l w cf n y b nL' r' d (.ref (w.1 o) :: As) σ Qc) (h1 : .methodLink own index x0 ∈ wG) (h2 : .sameMethod x0.cls owner x0.name x0.desc ∈ wG) (h3 : .superclass own x0.cls ∈ wG) (h4 : .superclass x0.cls owner ∈ wG) (h5 : .instanceMethod y ∈ wG) (h6 : .initialized y.cls ∈ wG) (h7 : .code y b nL' r' ∈ wG) (hyx : y = ⟨owner, x0.name, x0.desc⟩) (hno : x0.name ≠ "<init>") (hlen : (parseMethodDescriptor y.desc).map (fun d => d.parameters.length) = some k) (hR : (yRm d).frames + 1 ≤ R.frames ∧ 8 + (nL' + 11) + (yRm d).locals ≤ R.locals) (ho : o < n) (hcell : cf w o (σ o) = .inr (ci, fs)) (hc : vwCl[ci]? = some (C, T, N)) (hk : As.length = k) (hst : st = As.reverse ++ .ref (w.1 o) :: rest) (hr : (rest.map fun v => v.category).sum ≤ 8) (hd : decode cc pc = .ok (.invokespecial index, 3)) : YR p l e R s m args below meth c w cf n A nL σ pc lv st rest (Value.ref (w.1 o) :: As).toArray Qc := fun H locs ls hP hS hl => by
  have hts := E.1.2.2.2.2
  have hK : Back l R p e below s args y 3 8 (PreOf R 0 0 (va_Pc (.ref (w.1 o) :: As) (yPre w cf n σ H.size))) (PostOf (Qc (YA w n H.size)) 0 0 (YA w n H.size)) := back_of (bytes := b) (maxL := nL') (ret := r') (hM H.size) yPre.blind rfl rfl hR.1 hR.2 (pay_in hts (gI h7)) List.mem_cons_self (fun a' U hW => word_at hW (Or.inl (by first | rfl | simp [Cond.onTables, Cond.keeps, Cond.steady])) (hts _ h6))
  obtain ⟨cellB, hcB, hoB, hclB⟩ := va_recv E.2.1.1 hP (ci := ci) (q0 := o) hc (by rw [yw_get ho, hcell])
  obtain ⟨hfc, kB, hkB, -⟩ := (E.2.1.1.1 ci _ hc).2
  have hce : cellB.cls = w.2.2.1.1 ci := (Option.some.inj (hfc.symm.trans hclB)).symm
  rw [← hce] at hkB
  intro T hT X
  obtain ⟨v, vm₁, ⟨U', l2, c2, s2⟩, hW₁, X', ⟨g', mk, t, L, e1, e2, hq, g1, hL, g2, g3⟩, hst2⟩ := y_callSI X E.1.1 (bytes := b) (maxL := nL') (ret := r') E.1.2.2.2.1 (hts _ h1) (hts _ h2) (hts _ h3) (hts _ h4) hyx (hts _ h5) (hts _ h7) hno hK (by rw [hT]; exact hcB) hoB hkB (g := F0 m pc ls st) rfl (hl.1.trans E.1.2.2.1.symm) (argsL := As) (rest := rest) (fun sig h => by
    rw [h] at hlen
    exact hk.trans (Option.some.inj hlen).symm) hst (lv_room hr) (by rw [E.1.2.1]; exact hd) (fun vm₁ hW₁ => ⟨Nat.zero_le _, Nat.zero_le _, y_pre E hP hS rfl (T.setVm vm₁) hT hW₁⟩)
  dsimp only [Pt.U, Pt.locs, Pt.cells, Pt.slots] at X' e1 e2 g1 g2 g3 hst2
  subst g1; subst g2; subst g3
  exact ⟨v, (T.setVm vm₁).calling g' mk _, t, U', L, hT, X', hL, e1, e2, hq, hst2⟩
end YROWS2
theorem y_startF {l : Launch} {w : wT} {cf : cT} {n : Nat} {y : MethodName} {b : ByteArray} {nL : Nat} {r : Option FieldType} {d : Nat} {av : List Value} {σ : Hp} {Qc : (Nat → Prop) → Array Value → State → Outcome → State → Prop} {own : String} {lv0 : List (Nat × Value)} (hy : plainFor y = true) (hown : y.cls = own) (hw : yOk w n) (hlen : (lg_sl av).length ≤ nL) (hlv : lv_args 0 av = lv0)
    (body : ∀ p e s m below meth c A, YE p m meth c b nL s av.toArray own r w n A → YY p l e (yRm d) s m av.toArray below meth c w cf n A (MQ below (Qc A) av.toArray s 0 0 A) nL σ 0 lv0 []) : yMet l w cf n y b nL r d av σ Qc := by
  intro sz
  refine va_MetF (cc := b) (maxL := nL) (ret := r) hy rfl ?_
  intro p e s m args below meth c s₁ B hml hv
  obtain ⟨rfl, hsz, hP, hG⟩ := hv
  subst hsz
  have hts := atoms_spec (ws := .code y b nL r :: wG) B.pre
  have hown2 : s.vm.findClass own = some m.cls := by rw [← hown]; exact findClass_of_methodNamed B.named
  have h := body p e s m below meth c (YA w n s.heap.size) ⟨⟨B.exec, B.bytes, hml, hown2, fun w hw => hts w (List.mem_cons_of_mem _ hw)⟩, hG, hw, fun k hk => Or.inl ⟨k, hk, rfl⟩, fun q hq => Or.inr hq, B.returns, B.notSynchronized⟩
  have hl := lv_entry av (n := nL) hlen
  rw [hlv] at hl
  rw [lg_entry_eq]
  exact h s.heap [] _ hP va_S.rf hl
end
section
def tcf : cT := fun w o r => if o < 1 then .inr (9, [.ref (w.1 1), .ref (w.1 2), .ref (w.1 3), .int (r 3), .int (r 4)]) else if o < 2 then .inl (w.2.1 1, 160, .inl r) else if o < 3 then .inl (w.2.1 1, 4, .inl r) else .inl (w.2.1 1, 160, .inl r)
theorem tc_X9 {w : wT} {o : Nat} {r : Nat → Int32} (h1 : 0 ≤ o) (h2 : o < 1) : tcf w o r = .inr (9, [.ref (w.1 1), .ref (w.1 2), .ref (w.1 3), .int (r 3), .int (r 4)]) := by
  unfold tcf
  rw [if_pos h2]
theorem tc_codes {w : wT} {o : Nat} {r : Nat → Int32} (h1 : 1 ≤ o) (h2 : o < 2) : tcf w o r = .inl (w.2.1 1, 160, .inl r) := by
  unfold tcf
  rw [if_neg (show ¬ o < 1 by omega), if_pos h2]
theorem tc_starts {w : wT} {o : Nat} {r : Nat → Int32} (h1 : 2 ≤ o) (h2 : o < 3) : tcf w o r = .inl (w.2.1 1, 4, .inl r) := by
  unfold tcf
  rw [if_neg (show ¬ o < 1 by omega), if_neg (show ¬ o < 2 by omega), if_pos h2]
theorem tc_stack {w : wT} {o : Nat} {r : Nat → Int32} (h1 : 3 ≤ o) (h2 : o < 4) : tcf w o r = .inl (w.2.1 1, 160, .inl r) := by
  unfold tcf
  rw [if_neg (show ¬ o < 1 by omega), if_neg (show ¬ o < 2 by omega), if_neg (show ¬ o < 3 by omega)]
theorem gft_X9_0 {p : Program} {l : Launch} {e : Env} {R : Room} {s : State} {m : MethodId} {args : Array Value} {below : List Frame} {meth : Method} {c : Code} {w : wT} {A : Nat → Prop} {Q : State → Prop} {nL : Nat} {σ : Hp} {pc : Nat} {lv : List (Nat × Value)} {rest : List Value} {cc : ByteArray} {own : String} {r : Option FieldType} (E : YE p m meth c cc nL s args own r w 4 A) {o index : Nat} (h1 : 0 ≤ o) (h2 : o < 1) (hlink : Cond.fieldLink own index "WhereTheSpoonWent$Text" "codes" "[I" ∈ wG) (hd : decode cc pc = .ok (.getfield index, 3)) (kk : YY p l e R s m args below meth c w tcf 4 A Q nL σ (pc + 3) lv (.ref (w.1 1) :: rest)) : YY p l e R s m args below meth c w tcf 4 A Q nL σ pc lv (.ref (w.1 o) :: rest) :=
  y_get E (ci := 9) (k := 0) (N := 5) (C := RX9) (T := TX9) (Nat.lt_of_lt_of_le h2 (by decide)) (tc_X9 h1 h2) rfl wu_X9 (by decide) hlink rfl hd kk
theorem gft_X9_1 {p : Program} {l : Launch} {e : Env} {R : Room} {s : State} {m : MethodId} {args : Array Value} {below : List Frame} {meth : Method} {c : Code} {w : wT} {A : Nat → Prop} {Q : State → Prop} {nL : Nat} {σ : Hp} {pc : Nat} {lv : List (Nat × Value)} {rest : List Value} {cc : ByteArray} {own : String} {r : Option FieldType} (E : YE p m meth c cc nL s args own r w 4 A) {o index : Nat} (h1 : 0 ≤ o) (h2 : o < 1) (hlink : Cond.fieldLink own index "WhereTheSpoonWent$Text" "starts" "[I" ∈ wG) (hd : decode cc pc = .ok (.getfield index, 3)) (kk : YY p l e R s m args below meth c w tcf 4 A Q nL σ (pc + 3) lv (.ref (w.1 2) :: rest)) : YY p l e R s m args below meth c w tcf 4 A Q nL σ pc lv (.ref (w.1 o) :: rest) :=
  y_get E (ci := 9) (k := 1) (N := 5) (C := RX9) (T := TX9) (Nat.lt_of_lt_of_le h2 (by decide)) (tc_X9 h1 h2) rfl wu_X9 (by decide) hlink rfl hd kk
theorem gft_X9_2 {p : Program} {l : Launch} {e : Env} {R : Room} {s : State} {m : MethodId} {args : Array Value} {below : List Frame} {meth : Method} {c : Code} {w : wT} {A : Nat → Prop} {Q : State → Prop} {nL : Nat} {σ : Hp} {pc : Nat} {lv : List (Nat × Value)} {rest : List Value} {cc : ByteArray} {own : String} {r : Option FieldType} (E : YE p m meth c cc nL s args own r w 4 A) {o index : Nat} (h1 : 0 ≤ o) (h2 : o < 1) (hlink : Cond.fieldLink own index "WhereTheSpoonWent$Text" "stack" "[I" ∈ wG) (hd : decode cc pc = .ok (.getfield index, 3)) (kk : YY p l e R s m args below meth c w tcf 4 A Q nL σ (pc + 3) lv (.ref (w.1 3) :: rest)) : YY p l e R s m args below meth c w tcf 4 A Q nL σ pc lv (.ref (w.1 o) :: rest) :=
  y_get E (ci := 9) (k := 2) (N := 5) (C := RX9) (T := TX9) (Nat.lt_of_lt_of_le h2 (by decide)) (tc_X9 h1 h2) rfl wu_X9 (by decide) hlink rfl hd kk
theorem gft_X9_3 {p : Program} {l : Launch} {e : Env} {R : Room} {s : State} {m : MethodId} {args : Array Value} {below : List Frame} {meth : Method} {c : Code} {w : wT} {A : Nat → Prop} {Q : State → Prop} {nL : Nat} {σ : Hp} {pc : Nat} {lv : List (Nat × Value)} {rest : List Value} {cc : ByteArray} {own : String} {r : Option FieldType} (E : YE p m meth c cc nL s args own r w 4 A) {o index : Nat} (h1 : 0 ≤ o) (h2 : o < 1) (hlink : Cond.fieldLink own index "WhereTheSpoonWent$Text" "used" "I" ∈ wG) (hd : decode cc pc = .ok (.getfield index, 3)) (kk : YY p l e R s m args below meth c w tcf 4 A Q nL σ (pc + 3) lv (.int (σ o 3) :: rest)) : YY p l e R s m args below meth c w tcf 4 A Q nL σ pc lv (.ref (w.1 o) :: rest) :=
  y_get E (ci := 9) (k := 3) (N := 5) (C := RX9) (T := TX9) (Nat.lt_of_lt_of_le h2 (by decide)) (tc_X9 h1 h2) rfl wu_X9 (by decide) hlink rfl hd kk
theorem pft_X9_3 {p : Program} {l : Launch} {e : Env} {R : Room} {s : State} {m : MethodId} {args : Array Value} {below : List Frame} {meth : Method} {c : Code} {w : wT} {A : Nat → Prop} {Q : State → Prop} {nL : Nat} {σ : Hp} {pc : Nat} {lv : List (Nat × Value)} {rest : List Value} {cc : ByteArray} {own : String} {r : Option FieldType} (E : YE p m meth c cc nL s args own r w 4 A) {o index : Nat} {z : Int32} (h1 : 0 ≤ o) (h2 : o < 1) (hlink : Cond.fieldLink own index "WhereTheSpoonWent$Text" "used" "I" ∈ wG) (hd : decode cc pc = .ok (.putfield index, 3)) (kk : YY p l e R s m args below meth c w tcf 4 A Q nL (hup σ o 3 z) (pc + 3) lv rest) : YY p l e R s m args below meth c w tcf 4 A Q nL σ pc lv (.int z :: .ref (w.1 o) :: rest) :=
  y_put E (ci := 9) (k := 3) (N := 5) (C := RX9) (T := TX9) (v := .int z) (ty := .int) (Nat.lt_of_lt_of_le h2 (by decide)) (tc_X9 h1 h2) (by rw [tc_X9 h1 h2]; simp [upd]) rfl wu_X9 tyX9 tyX9_ok nmX9 (by decide) hlink rfl (by decide +kernel) rfl rfl (by simp) hd kk
theorem gft_X9_4 {p : Program} {l : Launch} {e : Env} {R : Room} {s : State} {m : MethodId} {args : Array Value} {below : List Frame} {meth : Method} {c : Code} {w : wT} {A : Nat → Prop} {Q : State → Prop} {nL : Nat} {σ : Hp} {pc : Nat} {lv : List (Nat × Value)} {rest : List Value} {cc : ByteArray} {own : String} {r : Option FieldType} (E : YE p m meth c cc nL s args own r w 4 A) {o index : Nat} (h1 : 0 ≤ o) (h2 : o < 1) (hlink : Cond.fieldLink own index "WhereTheSpoonWent$Text" "parts" "I" ∈ wG) (hd : decode cc pc = .ok (.getfield index, 3)) (kk : YY p l e R s m args below meth c w tcf 4 A Q nL σ (pc + 3) lv (.int (σ o 4) :: rest)) : YY p l e R s m args below meth c w tcf 4 A Q nL σ pc lv (.ref (w.1 o) :: rest) :=
  y_get E (ci := 9) (k := 4) (N := 5) (C := RX9) (T := TX9) (Nat.lt_of_lt_of_le h2 (by decide)) (tc_X9 h1 h2) rfl wu_X9 (by decide) hlink rfl hd kk
theorem pft_X9_4 {p : Program} {l : Launch} {e : Env} {R : Room} {s : State} {m : MethodId} {args : Array Value} {below : List Frame} {meth : Method} {c : Code} {w : wT} {A : Nat → Prop} {Q : State → Prop} {nL : Nat} {σ : Hp} {pc : Nat} {lv : List (Nat × Value)} {rest : List Value} {cc : ByteArray} {own : String} {r : Option FieldType} (E : YE p m meth c cc nL s args own r w 4 A) {o index : Nat} {z : Int32} (h1 : 0 ≤ o) (h2 : o < 1) (hlink : Cond.fieldLink own index "WhereTheSpoonWent$Text" "parts" "I" ∈ wG) (hd : decode cc pc = .ok (.putfield index, 3)) (kk : YY p l e R s m args below meth c w tcf 4 A Q nL (hup σ o 4 z) (pc + 3) lv rest) : YY p l e R s m args below meth c w tcf 4 A Q nL σ pc lv (.int z :: .ref (w.1 o) :: rest) :=
  y_put E (ci := 9) (k := 4) (N := 5) (C := RX9) (T := TX9) (v := .int z) (ty := .int) (Nat.lt_of_lt_of_le h2 (by decide)) (tc_X9 h1 h2) (by rw [tc_X9 h1 h2]; simp [upd]) rfl wu_X9 tyX9 tyX9_ok nmX9 (by decide) hlink rfl (by decide +kernel) rfl rfl (by simp) hd kk
end
section
/-! ===== the methods' meanings: by program out of their bytecode ===== -/
def VS_length (K : Int32 → Hp → Prop) (σ : Hp) (i : Nat) : Prop := i < 12 ∧ K (nI (scLen.getD i 0)) σ
def VS_charAt (K : Int32 → Hp → Prop) (σ : Hp) (i : Nat) (k : Int32) : Prop := i < 12 ∧ vp_in k (scLen.getD i 0) ∧ K ((scByt.getD i []).getD k.toNatClampNeg 0) σ
def VJ9_floorMod_7cf53 (K : Int32 → Hp → Prop) (σ : Hp) (a1 : Int32) (a2 : Int32) : Prop := (¬ a2 = 0) ∧ ∀ x1 : Int32, x1 = jrem a1 a2 → if 0 ≤ (a1 ^^^ a2) then (K x1 σ) else (if x1 = 0 then (K x1 σ) else (K (x1 + a2) σ))
def VX10_isOne (K : Int32 → Hp → Prop) (σ : Hp) (o : Nat) (a1 : Int32) : Prop := (12 ≤ o ∧ o < 18) ∧ if a1 = 0 then (K 1 σ) else (K 0 σ)
def VX5_isOne (K : Int32 → Hp → Prop) (σ : Hp) (o : Nat) (a1 : Int32) : Prop := (12 ≤ o ∧ o < 18) ∧ if a1 = 2 then (K 1 σ) else (VX10_isOne (fun v2 u3 => if v2 = 0 then (K 0 u3) else (K 1 u3)) σ o a1)
def VX0_isOne (K : Int32 → Hp → Prop) (σ : Hp) (o : Nat) (a1 : Int32) : Prop := (12 ≤ o ∧ o < 18) ∧ if a1 = 4 then (K 1 σ) else (VX5_isOne (fun v2 u3 => if v2 = 0 then (K 0 u3) else (K 1 u3)) σ o a1)
def VX10_blown (K : Int32 → Hp → Prop) (σ : Hp) (o : Nat) (a1 : Int32) (a2 : Int32) : Prop := (12 ≤ o ∧ o < 18) ∧ if a1 = 4 then (K a2 σ) else (K a1 σ)
def VX0_blown (K : Int32 → Hp → Prop) (σ : Hp) (o : Nat) (a1 : Int32) (a2 : Int32) : Prop := (12 ≤ o ∧ o < 18) ∧ if a1 = 4 then (VX10_blown (fun v2 u3 => K v2 u3) σ o a1 a2) else (K (jrem (a1 + 2) 4) σ)
def VX2_isOne (K : Int32 → Hp → Prop) (σ : Hp) (o : Nat) (a1 : Int32) : Prop := (12 ≤ o ∧ o < 18) ∧ if a1 = 5 then (K 1 σ) else (VX10_isOne (fun v2 u3 => if v2 = 0 then (K 0 u3) else (K 1 u3)) σ o a1)
def VX2_blown (K : Int32 → Hp → Prop) (σ : Hp) (o : Nat) (a1 : Int32) (a2 : Int32) : Prop := (12 ≤ o ∧ o < 18) ∧ if a2 = 4 then (VX10_blown (fun v2 u3 => K v2 u3) σ o a1 a2) else (K a2 σ)
def VX5_touching (K : Int32 → Hp → Prop) (σ : Hp) (o : Nat) (a1 : Int32) : Prop := (12 ≤ o ∧ o < 18) ∧ K (jrem (a1 + 1) 4) σ
def VX7_isOne (K : Int32 → Hp → Prop) (σ : Hp) (o : Nat) (a1 : Int32) : Prop := (12 ≤ o ∧ o < 18) ∧ if a1 = 1 then (K 1 σ) else (VX10_isOne (fun v2 u3 => if v2 = 0 then (K 0 u3) else (K 1 u3)) σ o a1)
def VX7_touching (K : Int32 → Hp → Prop) (σ : Hp) (o : Nat) (a1 : Int32) : Prop := (12 ≤ o ∧ o < 18) ∧ K 4 σ
def VX8_isOne (K : Int32 → Hp → Prop) (σ : Hp) (o : Nat) (a1 : Int32) : Prop := (12 ≤ o ∧ o < 18) ∧ if a1 = 3 then (K 1 σ) else (VX7_isOne (fun v2 u3 => if v2 = 0 then (K 0 u3) else (K 1 u3)) σ o a1)
def VX8_moves (K : Int32 → Hp → Prop) (σ : Hp) (o : Nat) (a1 : Int32) (a2 : Int32) : Prop := (12 ≤ o ∧ o < 18) ∧ VJ9_floorMod_7cf53 (fun v1 u2 => (¬ (v1 + 1) = 0) ∧ if (jrem a1 (v1 + 1)) = 0 then (K 1 u2) else (K 0 u2)) σ a2 3
def VX10_touching (K : Int32 → Hp → Prop) (σ : Hp) (o : Nat) (a1 : Int32) : Prop := (12 ≤ o ∧ o < 18) ∧ K (jrem (a1 + 2) 4) σ
def VX10_moves (K : Int32 → Hp → Prop) (σ : Hp) (o : Nat) (a1 : Int32) (a2 : Int32) : Prop := (12 ≤ o ∧ o < 18) ∧ K 1 σ
def VP_blown (K : Int32 → Hp → Prop) (σ : Hp) (o : Nat) (a1 : Int32) (a2 : Int32) : Prop := if o = 12 then VX10_blown K σ o a1 a2 else if o = 13 then VX10_blown K σ o a1 a2 else if o = 14 then VX10_blown K σ o a1 a2 else if o = 15 then VX10_blown K σ o a1 a2 else if o = 16 then VX0_blown K σ o a1 a2 else if o = 17 then VX2_blown K σ o a1 a2 else False
def VP_moves (K : Int32 → Hp → Prop) (σ : Hp) (o : Nat) (a1 : Int32) (a2 : Int32) : Prop := if o = 12 then VX10_moves K σ o a1 a2 else if o = 13 then VX10_moves K σ o a1 a2 else if o = 14 then VX10_moves K σ o a1 a2 else if o = 15 then VX8_moves K σ o a1 a2 else if o = 16 then VX10_moves K σ o a1 a2 else if o = 17 then VX10_moves K σ o a1 a2 else False
def VP_touching (K : Int32 → Hp → Prop) (σ : Hp) (o : Nat) (a1 : Int32) : Prop := if o = 12 then VX10_touching K σ o a1 else if o = 13 then VX7_touching K σ o a1 else if o = 14 then VX5_touching K σ o a1 else if o = 15 then VX7_touching K σ o a1 else if o = 16 then VX5_touching K σ o a1 else if o = 17 then VX10_touching K σ o a1 else False
def VP_isOne (K : Int32 → Hp → Prop) (σ : Hp) (o : Nat) (a1 : Int32) : Prop := if o = 12 then VX10_isOne K σ o a1 else if o = 13 then VX7_isOne K σ o a1 else if o = 14 then VX5_isOne K σ o a1 else if o = 15 then VX8_isOne K σ o a1 else if o = 16 then VX0_isOne K σ o a1 else if o = 17 then VX2_isOne K σ o a1 else False
def VX11_has (K : Int32 → Hp → Prop) (σ : Hp) (a1 : Int32) (a2 : Int32) : Prop := if ((a1 >>> (a2 &&& 31)) &&& 1) = 1 then (K 1 σ) else (K 0 σ)
def VX3_beyond_b47 (K : Int32 → Hp → Prop) (o : Nat) (σ : Hp) (l3 : Int32) (s0 : Int32) (s1 : Int32) : Prop := ∀ x6 : Int32, x6 = s1 + s0 → if l3 < 0 then (K (-1) σ) else (if 6 ≤ l3 then (K (-1) σ) else (if x6 < 0 then (K (-1) σ) else (if x6 < 5 then (∀ x11 : Int32, x11 = (6 * x6) + l3 → VX11_has (fun v12 u13 => if v12 = 0 then (K x11 u13) else (K (-1) u13)) σ (σ o 0) x11) else (K (-1) σ))))
def VX3_beyond_b23 (K : Int32 → Hp → Prop) (o : Nat) (σ : Hp) (l1 : Int32) (l2 : Int32) (s0 : Int32) (s1 : Int32) : Prop := ∀ x3 : Int32, x3 = s1 + s0 → if l2 = 2 then (VX3_beyond_b47 K o σ x3 1 (l1 / 6)) else (if l2 = 0 then (VX3_beyond_b47 K o σ x3 (-1) (l1 / 6)) else (VX3_beyond_b47 K o σ x3 0 (l1 / 6)))
def VX3_beyond (K : Int32 → Hp → Prop) (σ : Hp) (o : Nat) (a1 : Int32) (a2 : Int32) : Prop := (1 ≤ o ∧ o < 3) ∧ if a2 = 1 then (VX3_beyond_b23 K o σ a1 a2 1 (jrem a1 6)) else (if a2 = 3 then (VX3_beyond_b23 K o σ a1 a2 (-1) (jrem a1 6)) else (VX3_beyond_b23 K o σ a1 a2 0 (jrem a1 6)))
def VX9_joined (K : Int32 → Hp → Prop) (σ : Hp) (a1 : Int32) (a2 : Int32) (a3 : Int32) : Prop := if a1 = (-14) then (if a2 = 0 then (K 0 σ) else (if a3 = 0 then (K 0 σ) else (K 1 σ))) else (if a1 = (-13) then (if a2 = a3 then (K 1 σ) else (K 0 σ)) else (if a1 = (-12) then (if a3 ≤ a2 then (K 0 σ) else (K 1 σ)) else (if a1 = (-11) then (K (a2 * a3) σ) else (if a1 = (-10) then (K (a2 - a3) σ) else (if a1 = (-9) then (K (a2 + a3) σ) else (if a2 = 0 then (if a3 = 0 then (K 0 σ) else (K 1 σ)) else (K 1 σ)))))))
def VX9_leaf (K : Int32 → Hp → Prop) (σ : Hp) (a1 : Int32) (a2 : Int32) (a3 : Int32) (a4 : Int32) (a5 : Int32) : Prop := if a1 = (-6) then (K a5 σ) else (if a1 = (-5) then (K a4 σ) else (if a1 = (-4) then (K a3 σ) else (if a1 = (-3) then (K (a2 / 6) σ) else (if a1 = (-2) then (K (jrem a2 6) σ) else (if a1 = (-1) then (K a2 σ) else (K a1 σ))))))
def VX9_says_b198 (K : Int32 → Hp → Prop) (o : Nat) (σ : Hp) (s0 : Int32) : Prop := K (if 0 < (if (σ 37 0) < s0 then (σ 37 0) else s0) then (if (σ 37 0) < s0 then (σ 37 0) else s0) else 0) σ
def VX9_says_b133 (K : Int32 → Hp → Prop) (R11 : Hp → Int32 → Int32 → Int32 → Int32 → Int32 → Int32 → Int32 → Prop) (o : Nat) (σ : Hp) (l1 : Int32) (l2 : Int32) (l3 : Int32) (l4 : Int32) (l5 : Int32) (l6 : Int32) (l7 : Int32) (l8 : Int32) : Prop := if l6 ≤ 1 then (∀ x27 : Int32, x27 = l7 + 1 → R11 σ l1 l2 l3 l4 l5 l6 x27) else (∀ x28 : Int32, x28 = l6 + (-1) → vp_in (x28 - 1) 160 ∧ vp_in x28 160 ∧ VX9_joined (fun v29 u30 => vp_in (x28 - 1) 160 ∧ ∀ u31 : Hp, u31 = hup u30 37 (x28 - 1).toNatClampNeg v29 → ∀ x32 : Int32, x32 = l7 + 1 → R11 u31 l1 l2 l3 l4 l5 x28 x32) σ l8 (σ 37 (x28 - 1).toNatClampNeg) (σ 37 x28.toNatClampNeg))
def VX9_says_b72 (K : Int32 → Hp → Prop) (R11 : Hp → Int32 → Int32 → Int32 → Int32 → Int32 → Int32 → Int32 → Prop) (o : Nat) (σ : Hp) (l1 : Int32) (l2 : Int32) (l3 : Int32) (l4 : Int32) (l5 : Int32) (l6 : Int32) (l7 : Int32) (l8 : Int32) : Prop := if l8 < (-8) then (VX9_says_b133 K R11 o σ l1 l2 l3 l4 l5 l6 l7 l8) else (if l6 ≤ 0 then (VX9_says_b133 K R11 o σ l1 l2 l3 l4 l5 l6 l7 l8) else (if l8 = (-8) then (vp_in (l6 - 1) 160 ∧ vp_in (l6 - 1) 160 ∧ ∀ u24 : Hp, u24 = hup σ 37 (l6 - 1).toNatClampNeg (-(σ 37 (l6 - 1).toNatClampNeg)) → ∀ x25 : Int32, x25 = l7 + 1 → R11 u24 l1 l2 l3 l4 l5 l6 x25) else (vp_in (l6 - 1) 160 ∧ if (σ 37 (l6 - 1).toNatClampNeg) = 0 then (vp_in (l6 - 1) 160 ∧ ∀ u22 : Hp, u22 = hup σ 37 (l6 - 1).toNatClampNeg 1 → ∀ x23 : Int32, x23 = l7 + 1 → R11 u22 l1 l2 l3 l4 l5 l6 x23) else (vp_in (l6 - 1) 160 ∧ ∀ u20 : Hp, u20 = hup σ 37 (l6 - 1).toNatClampNeg 0 → ∀ x21 : Int32, x21 = l7 + 1 → R11 u20 l1 l2 l3 l4 l5 l6 x21))))
def VX9_says_L11 (K : Int32 → Hp → Prop) (o : Nat) : Nat → Hp → Int32 → Int32 → Int32 → Int32 → Int32 → Int32 → Int32 → Prop
  | 0, _, _, _, _, _, _, _, _ => False
  | nf + 1, σ, l1, l2, l3, l4, l5, l6, l7 => ∀ x3 : Nat, x3 = 31 + 1 * (o - 19) → vp_in (l1 + 1) 4 ∧ if (σ x3 (l1 + 1).toNatClampNeg) ≤ l7 then (if l1 = 0 then (VX9_says_b198 K o σ 4) else (if l1 = 1 then (VX9_says_b198 K o σ 99) else (VX9_says_b198 K o σ 9))) else (∀ x7 : Nat, x7 = 25 + 1 * (o - 19) → vp_in l7 160 ∧ ∀ x8 : Int32, x8 = σ x7 l7.toNatClampNeg → if x8 < (-6) then (VX9_says_b72 K (VX9_says_L11 K o nf) o σ l1 l2 l3 l4 l5 l6 l7 x8) else (if 160 ≤ l6 then (VX9_says_b72 K (VX9_says_L11 K o nf) o σ l1 l2 l3 l4 l5 l6 l7 x8) else (VX9_leaf (fun v11 u12 => vp_in l6 160 ∧ ∀ u13 : Hp, u13 = hup u12 37 l6.toNatClampNeg v11 → ∀ x14 : Int32, x14 = l6 + 1 → ∀ x15 : Int32, x15 = l7 + 1 → (VX9_says_L11 K o nf) u13 l1 l2 l3 l4 l5 x14 x15) σ x8 l2 l3 l4 l5)))
def VX9_says (K : Int32 → Hp → Prop) (σ : Hp) (o : Nat) (a1 : Int32) (a2 : Int32) (a3 : Int32) (a4 : Int32) (a5 : Int32) : Prop := (19 ≤ o ∧ o < 25) ∧ ∀ x1 : Nat, x1 = 31 + 1 * (o - 19) → vp_in a1 4 ∧ ∀ x2 : Int32, x2 = σ x1 a1.toNatClampNeg → ∃ n, VX9_says_L11 K o n σ a1 a2 a3 a4 a5 0 x2
def VX1_pass_b95 (K : Hp → Prop) (σ : Hp) (l1 : Int32) : Prop := if (σ 49 7) = 4 then (K σ) else ((¬ σ 49 2 = 0) ∧ ∀ x18 : Nat, x18 = (σ 49 2).toNatClampNeg - 1 → (12 ≤ x18 ∧ x18 < 18) ∧ VP_moves (fun v19 u20 => if v19 = 0 then (K u20) else (VX3_beyond (fun v22 u23 => if 0 ≤ v22 then (∀ u25 : Hp, u25 = hup u23 49 6 v22 → K u25) else ((¬ u23 49 2 = 0) ∧ ∀ x26 : Nat, x26 = (u23 49 2).toNatClampNeg - 1 → (12 ≤ x26 ∧ x26 < 18) ∧ VP_touching (fun v27 u28 => ∀ u29 : Hp, u29 = hup u28 49 7 v27 → K u29) u23 x26 (u23 49 7))) u20 1 (u20 49 6) (u20 49 7))) σ x18 l1 (σ 49 5))
def VX1_pass (K : Hp → Prop) (σ : Hp) (a1 : Int32) : Prop := (¬ σ 49 1 = 0) ∧ ∀ x1 : Nat, x1 = (σ 49 1).toNatClampNeg - 1 → (19 ≤ x1 ∧ x1 < 25) ∧ (¬ σ 49 2 = 0) ∧ ∀ x2 : Nat, x2 = (σ 49 2).toNatClampNeg - 1 → (12 ≤ x2 ∧ x2 < 18) ∧ VX11_has (fun v3 u4 => if v3 = 0 then (VX11_has (fun v6 u7 => if v6 = 0 then (VX1_pass_b95 K u7 a1) else ((¬ u7 49 2 = 0) ∧ ∀ x9 : Nat, x9 = (u7 49 2).toNatClampNeg - 1 → (12 ≤ x9 ∧ x9 < 18) ∧ (¬ u7 49 1 = 0) ∧ ∀ x10 : Nat, x10 = (u7 49 1).toNatClampNeg - 1 → (19 ≤ x10 ∧ x10 < 25) ∧ VX9_says (fun v11 u12 => VP_blown (fun v13 u14 => ∀ u15 : Hp, u15 = hup u14 49 7 v13 → VX1_pass_b95 K u15 a1) u12 x9 v11 (u12 49 7)) u7 x10 0 (u7 49 6) a1 (u7 49 4) (u7 49 5))) u4 (u4 1 2) (u4 49 6)) else (∀ u16 : Hp, u16 = hup u4 49 7 4 → K u16)) σ (σ 49 3) (σ 49 6)
def VX1_passAll_L2 (K : Hp → Prop) : Nat → Hp → Int32 → Int32 → Int32 → Prop
  | 0, _, _, _, _ => False
  | nf + 1, σ, l1, l2, l3 => if l2 ≤ l3 then (K σ) else (VX1_pass (fun u3 => ∀ x4 : Int32, x4 = l3 + 1 → (VX1_passAll_L2 K nf) u3 l1 l2 x4) σ (l1 + l3))
def VX1_passAll (K : Hp → Prop) (σ : Hp) (a1 : Int32) (a2 : Int32) : Prop := ∃ n, VX1_passAll_L2 K n σ a1 a2 0
def VX3_become (K : Hp → Prop) (σ : Hp) (o : Nat) (a1 : Nat) : Prop := (1 ≤ o ∧ o < 3) ∧ (1 ≤ a1 ∧ a1 < 3) ∧ ∀ u1 : Hp, u1 = hup σ o 0 (σ a1 0) → ∀ u2 : Hp, u2 = hup u1 o 1 (u1 a1 1) → ∀ u3 : Hp, u3 = hup u2 o 2 (u2 a1 2) → ∀ u4 : Hp, u4 = hup u3 o 3 (u3 a1 3) → ∀ u5 : Hp, u5 = hup u4 o 4 (u4 a1 4) → ∀ u6 : Hp, u6 = hup u5 o 5 (u5 a1 5) → ∀ x7 : Nat, x7 = 3 + 4 * (a1 - 1) → ∀ x8 : Nat, x8 = 3 + 4 * (o - 1) → (¬ (0 : Int32) < 0) ∧ (¬ (0 : Int32) < 0) ∧ (¬ (5 : Int32) < 0) ∧ ((0 : Int32).toNatClampNeg + (5 : Int32).toNatClampNeg ≤ 5) ∧ ((0 : Int32).toNatClampNeg + (5 : Int32).toNatClampNeg ≤ 5) ∧ ∀ u9 : Hp, u9 = hset u6 x8 (va_cpy (u6 x7) (u6 x8) (0 : Int32).toNatClampNeg (0 : Int32).toNatClampNeg (5 : Int32).toNatClampNeg) → ∀ x10 : Nat, x10 = 4 + 4 * (a1 - 1) → ∀ x11 : Nat, x11 = 4 + 4 * (o - 1) → (¬ (0 : Int32) < 0) ∧ (¬ (0 : Int32) < 0) ∧ (¬ (5 : Int32) < 0) ∧ ((0 : Int32).toNatClampNeg + (5 : Int32).toNatClampNeg ≤ 5) ∧ ((0 : Int32).toNatClampNeg + (5 : Int32).toNatClampNeg ≤ 5) ∧ ∀ u12 : Hp, u12 = hset u9 x11 (va_cpy (u9 x10) (u9 x11) (0 : Int32).toNatClampNeg (0 : Int32).toNatClampNeg (5 : Int32).toNatClampNeg) → ∀ x13 : Nat, x13 = 5 + 4 * (a1 - 1) → ∀ x14 : Nat, x14 = 5 + 4 * (o - 1) → (¬ (0 : Int32) < 0) ∧ (¬ (0 : Int32) < 0) ∧ (¬ (5 : Int32) < 0) ∧ ((0 : Int32).toNatClampNeg + (5 : Int32).toNatClampNeg ≤ 5) ∧ ((0 : Int32).toNatClampNeg + (5 : Int32).toNatClampNeg ≤ 5) ∧ ∀ u15 : Hp, u15 = hset u12 x14 (va_cpy (u12 x13) (u12 x14) (0 : Int32).toNatClampNeg (0 : Int32).toNatClampNeg (5 : Int32).toNatClampNeg) → ∀ x16 : Nat, x16 = 6 + 4 * (a1 - 1) → ∀ x17 : Nat, x17 = 6 + 4 * (o - 1) → (¬ (0 : Int32) < 0) ∧ (¬ (0 : Int32) < 0) ∧ (¬ (5 : Int32) < 0) ∧ ((0 : Int32).toNatClampNeg + (5 : Int32).toNatClampNeg ≤ 5) ∧ ((0 : Int32).toNatClampNeg + (5 : Int32).toNatClampNeg ≤ 5) ∧ ∀ u18 : Hp, u18 = hset u15 x17 (va_cpy (u15 x16) (u15 x17) (0 : Int32).toNatClampNeg (0 : Int32).toNatClampNeg (5 : Int32).toNatClampNeg) → K u18
def VX3_bits (K : Int32 → Hp → Prop) (σ : Hp) (o : Nat) (a1 : Int32) : Prop := (1 ≤ o ∧ o < 3) ∧ if a1 = 0 then (K (σ o 0) σ) else (if a1 = 1 then (K (σ o 1) σ) else (K (σ o 2) σ))
def VX3_flip (K : Hp → Prop) (σ : Hp) (o : Nat) (a1 : Int32) (a2 : Int32) : Prop := (1 ≤ o ∧ o < 3) ∧ if a1 = 0 then (∀ u5 : Hp, u5 = hup σ o 0 ((σ o 0) ^^^ (1 <<< (a2 &&& 31))) → K u5) else (if a1 = 1 then (∀ u4 : Hp, u4 = hup σ o 1 ((σ o 1) ^^^ (1 <<< (a2 &&& 31))) → K u4) else (∀ u3 : Hp, u3 = hup σ o 2 ((σ o 2) ^^^ (1 <<< (a2 &&& 31))) → K u3))
def VX4_add (K : Hp → Prop) (σ : Hp) (a1 : Int32) : Prop := if 160 ≤ (σ 38 1) then (K σ) else (vp_in (σ 38 1) 160 ∧ ∀ u2 : Hp, u2 = hup σ 39 (σ 38 1).toNatClampNeg (vp_nar .byte a1.toInt8.toInt32) → ∀ u3 : Hp, u3 = hup u2 38 1 ((u2 38 1) + 1) → K u3)
def VX4_isDigit (K : Int32 → Hp → Prop) (σ : Hp) (a1 : Int32) : Prop := if a1 < 48 then (K 0 σ) else (if 57 < a1 then (K 0 σ) else (K 1 σ))
def VX4_goOnNumber_b59 (K : Hp → Prop) (σ : Hp) (l1 : Int32) : Prop := if ((σ 38 4) - (σ 38 3)) ≤ 4 then (∀ u8 : Hp, u8 = hup σ 38 2 l1 → K u8) else (∀ u9 : Hp, u9 = hup σ 38 2 (-31) → K u9)
def VX4_goOnNumber_L2 (K : Hp → Prop) : Nat → Hp → Int32 → Prop
  | 0, _, _ => False
  | nf + 1, σ, l1 => if (σ 38 1) ≤ (σ 38 4) then (VX4_goOnNumber_b59 K σ l1) else (vp_in (σ 38 4) 160 ∧ VX4_isDigit (fun v2 u3 => if v2 = 0 then (VX4_goOnNumber_b59 K u3 l1) else (vp_in (u3 38 4) 160 ∧ ∀ x5 : Int32, x5 = ((10 * l1) + (u3 39 (u3 38 4).toNatClampNeg)) - 48 → ∀ u6 : Hp, u6 = hup u3 38 4 ((u3 38 4) + 1) → (VX4_goOnNumber_L2 K nf) u6 x5)) σ (σ 39 (σ 38 4).toNatClampNeg))
def VX4_goOnNumber (K : Hp → Prop) (σ : Hp)  : Prop := ∃ n, VX4_goOnNumber_L2 K n σ 0
def VX4_isLetter (K : Int32 → Hp → Prop) (σ : Hp) (a1 : Int32) : Prop := if a1 < 97 then (K 0 σ) else (if 122 < a1 then (K 0 σ) else (K 1 σ))
def VX4_isWord_L20 (K : Int32 → Hp → Prop) (a1 : Nat) : Nat → Hp → Int32 → Prop
  | 0, _, _ => False
  | nf + 1, σ, l2 => VS_length (fun v4 u5 => if v4 ≤ l2 then (K 1 u5) else (vp_in ((u5 38 3) + l2) 160 ∧ VS_charAt (fun v7 u8 => if (u5 39 ((u5 38 3) + l2).toNatClampNeg) = v7 then (∀ x10 : Int32, x10 = l2 + 1 → (VX4_isWord_L20 K a1 nf) u8 x10) else (K 0 u8)) u5 a1 l2)) σ a1
def VX4_isWord (K : Int32 → Hp → Prop) (σ : Hp) (a1 : Nat) : Prop := a1 < 12 ∧ VS_length (fun v1 u2 => if v1 = ((u2 38 4) - (u2 38 3)) then (∃ n, VX4_isWord_L20 K a1 n u2 0) else (K 0 u2)) σ a1
def VX4_goOnWord_b39 (K : Hp → Prop) (σ : Hp) : Prop := VX4_isWord (fun v6 u7 => if v6 = 0 then (VX4_isWord (fun v9 u10 => if v9 = 0 then (VX4_isWord (fun v12 u13 => if v12 = 0 then (VX4_isWord (fun v15 u16 => if v15 = 0 then (VX4_isWord (fun v18 u19 => if v18 = 0 then (VX4_isWord (fun v21 u22 => if v21 = 0 then (VX4_isWord (fun v24 u25 => if v24 = 0 then (VX4_isWord (fun v27 u28 => if v27 = 0 then (VX4_isWord (fun v30 u31 => if v30 = 0 then (VX4_isWord (fun v33 u34 => if v33 = 0 then (VX4_isWord (fun v36 u37 => if v36 = 0 then (VX4_isWord (fun v39 u40 => if v39 = 0 then (∀ u42 : Hp, u42 = hup u40 38 2 (-31) → K u42) else (∀ u43 : Hp, u43 = hup u40 38 2 (-25) → K u43)) u37 11) else (∀ u44 : Hp, u44 = hup u37 38 2 (-24) → K u44)) u34 10) else (∀ u45 : Hp, u45 = hup u34 38 2 (-23) → K u45)) u31 9) else (∀ u46 : Hp, u46 = hup u31 38 2 (-7) → K u46)) u28 8) else (∀ u47 : Hp, u47 = hup u28 38 2 (-14) → K u47)) u25 7) else (∀ u48 : Hp, u48 = hup u25 38 2 (-15) → K u48)) u22 6) else (∀ u49 : Hp, u49 = hup u22 38 2 (-6) → K u49)) u19 5) else (∀ u50 : Hp, u50 = hup u19 38 2 (-5) → K u50)) u16 4) else (∀ u51 : Hp, u51 = hup u16 38 2 (-4) → K u51)) u13 3) else (∀ u52 : Hp, u52 = hup u13 38 2 (-3) → K u52)) u10 2) else (∀ u53 : Hp, u53 = hup u10 38 2 (-2) → K u53)) u7 1) else (∀ u54 : Hp, u54 = hup u7 38 2 (-1) → K u54)) σ 0
def VX4_goOnWord_L0 (K : Hp → Prop) : Nat → Hp → Prop
  | 0, _ => False
  | nf + 1, σ => if (σ 38 1) ≤ (σ 38 4) then (VX4_goOnWord_b39 K σ) else (vp_in (σ 38 4) 160 ∧ VX4_isLetter (fun v2 u3 => if v2 = 0 then (VX4_goOnWord_b39 K u3) else (∀ u5 : Hp, u5 = hup u3 38 4 ((u3 38 4) + 1) → (VX4_goOnWord_L0 K nf) u5)) σ (σ 39 (σ 38 4).toNatClampNeg))
def VX4_goOnWord (K : Hp → Prop) (σ : Hp)  : Prop := ∃ n, VX4_goOnWord_L0 K n σ
def VX4_signOf (K : Int32 → Hp → Prop) (σ : Hp) (a1 : Int32) : Prop := if a1 = 40 then (K (-20) σ) else (if a1 = 41 then (K (-21) σ) else (if a1 = 42 then (K (-11) σ) else (if a1 = 43 then (K (-9) σ) else (if a1 = 45 then (K (-10) σ) else (if a1 = 59 then (K (-22) σ) else (if a1 = 60 then (K (-12) σ) else (if a1 = 61 then (K (-13) σ) else (K (-31) σ))))))))
def VX4_goOn_b68 (K : Hp → Prop) (σ : Hp) : Prop := ∀ u6 : Hp, u6 = hup σ 38 4 (σ 38 3) → if (u6 38 3) < (u6 38 1) then (vp_in (u6 38 3) 160 ∧ VX4_isDigit (fun v8 u9 => if v8 = 0 then (vp_in (u9 38 3) 160 ∧ VX4_isLetter (fun v11 u12 => if v11 = 0 then (∀ u14 : Hp, u14 = hup u12 38 4 ((u12 38 3) + 1) → vp_in (u14 38 3) 160 ∧ VX4_signOf (fun v15 u16 => ∀ u17 : Hp, u17 = hup u16 38 2 v15 → K u17) u14 (u14 39 (u14 38 3).toNatClampNeg)) else (VX4_goOnWord (fun u19 => K u19) u12)) u9 (u9 39 (u9 38 3).toNatClampNeg)) else (VX4_goOnNumber (fun u21 => K u21) u9)) u6 (u6 39 (u6 38 3).toNatClampNeg)) else (∀ u22 : Hp, u22 = hup u6 38 2 (-30) → K u22)
def VX4_goOn_b55 (K : Hp → Prop) (R16 : Hp → Prop) (σ : Hp) : Prop := ∀ u23 : Hp, u23 = hup σ 38 3 ((σ 38 3) + 1) → R16 u23
def VX4_goOn_L16 (K : Hp → Prop) : Nat → Hp → Prop
  | 0, _ => False
  | nf + 1, σ => if (σ 38 1) ≤ (σ 38 3) then (VX4_goOn_b68 K σ) else (vp_in (σ 38 3) 160 ∧ if (σ 39 (σ 38 3).toNatClampNeg) = 32 then (VX4_goOn_b55 K (VX4_goOn_L16 K nf) σ) else (vp_in (σ 38 3) 160 ∧ if (σ 39 (σ 38 3).toNatClampNeg) = 10 then (VX4_goOn_b55 K (VX4_goOn_L16 K nf) σ) else (VX4_goOn_b68 K σ)))
def VX4_goOn (K : Hp → Prop) (σ : Hp)  : Prop := if (σ 38 5) < 0 then (∀ u2 : Hp, u2 = hup σ 38 3 (σ 38 4) → ∃ n, VX4_goOn_L16 K n u2) else (K σ)
def VX4_fail (K : Hp → Prop) (σ : Hp)  : Prop := if 0 ≤ (σ 38 5) then (∀ u2 : Hp, u2 = hup σ 38 2 (-31) → K u2) else (∀ u3 : Hp, u3 = hup σ 38 5 (σ 38 3) → ∀ u4 : Hp, u4 = hup u3 38 2 (-31) → K u4)
def VX4_take (K : Hp → Prop) (σ : Hp) (a1 : Int32) : Prop := if (σ 38 2) = a1 then (if (σ 38 2) = (-30) then (K σ) else (VX4_goOn (fun u4 => K u4) σ)) else (VX4_fail (fun u6 => K u6) σ)
def VX9_add (K : Hp → Prop) (σ : Hp) (o : Nat) (a1 : Int32) : Prop := (19 ≤ o ∧ o < 25) ∧ if 160 ≤ (σ o 3) then (K σ) else (∀ x2 : Nat, x2 = 25 + 1 * (o - 19) → vp_in (σ o 3) 160 ∧ ∀ u3 : Hp, u3 = hup σ x2 (σ o 3).toNatClampNeg a1 → ∀ u4 : Hp, u4 = hup u3 o 3 ((u3 o 3) + 1) → K u4)
def VX9_endPart (K : Hp → Prop) (σ : Hp) (o : Nat) : Prop := (19 ≤ o ∧ o < 25) ∧ if 3 ≤ (σ o 4) then (K σ) else (∀ u2 : Hp, u2 = hup σ o 4 ((σ o 4) + 1) → ∀ x3 : Nat, x3 = 31 + 1 * (o - 19) → vp_in (u2 o 4) 4 ∧ ∀ u4 : Hp, u4 = hup u2 x3 (u2 o 4).toNatClampNeg (u2 o 3) → K u4)
def VX4_readOr_L7 (F : Nat → (Hp → Prop) → Hp → Int32 → Prop) (K : Hp → Prop) : Nat → Hp → Int32 → Int32 → Prop
  | 0, _, _, _ => False
  | nf + 1, σ, l1, l2 => if 160 ≤ l2 then (K σ) else (if (σ 38 2) = (-15) then (VX4_goOn (fun u6 => F 1 (fun u8 => (¬ u8 38 6 = 0) ∧ ∀ x9 : Nat, x9 = (u8 38 6).toNatClampNeg - 1 → (19 ≤ x9 ∧ x9 < 25) ∧ VX9_add (fun u11 => ∀ x12 : Int32, x12 = l2 + 1 → (VX4_readOr_L7 F K nf) u11 l1 x12) u8 x9 (-15)) u6 l1) σ) else (K σ))
def BX4_readOr (F : Nat → (Hp → Prop) → Hp → Int32 → Prop) (K : Hp → Prop) (σ : Hp) (a1 : Int32) : Prop := F 1 (fun u2 => ∃ n, VX4_readOr_L7 F K n u2 a1 0) σ a1
def VX4_readAnd_L7 (F : Nat → (Hp → Prop) → Hp → Int32 → Prop) (K : Hp → Prop) : Nat → Hp → Int32 → Int32 → Prop
  | 0, _, _, _ => False
  | nf + 1, σ, l1, l2 => if 160 ≤ l2 then (K σ) else (if (σ 38 2) = (-14) then (VX4_goOn (fun u6 => F 2 (fun u8 => (¬ u8 38 6 = 0) ∧ ∀ x9 : Nat, x9 = (u8 38 6).toNatClampNeg - 1 → (19 ≤ x9 ∧ x9 < 25) ∧ VX9_add (fun u11 => ∀ x12 : Int32, x12 = l2 + 1 → (VX4_readAnd_L7 F K nf) u11 l1 x12) u8 x9 (-14)) u6 l1) σ) else (K σ))
def BX4_readAnd (F : Nat → (Hp → Prop) → Hp → Int32 → Prop) (K : Hp → Prop) (σ : Hp) (a1 : Int32) : Prop := F 2 (fun u2 => ∃ n, VX4_readAnd_L7 F K n u2 a1 0) σ a1
def VX4_readNot_b58 (F : Nat → (Hp → Prop) → Hp → Int32 → Prop) (K : Hp → Prop) (σ : Hp) (l1 : Int32) : Prop := ∀ x14 : Int32, x14 = σ 38 2 → VX4_goOn (fun u16 => F 3 (fun u18 => (¬ u18 38 6 = 0) ∧ ∀ x19 : Nat, x19 = (u18 38 6).toNatClampNeg - 1 → (19 ≤ x19 ∧ x19 < 25) ∧ VX9_add (fun u21 => K u21) u18 x19 x14) u16 l1) σ
def VX4_readNot_b35 (F : Nat → (Hp → Prop) → Hp → Int32 → Prop) (K : Hp → Prop) (σ : Hp) (l1 : Int32) : Prop := F 3 (fun u11 => if (u11 38 2) = (-12) then (VX4_readNot_b58 F K u11 l1) else (if (u11 38 2) = (-13) then (VX4_readNot_b58 F K u11 l1) else (K u11))) σ l1
def BX4_readNot (F : Nat → (Hp → Prop) → Hp → Int32 → Prop) (K : Hp → Prop) (σ : Hp) (a1 : Int32) : Prop := if (σ 38 2) = (-7) then (if 5 ≤ a1 then (VX4_readNot_b35 F K σ a1) else (VX4_goOn (fun u4 => F 2 (fun u6 => (¬ u6 38 6 = 0) ∧ ∀ x7 : Nat, x7 = (u6 38 6).toNatClampNeg - 1 → (19 ≤ x7 ∧ x7 < 25) ∧ VX9_add (fun u9 => K u9) u6 x7 (-7)) u4 (a1 + 1)) σ)) else (VX4_readNot_b35 F K σ a1)
def VX4_readSum_b32 (F : Nat → (Hp → Prop) → Hp → Int32 → Prop) (K : Hp → Prop) (R7 : Hp → Int32 → Int32 → Prop) (σ : Hp) (l1 : Int32) (l2 : Int32) : Prop := ∀ x6 : Int32, x6 = σ 38 2 → VX4_goOn (fun u8 => F 4 (fun u10 => (¬ u10 38 6 = 0) ∧ ∀ x11 : Nat, x11 = (u10 38 6).toNatClampNeg - 1 → (19 ≤ x11 ∧ x11 < 25) ∧ VX9_add (fun u13 => ∀ x14 : Int32, x14 = l2 + 1 → R7 u13 l1 x14) u10 x11 x6) u8 l1) σ
def VX4_readSum_L7 (F : Nat → (Hp → Prop) → Hp → Int32 → Prop) (K : Hp → Prop) : Nat → Hp → Int32 → Int32 → Prop
  | 0, _, _, _ => False
  | nf + 1, σ, l1, l2 => if 160 ≤ l2 then (K σ) else (if (σ 38 2) = (-9) then (VX4_readSum_b32 F K (VX4_readSum_L7 F K nf) σ l1 l2) else (if (σ 38 2) = (-10) then (VX4_readSum_b32 F K (VX4_readSum_L7 F K nf) σ l1 l2) else (K σ)))
def BX4_readSum (F : Nat → (Hp → Prop) → Hp → Int32 → Prop) (K : Hp → Prop) (σ : Hp) (a1 : Int32) : Prop := F 4 (fun u2 => ∃ n, VX4_readSum_L7 F K n u2 a1 0) σ a1
def VX4_readTerm_L7 (F : Nat → (Hp → Prop) → Hp → Int32 → Prop) (K : Hp → Prop) : Nat → Hp → Int32 → Int32 → Prop
  | 0, _, _, _ => False
  | nf + 1, σ, l1, l2 => if 160 ≤ l2 then (K σ) else (if (σ 38 2) = (-11) then (VX4_goOn (fun u6 => F 5 (fun u8 => (¬ u8 38 6 = 0) ∧ ∀ x9 : Nat, x9 = (u8 38 6).toNatClampNeg - 1 → (19 ≤ x9 ∧ x9 < 25) ∧ VX9_add (fun u11 => ∀ x12 : Int32, x12 = l2 + 1 → (VX4_readTerm_L7 F K nf) u11 l1 x12) u8 x9 (-11)) u6 l1) σ) else (K σ))
def BX4_readTerm (F : Nat → (Hp → Prop) → Hp → Int32 → Prop) (K : Hp → Prop) (σ : Hp) (a1 : Int32) : Prop := F 5 (fun u2 => ∃ n, VX4_readTerm_L7 F K n u2 a1 0) σ a1
def VX4_readOne_b98 (F : Nat → (Hp → Prop) → Hp → Int32 → Prop) (K : Hp → Prop) (σ : Hp) : Prop := VX4_fail (fun u25 => K u25) σ
def VX4_readOne_b64 (F : Nat → (Hp → Prop) → Hp → Int32 → Prop) (K : Hp → Prop) (σ : Hp) (l1 : Int32) : Prop := if (σ 38 2) = (-20) then (if 5 ≤ l1 then (VX4_readOne_b98 F K σ) else (VX4_goOn (fun u19 => F 0 (fun u21 => VX4_take (fun u23 => K u23) u21 (-21)) u19 (l1 + 1)) σ)) else (VX4_readOne_b98 F K σ)
def BX4_readOne (F : Nat → (Hp → Prop) → Hp → Int32 → Prop) (K : Hp → Prop) (σ : Hp) (a1 : Int32) : Prop := if (σ 38 2) < (-6) then (if (σ 38 2) = (-10) then (if 5 ≤ a1 then (VX4_readOne_b64 F K σ a1) else (VX4_goOn (fun u5 => F 5 (fun u7 => (¬ u7 38 6 = 0) ∧ ∀ x8 : Nat, x8 = (u7 38 6).toNatClampNeg - 1 → (19 ≤ x8 ∧ x8 < 25) ∧ VX9_add (fun u10 => K u10) u7 x8 (-8)) u5 (a1 + 1)) σ)) else (VX4_readOne_b64 F K σ a1)) else ((¬ σ 38 6 = 0) ∧ ∀ x11 : Nat, x11 = (σ 38 6).toNatClampNeg - 1 → (19 ≤ x11 ∧ x11 < 25) ∧ VX9_add (fun u13 => VX4_goOn (fun u15 => K u15) u13) σ x11 (σ 38 2))
def VREC : Nat → Nat → (Hp → Prop) → Hp → Int32 → Prop
  | 0, _, _, _, _ => False
  | nf + 1, t, K, σ, a1 => if t = 0 then BX4_readOr (VREC nf) K σ a1 else if t = 1 then BX4_readAnd (VREC nf) K σ a1 else if t = 2 then BX4_readNot (VREC nf) K σ a1 else if t = 3 then BX4_readSum (VREC nf) K σ a1 else if t = 4 then BX4_readTerm (VREC nf) K σ a1 else if t = 5 then BX4_readOne (VREC nf) K σ a1 else False
def VX4_readPart (K : Hp → Prop) (σ : Hp) (a1 : Int32) : Prop := VX4_take (fun u2 => VREC 64 0 (fun u4 => (¬ u4 38 6 = 0) ∧ ∀ x5 : Nat, x5 = (u4 38 6).toNatClampNeg - 1 → (19 ≤ x5 ∧ x5 < 25) ∧ VX9_endPart (fun u7 => VX4_take (fun u9 => K u9) u7 (-22)) u4 x5) u2 0) σ a1
def VX9_clear (K : Hp → Prop) (σ : Hp) (o : Nat) : Prop := (19 ≤ o ∧ o < 25) ∧ ∀ u1 : Hp, u1 = hup σ o 3 0 → ∀ u2 : Hp, u2 = hup u1 o 4 0 → K u2
def VX4_read (K : Int32 → Hp → Prop) (σ : Hp) (a1 : Nat) : Prop := (19 ≤ a1 ∧ a1 < 25) ∧ ∀ u1 : Hp, u1 = hup σ 38 6 (nI (a1 + 1)) → (¬ u1 38 6 = 0) ∧ ∀ x2 : Nat, x2 = (u1 38 6).toNatClampNeg - 1 → (19 ≤ x2 ∧ x2 < 25) ∧ (¬ u1 38 6 = 0) ∧ ∀ x3 : Nat, x3 = (u1 38 6).toNatClampNeg - 1 → (19 ≤ x3 ∧ x3 < 25) ∧ VX9_clear (fun u5 => ∀ u6 : Hp, u6 = hup u5 38 5 (-1) → ∀ u7 : Hp, u7 = hup u6 38 4 0 → VX4_goOn (fun u9 => VX4_readPart (fun u11 => VX4_readPart (fun u13 => VX4_readPart (fun u15 => VX4_take (fun u17 => K (u17 38 5) u17) u15 (-30)) u13 (-25)) u11 (-24)) u9 (-23)) u7) u1 x3
def VX6_become_L12 (K : Hp → Prop) (o : Nat) : Nat → Hp → Int32 → Prop
  | 0, _, _ => False
  | nf + 1, σ, l3 => if 40 ≤ l3 then (K σ) else (∀ x4 : Nat, x4 = 45 + 1 * (o - 41) → vp_in l3 40 ∧ ∀ u5 : Hp, u5 = hup σ x4 l3.toNatClampNeg 0 → ∀ x6 : Int32, x6 = l3 + 1 → (VX6_become_L12 K o nf) u5 x6)
def VX6_become (K : Hp → Prop) (σ : Hp) (o : Nat) (a1 : Int32) (a2 : Int32) : Prop := (41 ≤ o ∧ o < 45) ∧ ∀ u1 : Hp, u1 = hup σ o 1 a1 → ∀ u2 : Hp, u2 = hup u1 o 2 a2 → ∃ n, VX6_become_L12 K o n u2 0
def VX6_holds (K : Int32 → Hp → Prop) (σ : Hp) (o : Nat) (a1 : Int32) (a2 : Int32) : Prop := (41 ≤ o ∧ o < 45) ∧ if a1 < 0 then (K 0 σ) else (if a2 < 0 then (K 0 σ) else (if (σ o 2) < a1 then (K 0 σ) else (if ((σ o 2) - a1) < a2 then (K 0 σ) else (K 1 σ))))
def VX6_write (K : Hp → Prop) (σ : Hp) (o : Nat) (a1 : Int32) (a2 : Int32) : Prop := (41 ≤ o ∧ o < 45) ∧ ∀ x1 : Nat, x1 = 45 + 1 * (o - 41) → if (σ o 1) = 0 then (vp_in a1 40 ∧ ∀ u6 : Hp, u6 = hup σ x1 a1.toNatClampNeg a2.toInt8.toInt32 → K u6) else (if (σ o 1) = 1 then (vp_in a1 40 ∧ ∀ u5 : Hp, u5 = hup σ x1 a1.toNatClampNeg a2.toInt16.toInt32 → K u5) else (vp_in a1 40 ∧ ∀ u4 : Hp, u4 = hup σ x1 a1.toNatClampNeg a2 → K u4))
def VX9_becomeNumbers (K : Hp → Prop) (σ : Hp) (o : Nat) (a1 : Int32) (a2 : Int32) (a3 : Int32) : Prop := (19 ≤ o ∧ o < 25) ∧ VX9_clear (fun u2 => VX9_add (fun u4 => VX9_endPart (fun u6 => VX9_add (fun u8 => VX9_endPart (fun u10 => VX9_add (fun u12 => VX9_endPart (fun u14 => K u14) u12 o) u10 o a3) u8 o) u6 o a2) u4 o) u2 o a1) σ o
def VX11_isAnyThingIn_L2 (K : Int32 → Hp → Prop) : Nat → Hp → Int32 → Int32 → Prop
  | 0, _, _, _ => False
  | nf + 1, σ, l1, l2 => if (σ 1 5) ≤ l2 then (K 0 σ) else (vp_in l2 5 ∧ if (σ 5 l2.toNatClampNeg) = l1 then (K 1 σ) else (∀ x3 : Int32, x3 = l2 + 1 → (VX11_isAnyThingIn_L2 K nf) σ l1 x3))
def VX11_isAnyThingIn (K : Int32 → Hp → Prop) (σ : Hp) (a1 : Int32) : Prop := ∃ n, VX11_isAnyThingIn_L2 K n σ a1 0
def VX11_isCell (K : Int32 → Hp → Prop) (σ : Hp) (a1 : Int32) : Prop := if a1 < 0 then (K 0 σ) else (if 30 ≤ a1 then (K 0 σ) else (K 1 σ))
def VX11_house_b70 (K : Int32 → Hp → Prop) (σ : Hp) (l1 : Int32) (l2 : Int32) (l3 : Int32) (s0 : Int32) : Prop := if s0 = l3 then (K s0 σ) else (VX3_flip (fun u20 => K s0 u20) σ 1 l1 l2)
def VX11_house_b50 (K : Int32 → Hp → Prop) (σ : Hp) (l1 : Int32) (l2 : Int32) (l3 : Int32) : Prop := VX3_bits (fun v13 u14 => VX11_has (fun v15 u16 => if v15 = 0 then (VX11_house_b70 K u16 l1 l2 l3 0) else (VX11_house_b70 K u16 l1 l2 l3 1)) u14 v13 l2) σ 1 l1
def VX11_house (K : Int32 → Hp → Prop) (σ : Hp) (a1 : Int32) (a2 : Int32) (a3 : Int32) : Prop := if a1 < 0 then (K (-1) σ) else (if a1 ≤ 2 then (VX11_isCell (fun v3 u4 => if v3 = 0 then (K (-2) u4) else (if a3 < 0 then (K (-2) u4) else (if a3 ≤ 1 then (if a1 = 0 then (if a3 = 1 then (VX11_isAnyThingIn (fun v10 u11 => if v10 = 0 then (VX11_house_b50 K u11 a1 a2 a3) else (K (-3) u11)) u4 a2) else (VX11_house_b50 K u4 a1 a2 a3)) else (VX11_house_b50 K u4 a1 a2 a3)) else (K (-2) u4)))) σ a2) else (K (-1) σ))
def VX11_isStep (K : Int32 → Hp → Prop) (σ : Hp) (a1 : Int32) : Prop := if a1 < 0 then (K 0 σ) else (if 99 < a1 then (K 0 σ) else (K 1 σ))
def VX11_set (K : Int32 → Hp → Prop) (σ : Hp) (a1 : Int32) : Prop := VX11_isStep (fun v1 u2 => if v1 = 0 then (K (-2) u2) else (∀ x4 : Int32, x4 = u2 1 3 → ∀ u5 : Hp, u5 = hup u2 1 3 a1 → K x4 u5)) σ a1
def VX11_count (K : Int32 → Hp → Prop) (σ : Hp) (a1 : Int32) : Prop := if a1 = 0 then (K (σ 1 5) σ) else (if a1 = 1 then (K (σ 1 0) σ) else (if a1 = 2 then (K (σ 1 1) σ) else (if a1 = 3 then (K (σ 1 2) σ) else (if a1 = 4 then (K (σ 1 3) σ) else (if a1 = 5 then (K (σ 0 5) σ) else (if a1 = 6 then (K (σ 1 4) σ) else (if a1 = 7 then (K (σ 38 1) σ) else (K (-2) σ))))))))
def VX11_isByte (K : Int32 → Hp → Prop) (σ : Hp) (a1 : Int32) : Prop := if a1 < 0 then (K 0 σ) else (if 255 < a1 then (K 0 σ) else (K 1 σ))
def VX11_feed_b128 (K : Int32 → Hp → Prop) (R75 : Hp → Int32 → Int32 → Int32 → Int32 → Int32 → Int32 → Int32 → Prop) (σ : Hp) (l1 : Int32) (l2 : Int32) (l3 : Int32) (l4 : Int32) (l5 : Int32) (l6 : Int32) (l7 : Int32) (s0 : Int32) : Prop := VX4_add (fun u25 => ∀ x26 : Int32, x26 = l7 + 1 → R75 u25 l1 l2 l3 l4 l5 l6 x26) σ s0
def VX11_feed_L75 (K : Int32 → Hp → Prop) : Nat → Hp → Int32 → Int32 → Int32 → Int32 → Int32 → Int32 → Int32 → Prop
  | 0, _, _, _, _, _, _, _, _ => False
  | nf + 1, σ, l1, l2, l3, l4, l5, l6, l7 => if l1 ≤ l7 then (K (σ 38 1) σ) else (if l7 = 0 then (VX11_feed_b128 K (VX11_feed_L75 K nf) σ l1 l2 l3 l4 l5 l6 l7 l2) else (if l7 = 1 then (VX11_feed_b128 K (VX11_feed_L75 K nf) σ l1 l2 l3 l4 l5 l6 l7 l3) else (if l7 = 2 then (VX11_feed_b128 K (VX11_feed_L75 K nf) σ l1 l2 l3 l4 l5 l6 l7 l4) else (if l7 = 3 then (VX11_feed_b128 K (VX11_feed_L75 K nf) σ l1 l2 l3 l4 l5 l6 l7 l5) else (VX11_feed_b128 K (VX11_feed_L75 K nf) σ l1 l2 l3 l4 l5 l6 l7 l6)))))
def VX11_feed (K : Int32 → Hp → Prop) (σ : Hp) (a1 : Int32) (a2 : Int32) (a3 : Int32) (a4 : Int32) (a5 : Int32) (a6 : Int32) : Prop := if a1 < 1 then (K (-2) σ) else (if a1 ≤ 5 then (VX11_isByte (fun v3 u4 => if v3 = 0 then (K (-2) u4) else (VX11_isByte (fun v6 u7 => if v6 = 0 then (K (-2) u7) else (VX11_isByte (fun v9 u10 => if v9 = 0 then (K (-2) u10) else (VX11_isByte (fun v12 u13 => if v12 = 0 then (K (-2) u13) else (VX11_isByte (fun v15 u16 => if v15 = 0 then (K (-2) u16) else (if ((u16 38 1) + a1) ≤ 160 then (∃ n, VX11_feed_L75 K n u16 a1 a2 a3 a4 a5 a6 0) else (K (-4) u16))) u13 a6)) u10 a5)) u7 a4)) u4 a3)) σ a2) else (K (-2) σ))
def VX11_text (K : Int32 → Hp → Prop) (σ : Hp)  : Prop := if (σ 0 5) < 6 then (vp_in (σ 0 5) 6 ∧ ∀ x2 : Nat, x2 = 19 + (σ 0 5).toNatClampNeg → VX4_read (fun v3 u4 => ∀ u5 : Hp, u5 = hup u4 38 1 0 → if v3 < 0 then (∀ u7 : Hp, u7 = hup u5 0 5 ((u5 0 5) + 1) → K ((u7 0 5) - 1) u7) else (K ((-100) - v3) u5)) σ x2) else (K (-4) σ)
def VX11_force (K : Int32 → Hp → Prop) (σ : Hp) (a1 : Int32) : Prop := if a1 < 0 then (K (-2) σ) else (if a1 < (σ 0 5) then (∀ x3 : Int32, x3 = σ 1 4 → ∀ u4 : Hp, u4 = hup σ 1 4 a1 → K x3 u4) else (K (-2) σ))
def VX11_law (K : Nat → Hp → Prop) (σ : Hp)  : Prop := vp_in (σ 1 4) 6 ∧ ∀ x1 : Nat, x1 = 19 + (σ 1 4).toNatClampNeg → K x1 σ
def VX11_asks (K : Int32 → Hp → Prop) (σ : Hp) (a1 : Int32) (a2 : Int32) (a3 : Int32) (a4 : Int32) : Prop := if a1 < 0 then (K (-2) σ) else (if 3 ≤ a1 then (K (-2) σ) else (VX11_isCell (fun v3 u4 => if v3 = 0 then (K (-2) u4) else (VX11_isStep (fun v6 u7 => if v6 = 0 then (K (-2) u7) else (if a4 < 0 then (K (-2) u7) else (if a4 ≤ 99 then (VX11_law (fun v11 u12 => (19 ≤ v11 ∧ v11 < 25) ∧ VX9_says (fun v13 u14 => K v13 u14) u12 v11 a1 a2 a3 (a4 / 10) (jrem a4 10)) u7) else (K (-2) u7)))) u4 a3)) σ a2))
def VX11_isOpen (K : Int32 → Hp → Prop) (σ : Hp) (a1 : Int32) : Prop := VX11_isCell (fun v1 u2 => if v1 = 0 then (K 0 u2) else (VX11_has (fun v4 u5 => if v4 = 0 then (K 1 u5) else (K 0 u5)) u2 (u2 1 0) a1)) σ a1
def VX11_isWay (K : Int32 → Hp → Prop) (σ : Hp) (a1 : Int32) : Prop := if a1 < 0 then (K 0 σ) else (if 5 ≤ a1 then (K 0 σ) else (K 1 σ))
def VX11_thing (K : Int32 → Hp → Prop) (σ : Hp) (a1 : Int32) (a2 : Int32) (a3 : Int32) : Prop := if a1 < 0 then (K (-2) σ) else (if 60 ≤ a1 then (K (-2) σ) else (VX11_isOpen (fun v3 u4 => if v3 = 0 then (K (-2) u4) else (VX11_isWay (fun v6 u7 => if v6 = 0 then (K (-2) u7) else (∀ x9 : Int32, x9 = u7 1 5 → if x9 < 5 then (vp_in x9 5 ∧ ∀ u11 : Hp, u11 = hup u7 3 x9.toNatClampNeg (a1 / 10) → vp_in x9 5 ∧ ∀ u12 : Hp, u12 = hup u11 4 x9.toNatClampNeg (jrem a1 10) → vp_in x9 5 ∧ ∀ u13 : Hp, u13 = hup u12 5 x9.toNatClampNeg a2 → vp_in x9 5 ∧ ∀ u14 : Hp, u14 = hup u13 6 x9.toNatClampNeg a3 → ∀ u15 : Hp, u15 = hup u14 1 5 (x9 + 1) → K x9 u15) else (K (-4) u7))) u4 a3)) σ a2))
def VX11_isThing (K : Int32 → Hp → Prop) (σ : Hp) (a1 : Int32) : Prop := if a1 < 0 then (K 0 σ) else (if (σ 1 5) ≤ a1 then (K 0 σ) else (K 1 σ))
def VX11_put (K : Int32 → Hp → Prop) (σ : Hp) (a1 : Int32) (a2 : Int32) (a3 : Int32) : Prop := VX11_isThing (fun v1 u2 => if v1 = 0 then (K (-5) u2) else (VX11_isOpen (fun v4 u5 => if v4 = 0 then (K (-7) u5) else (VX11_isWay (fun v7 u8 => if v7 = 0 then (K (-7) u8) else (vp_in a1 5 ∧ ∀ x10 : Int32, x10 = u8 5 a1.toNatClampNeg → vp_in a1 5 ∧ ∀ u11 : Hp, u11 = hup u8 5 a1.toNatClampNeg a2 → vp_in a1 5 ∧ ∀ u12 : Hp, u12 = hup u11 6 a1.toNatClampNeg a3 → K x10 u12)) u5 a3)) u2 a2)) σ a1
def VX11_told (K : Int32 → Hp → Prop) (σ : Hp) (a1 : Int32) (a2 : Int32) : Prop := VX11_isThing (fun v1 u2 => if v1 = 0 then (K (-5) u2) else (if a2 = 0 then (vp_in a1 5 ∧ K (u2 5 a1.toNatClampNeg) u2) else (if a2 = 1 then (vp_in a1 5 ∧ K (u2 6 a1.toNatClampNeg) u2) else (if a2 = 2 then (vp_in a1 5 ∧ K (u2 3 a1.toNatClampNeg) u2) else (if a2 = 3 then (vp_in a1 5 ∧ K (u2 4 a1.toNatClampNeg) u2) else (K (-7) u2)))))) σ a1
def VX11_lift (K : Nat → Hp → Prop) (σ : Hp) (a1 : Int32) : Prop := VX11_law (fun v1 u2 => (19 ≤ v1 ∧ v1 < 25) ∧ ∀ u3 : Hp, u3 = hup u2 49 1 (nI (v1 + 1)) → ∀ u4 : Hp, u4 = hup u3 49 3 (u3 1 1) → ∀ u5 : Hp, u5 = hup u4 49 4 a1 → vp_in a1 5 ∧ vp_in (u5 3 a1.toNatClampNeg) 6 ∧ ∀ x6 : Nat, x6 = 12 + (u5 3 a1.toNatClampNeg).toNatClampNeg → ∀ u7 : Hp, u7 = hup u5 49 2 (nI (x6 + 1)) → vp_in a1 5 ∧ ∀ u8 : Hp, u8 = hup u7 49 5 (u7 4 a1.toNatClampNeg) → vp_in a1 5 ∧ ∀ u9 : Hp, u9 = hup u8 49 6 (u8 5 a1.toNatClampNeg) → vp_in a1 5 ∧ ∀ u10 : Hp, u10 = hup u9 49 7 (u9 6 a1.toNatClampNeg) → K 49 u10) σ
def VX11_behind (K : Nat → Hp → Prop) (σ : Hp) (a1 : Int32) (a2 : Int32) : Prop := VX11_lift (fun v1 u2 => v1 = 49 ∧ VX1_passAll (fun u4 => K 49 u4) u2 (u2 1 3) a1) σ a2
def VX11_isBehind (K : Int32 → Hp → Prop) (σ : Hp) (a1 : Int32) : Prop := if a1 < 0 then (K 0 σ) else (if 40 < a1 then (K 0 σ) else (K 1 σ))
def VX11_isChoice (K : Int32 → Hp → Prop) (σ : Hp) (a1 : Int32) : Prop := if a1 = 0 then (K 1 σ) else (if a1 = 1 then (K 1 σ) else (K 0 σ))
def VX11_at (K : Int32 → Hp → Prop) (σ : Hp) (a1 : Int32) (a2 : Int32) (a3 : Int32) : Prop := VX11_isBehind (fun v1 u2 => if v1 = 0 then (K (-5) u2) else (VX11_isThing (fun v4 u5 => if v4 = 0 then (K (-5) u5) else (VX11_isChoice (fun v7 u8 => if v7 = 0 then (K (-7) u8) else (VX11_behind (fun v10 u11 => v10 = 49 ∧ if a3 = 0 then (K (u11 49 6) u11) else (K (u11 49 7) u11)) u8 a1 a2)) u5 a3)) u2 a2)) σ a1
def VX11_run_L14 (K : Int32 → Hp → Prop) : Nat → Hp → Int32 → Int32 → Int32 → Prop
  | 0, _, _, _, _ => False
  | nf + 1, σ, l1, l2, l3 => if (σ 1 5) ≤ l3 then (∀ u5 : Hp, u5 = hup σ 1 3 (if 99 < ((σ 1 3) + l1) then 99 else ((σ 1 3) + l1)) → K l2 u5) else (VX11_behind (fun v6 u7 => v6 = 49 ∧ vp_in l3 5 ∧ ∀ u8 : Hp, u8 = hup u7 5 l3.toNatClampNeg (u7 49 6) → vp_in l3 5 ∧ ∀ u9 : Hp, u9 = hup u8 6 l3.toNatClampNeg (u8 49 7) → if (u9 49 7) = 4 then (∀ x13 : Int32, x13 = l2 + 1 → ∀ x14 : Int32, x14 = l3 + 1 → (VX11_run_L14 K nf) u9 l1 x13 x14) else (∀ x11 : Int32, x11 = l2 + 0 → ∀ x12 : Int32, x12 = l3 + 1 → (VX11_run_L14 K nf) u9 l1 x11 x12)) σ l1 l3)
def VX11_run (K : Int32 → Hp → Prop) (σ : Hp) (a1 : Int32) : Prop := VX11_isBehind (fun v1 u2 => if v1 = 0 then (K (-2) u2) else (∃ n, VX11_run_L14 K n u2 a1 0 0)) σ a1
def VX11_firstIn_L2 (K : Int32 → Hp → Prop) : Nat → Hp → Int32 → Int32 → Prop
  | 0, _, _, _ => False
  | nf + 1, σ, l1, l2 => if 40 < l2 then (K (-1) σ) else (vp_in l2 41 ∧ if (σ 50 l2.toNatClampNeg) = l1 then (K l2 σ) else (∀ x3 : Int32, x3 = l2 + 1 → (VX11_firstIn_L2 K nf) σ l1 x3))
def VX11_firstIn (K : Int32 → Hp → Prop) (σ : Hp) (a1 : Int32) : Prop := ∃ n, VX11_firstIn_L2 K n σ a1 0
def VX11_turned (K : Int32 → Hp → Prop) (σ : Hp) (a1 : Int32) : Prop := if a1 = 4 then (K 4 σ) else (K (jrem (a1 + 1) 4) σ)
def VX11_followTurned_b34 (K : Hp → Prop) (R2 : Hp → Int32 → Int32 → Prop) (a1 : Nat) (σ : Hp) (l2 : Int32) (l3 : Int32) : Prop := VX1_pass (fun u8 => ∀ x9 : Int32, x9 = l3 + 1 → R2 u8 l2 x9) σ ((σ 1 3) + l3)
def VX11_followTurned_L2 (K : Hp → Prop) (a1 : Nat) : Nat → Hp → Int32 → Int32 → Prop
  | 0, _, _, _ => False
  | nf + 1, σ, l2, l3 => if 40 < l3 then (K σ) else (vp_in l3 41 ∧ ∀ u2 : Hp, u2 = hup σ 50 l3.toNatClampNeg (σ 49 6) → if l3 = l2 then (VX11_turned (fun v4 u5 => ∀ u6 : Hp, u6 = hup u5 49 7 v4 → VX11_followTurned_b34 K (VX11_followTurned_L2 K a1 nf) a1 u6 l2 l3) u2 (u2 49 7)) else (VX11_followTurned_b34 K (VX11_followTurned_L2 K a1 nf) a1 u2 l2 l3))
def VX11_followTurned (K : Hp → Prop) (σ : Hp) (a1 : Nat) (a2 : Int32) : Prop := (49 ≤ a1 ∧ a1 < 50) ∧ ∃ n, VX11_followTurned_L2 K a1 n σ a2 0
def VX11_follow (K : Hp → Prop) (σ : Hp) (a1 : Nat) : Prop := (49 ≤ a1 ∧ a1 < 50) ∧ VX11_followTurned (fun u2 => K u2) σ 49 (-1)
def VX11_when (K : Int32 → Hp → Prop) (σ : Hp) (a1 : Int32) (a2 : Int32) : Prop := VX11_isThing (fun v1 u2 => if v1 = 0 then (K (-5) u2) else (VX11_isCell (fun v4 u5 => if v4 = 0 then (K (-7) u5) else (VX11_lift (fun v7 u8 => v7 = 49 ∧ VX11_follow (fun u10 => VX11_firstIn (fun v11 u12 => K v11 u12) u10 a2) u8 49) u5 a1)) u2 a2)) σ a1
def VX11_meet_L42 (K : Int32 → Hp → Prop) : Nat → Hp → Int32 → Prop
  | 0, _, _ => False
  | nf + 1, σ, l4 => if 40 < l4 then (K (-1) σ) else (vp_in l4 41 ∧ if (σ 49 6) = (σ 50 l4.toNatClampNeg) then (K l4 σ) else (VX1_pass (fun u17 => ∀ x18 : Int32, x18 = l4 + 1 → (VX11_meet_L42 K nf) u17 x18) σ ((σ 1 3) + l4)))
def VX11_meet (K : Int32 → Hp → Prop) (σ : Hp) (a1 : Int32) (a2 : Int32) : Prop := VX11_isThing (fun v1 u2 => if v1 = 0 then (K (-5) u2) else (VX11_isThing (fun v4 u5 => if v4 = 0 then (K (-5) u5) else (if a1 = a2 then (K (-5) u5) else (VX11_lift (fun v8 u9 => v8 = 49 ∧ VX11_follow (fun u11 => VX11_lift (fun v12 u13 => v12 = 49 ∧ ∃ n, VX11_meet_L42 K n u13 0) u11 a2) u9 49) u5 a1))) u2 a2)) σ a1
def VX11_inside_L25 (K : Int32 → Hp → Prop) : Nat → Hp → Int32 → Int32 → Int32 → Int32 → Prop
  | 0, _, _, _, _, _ => False
  | nf + 1, σ, l1, l2, l3, l4 => if (σ 1 5) ≤ l4 then (K l3 σ) else (VX11_behind (fun v8 u9 => v8 = 49 ∧ if (u9 49 6) = l2 then (∀ x13 : Int32, x13 = l3 ||| (1 <<< (l4 &&& 31)) → ∀ x14 : Int32, x14 = l4 + 1 → (VX11_inside_L25 K nf) u9 l1 l2 x13 x14) else (∀ x11 : Int32, x11 = l3 ||| 0 → ∀ x12 : Int32, x12 = l4 + 1 → (VX11_inside_L25 K nf) u9 l1 l2 x11 x12)) σ l1 l4)
def VX11_inside (K : Int32 → Hp → Prop) (σ : Hp) (a1 : Int32) (a2 : Int32) : Prop := VX11_isBehind (fun v1 u2 => if v1 = 0 then (K (-5) u2) else (VX11_isCell (fun v4 u5 => if v4 = 0 then (K (-7) u5) else (∃ n, VX11_inside_L25 K n u5 a1 a2 0 0)) u2 a2)) σ a1
def VX11_measure_L53 (K : Hp → Prop) (R39 : Hp → Int32 → Int32 → Prop) : Nat → Hp → Int32 → Int32 → Int32 → Prop
  | 0, _, _, _, _ => False
  | nf + 1, σ, l2, l3, l4 => if 4 ≤ l4 then (∀ x9 : Int32, x9 = l3 + 1 → R39 σ l2 x9) else (vp_in l3 30 ∧ VX3_beyond (fun v10 u11 => if v10 < 0 then (∀ x13 : Int32, x13 = l4 + 1 → (VX11_measure_L53 K R39 nf) u11 l2 l3 x13) else (vp_in v10 30 ∧ if 0 ≤ (u11 51 v10.toNatClampNeg) then (∀ x15 : Int32, x15 = l4 + 1 → (VX11_measure_L53 K R39 nf) u11 l2 l3 x15) else (if 30 ≤ l2 then (∀ x17 : Int32, x17 = l4 + 1 → (VX11_measure_L53 K R39 nf) u11 l2 l3 x17) else (vp_in l3 30 ∧ vp_in (u11 52 l3.toNatClampNeg) 30 ∧ vp_in v10 30 ∧ ∀ u18 : Hp, u18 = hup u11 51 v10.toNatClampNeg ((u11 51 (u11 52 l3.toNatClampNeg).toNatClampNeg) + 1) → vp_in l2 30 ∧ ∀ u19 : Hp, u19 = hup u18 52 l2.toNatClampNeg v10 → ∀ x20 : Int32, x20 = l2 + 1 → ∀ x21 : Int32, x21 = l4 + 1 → (VX11_measure_L53 K R39 nf) u19 x20 l3 x21)))) σ 1 (σ 52 l3.toNatClampNeg) l4)
def VX11_measure_L39 (K : Hp → Prop) : Nat → Hp → Int32 → Int32 → Prop
  | 0, _, _, _ => False
  | nf + 1, σ, l2, l3 => if l2 ≤ l3 then (K σ) else (if 30 ≤ l3 then (K σ) else (∃ n, VX11_measure_L53 K (VX11_measure_L39 K nf) n σ l2 l3 0))
def VX11_measure_L2 (K : Hp → Prop) : Nat → Hp → Int32 → Int32 → Prop
  | 0, _, _, _ => False
  | nf + 1, σ, l1, l2 => if 30 ≤ l2 then (vp_in l1 30 ∧ ∀ u2 : Hp, u2 = hup σ 51 l1.toNatClampNeg 0 → ∀ u3 : Hp, u3 = hup u2 52 0 l1 → ∃ n, VX11_measure_L39 K n u3 1 0) else (vp_in l2 30 ∧ ∀ u4 : Hp, u4 = hup σ 51 l2.toNatClampNeg (-1) → ∀ x5 : Int32, x5 = l2 + 1 → (VX11_measure_L2 K nf) u4 l1 x5)
def VX11_measure (K : Hp → Prop) (σ : Hp) (a1 : Int32) : Prop := ∃ n, VX11_measure_L2 K n σ a1 0
def VX11_says (K : Int32 → Hp → Prop) (σ : Hp) (a1 : Int32) (a2 : Int32) (a3 : Int32) : Prop := VX11_law (fun v1 u2 => (19 ≤ v1 ∧ v1 < 25) ∧ vp_in a3 5 ∧ VX9_says (fun v3 u4 => K v3 u4) u2 v1 a1 a2 (u2 1 3) a3 (u2 4 a3.toNatClampNeg)) σ
def VX11_soonest_L11 (K : Int32 → Hp → Prop) : Nat → Hp → Int32 → Int32 → Prop
  | 0, _, _, _ => False
  | nf + 1, σ, l3, l4 => if 40 < l4 then (K (-1) σ) else (vp_in l4 41 ∧ vp_in (σ 50 l4.toNatClampNeg) 30 ∧ ∀ x4 : Int32, x4 = σ 51 (σ 50 l4.toNatClampNeg).toNatClampNeg → if x4 < 0 then (∀ x6 : Int32, x6 = l4 + 1 → (VX11_soonest_L11 K nf) σ l3 x6) else (if (l4 * l3) < x4 then (∀ x8 : Int32, x8 = l4 + 1 → (VX11_soonest_L11 K nf) σ l3 x8) else (K l4 σ)))
def VX11_soonest (K : Int32 → Hp → Prop) (σ : Hp) (a1 : Int32) (a2 : Int32) : Prop := VX11_says (fun v1 u2 => ∃ n, VX11_soonest_L11 K n u2 v1 0) σ 2 a1 a2
def VX11_hand (K : Int32 → Hp → Prop) (σ : Hp) (a1 : Int32) (a2 : Int32) : Prop := VX11_isOpen (fun v1 u2 => if v1 = 0 then (K (-5) u2) else (VX11_isThing (fun v4 u5 => if v4 = 0 then (K (-5) u5) else (VX11_measure (fun u8 => VX11_lift (fun v9 u10 => v9 = 49 ∧ VX11_follow (fun u12 => VX11_soonest (fun v13 u14 => K v13 u14) u12 a1 a2) u10 49) u8 a2) u5 a1)) u2 a2)) σ a1
def VX11_first_b110 (K : Int32 → Hp → Prop) (R34 : Hp → Int32 → Int32 → Int32 → Int32 → Int32 → Prop) (σ : Hp) (l1 : Int32) (l2 : Int32) (l5 : Int32) (l7 : Int32) : Prop := ∀ x24 : Int32, x24 = l5 + 1 → R34 σ l1 l2 l5 l7 x24
def VX11_first_b92 (K : Int32 → Hp → Prop) (R34 : Hp → Int32 → Int32 → Int32 → Int32 → Int32 → Prop) (σ : Hp) (l1 : Int32) (l2 : Int32) (l3 : Int32) (l4 : Int32) (l5 : Int32) (l6 : Int32) (s0 : Int32) : Prop := if l6 < 0 then (∀ x20 : Int32, x20 = l5 + 1 → R34 σ l1 l2 l3 l4 x20) else (if l3 < 0 then (VX11_first_b110 K R34 σ l1 l2 l5 s0) else (if s0 ≤ l4 then (∀ x23 : Int32, x23 = l5 + 1 → R34 σ l1 l2 l3 l4 x23) else (VX11_first_b110 K R34 σ l1 l2 l5 s0)))
def VX11_first_L34 (K : Int32 → Hp → Prop) : Nat → Hp → Int32 → Int32 → Int32 → Int32 → Int32 → Prop
  | 0, _, _, _, _, _, _ => False
  | nf + 1, σ, l1, l2, l3, l4, l5 => if (σ 1 5) ≤ l5 then (K l3 σ) else (VX11_lift (fun v10 u11 => v10 = 49 ∧ VX11_follow (fun u13 => VX11_soonest (fun v14 u15 => if l2 = 0 then (VX11_first_b92 K (VX11_first_L34 K nf) u15 l1 l2 l3 l4 l5 v14 (-v14)) else (vp_in l5 5 ∧ VX11_says (fun v17 u18 => VX11_first_b92 K (VX11_first_L34 K nf) u18 l1 l2 l3 l4 l5 v14 v17) u15 1 (u15 5 l5.toNatClampNeg) l5)) u13 l1 l5) u11 49) σ l5)
def VX11_first (K : Int32 → Hp → Prop) (σ : Hp) (a1 : Int32) (a2 : Int32) : Prop := VX11_isOpen (fun v1 u2 => if v1 = 0 then (K (-5) u2) else (VX11_isChoice (fun v4 u5 => if v4 = 0 then (K (-7) u5) else (VX11_measure (fun u8 => ∃ n, VX11_first_L34 K n u8 a1 a2 (-1) 0 0) u5 a1)) u2 a2)) σ a1
def VX11_wait_b103 (K : Int32 → Hp → Prop) (R38 : Hp → Int32 → Int32 → Int32 → Int32 → Int32 → Prop) (σ : Hp) (l1 : Int32) (l2 : Int32) (l5 : Int32) (l6 : Int32) : Prop := ∀ x28 : Int32, x28 = l5 + 1 → R38 σ l1 l2 l5 l6 x28
def VX11_wait_L38 (K : Int32 → Hp → Prop) : Nat → Hp → Int32 → Int32 → Int32 → Int32 → Int32 → Prop
  | 0, _, _, _, _, _, _ => False
  | nf + 1, σ, l1, l2, l3, l4, l5 => if 30 ≤ l5 then (if l2 = 0 then (K l3 σ) else (K l4 σ)) else (VX11_isOpen (fun v13 u14 => if v13 = 0 then (∀ x16 : Int32, x16 = l5 + 1 → (VX11_wait_L38 K nf) u14 l1 l2 l3 l4 x16) else (vp_in l1 5 ∧ if l5 = (u14 5 l1.toNatClampNeg) then (∀ x27 : Int32, x27 = l5 + 1 → (VX11_wait_L38 K nf) u14 l1 l2 l3 l4 x27) else (VX11_measure (fun u19 => VX11_soonest (fun v20 u21 => if v20 < 0 then (∀ x23 : Int32, x23 = l5 + 1 → (VX11_wait_L38 K nf) u21 l1 l2 l3 l4 x23) else (if l4 < 0 then (VX11_wait_b103 K (VX11_wait_L38 K nf) u21 l1 l2 l5 v20) else (if l4 ≤ v20 then (∀ x26 : Int32, x26 = l5 + 1 → (VX11_wait_L38 K nf) u21 l1 l2 l3 l4 x26) else (VX11_wait_b103 K (VX11_wait_L38 K nf) u21 l1 l2 l5 v20)))) u19 l5 l1) u14 l5))) σ l5)
def VX11_wait (K : Int32 → Hp → Prop) (σ : Hp) (a1 : Int32) (a2 : Int32) : Prop := VX11_isThing (fun v1 u2 => if v1 = 0 then (K (-5) u2) else (VX11_isChoice (fun v4 u5 => if v4 = 0 then (K (-7) u5) else (VX11_lift (fun v7 u8 => v7 = 49 ∧ VX11_follow (fun u10 => ∃ n, VX11_wait_L38 K n u10 a1 a2 (-1) (-1) 0) u8 49) u5 a1)) u2 a2)) σ a1
def VX11_letGo (K : Nat → Hp → Prop) (σ : Hp) (a1 : Int32) (a2 : Int32) : Prop := VX11_lift (fun v1 u2 => v1 = 49 ∧ ∀ u3 : Hp, u3 = hup u2 49 7 a2 → K 49 u3) σ a1
def VX11_toss_b112 (K : Int32 → Hp → Prop) (R55 : Hp → Int32 → Int32 → Int32 → Int32 → Int32 → Int32 → Prop) (σ : Hp) (l1 : Int32) (l2 : Int32) (l3 : Int32) (l6 : Int32) (l8 : Int32) : Prop := ∀ x28 : Int32, x28 = l6 + 1 → R55 σ l1 l2 l3 l6 l8 x28
def VX11_toss_L55 (K : Int32 → Hp → Prop) : Nat → Hp → Int32 → Int32 → Int32 → Int32 → Int32 → Int32 → Prop
  | 0, _, _, _, _, _, _, _ => False
  | nf + 1, σ, l1, l2, l3, l4, l5, l6 => if 4 ≤ l6 then (if l3 = 0 then (K l4 σ) else (K l5 σ)) else (VX11_letGo (fun v16 u17 => v16 = 49 ∧ ∀ u18 : Hp, u18 = hup u17 49 6 (l2 / 100) → VX11_follow (fun u20 => VX11_firstIn (fun v21 u22 => if v21 < 0 then (∀ x24 : Int32, x24 = l6 + 1 → (VX11_toss_L55 K nf) u22 l1 l2 l3 l4 l5 x24) else (if l5 < 0 then (VX11_toss_b112 K (VX11_toss_L55 K nf) u22 l1 l2 l3 l6 v21) else (if l5 ≤ v21 then (∀ x27 : Int32, x27 = l6 + 1 → (VX11_toss_L55 K nf) u22 l1 l2 l3 l4 l5 x27) else (VX11_toss_b112 K (VX11_toss_L55 K nf) u22 l1 l2 l3 l6 v21)))) u20 (jrem l2 100)) u18 49) σ l1 l6)
def VX11_toss (K : Int32 → Hp → Prop) (σ : Hp) (a1 : Int32) (a2 : Int32) (a3 : Int32) : Prop := VX11_isThing (fun v1 u2 => if v1 = 0 then (K (-5) u2) else (if a2 < 0 then (K (-7) u2) else (VX11_isOpen (fun v5 u6 => if v5 = 0 then (K (-7) u6) else (VX11_isCell (fun v8 u9 => if v8 = 0 then (K (-7) u9) else (VX11_isChoice (fun v11 u12 => if v11 = 0 then (K (-7) u12) else (∃ n, VX11_toss_L55 K n u12 a1 a2 a3 (-1) (-1) 0)) u9 a3)) u6 (jrem a2 100))) u2 (a2 / 100)))) σ a1
def VX11_key_b34 (K : Int32 → Hp → Prop) (R4 : Hp → Int32 → Int32 → Prop) (σ : Hp) (l2 : Int32) (s0 : Int32) (s1 : Int32) : Prop := ∀ x3 : Int32, x3 = s1 + s0 → vp_in l2 5 ∧ VX11_turned (fun v4 u5 => vp_in l2 5 ∧ ∀ u6 : Hp, u6 = hup u5 6 l2.toNatClampNeg v4 → ∀ x7 : Int32, x7 = l2 + 1 → R4 u6 x3 x7) σ (σ 6 l2.toNatClampNeg)
def VX11_key_L4 (K : Int32 → Hp → Prop) : Nat → Hp → Int32 → Int32 → Prop
  | 0, _, _, _ => False
  | nf + 1, σ, l1, l2 => if (σ 1 5) ≤ l2 then (K l1 σ) else (vp_in l2 5 ∧ if (σ 6 l2.toNatClampNeg) = 4 then (VX11_key_b34 K (VX11_key_L4 K nf) σ l2 0 l1) else (VX11_key_b34 K (VX11_key_L4 K nf) σ l2 1 l1))
def VX11_key (K : Int32 → Hp → Prop) (σ : Hp)  : Prop := ∃ n, VX11_key_L4 K n σ 0 0
def VX11_turn_b92 (K : Int32 → Hp → Prop) (R50 : Hp → Int32 → Int32 → Int32 → Int32 → Int32 → Int32 → Prop) (σ : Hp) (l1 : Int32) (l2 : Int32) (l3 : Int32) (l6 : Int32) (l7 : Int32) : Prop := ∀ x29 : Int32, x29 = l6 + 1 → R50 σ l1 l2 l3 l7 l6 x29
def VX11_turn_L50 (K : Int32 → Hp → Prop) : Nat → Hp → Int32 → Int32 → Int32 → Int32 → Int32 → Int32 → Prop
  | 0, _, _, _, _, _, _, _ => False
  | nf + 1, σ, l1, l2, l3, l4, l5, l6 => if 20 < l6 then (if l3 = 0 then (K l5 σ) else (K l4 σ)) else (VX11_lift (fun v18 u19 => v18 = 49 ∧ VX11_followTurned (fun u21 => VX11_firstIn (fun v22 u23 => if v22 < 0 then (∀ x25 : Int32, x25 = l6 + 1 → (VX11_turn_L50 K nf) u23 l1 l2 l3 l4 l5 x25) else (if l4 < 0 then (VX11_turn_b92 K (VX11_turn_L50 K nf) u23 l1 l2 l3 l6 v22) else (if l4 ≤ v22 then (∀ x28 : Int32, x28 = l6 + 1 → (VX11_turn_L50 K nf) u23 l1 l2 l3 l4 l5 x28) else (VX11_turn_b92 K (VX11_turn_L50 K nf) u23 l1 l2 l3 l6 v22)))) u21 l2) u19 49 l6) σ l1)
def VX11_turn (K : Int32 → Hp → Prop) (σ : Hp) (a1 : Int32) (a2 : Int32) (a3 : Int32) : Prop := VX11_isThing (fun v1 u2 => if v1 = 0 then (K (-5) u2) else (VX11_isCell (fun v4 u5 => if v4 = 0 then (K (-7) u5) else (VX11_isChoice (fun v7 u8 => if v7 = 0 then (K (-7) u8) else (VX11_lift (fun v10 u11 => v10 = 49 ∧ VX11_follow (fun u13 => VX11_firstIn (fun v14 u15 => ∃ n, VX11_turn_L50 K n u15 a1 a2 a3 v14 (-1) 0) u13 a2) u11 49) u8 a1)) u5 a3)) u2 a2)) σ a1
def VX11_caught_L5 (K : Int32 → Hp → Prop) : Nat → Hp → Int32 → Int32 → Int32 → Int32 → Prop
  | 0, _, _, _, _, _ => False
  | nf + 1, σ, l1, l2, l3, l4 => if (σ 1 5) ≤ l4 then (K l3 σ) else (VX11_lift (fun v2 u3 => v2 = 49 ∧ ∀ u4 : Hp, u4 = hup u3 49 3 l2 → VX1_passAll (fun u6 => VX11_has (fun v7 u8 => if v7 = 0 then (∀ x10 : Int32, x10 = l3 + 0 → ∀ x11 : Int32, x11 = l4 + 1 → (VX11_caught_L5 K nf) u8 l1 l2 x10 x11) else (∀ x12 : Int32, x12 = l3 + 1 → ∀ x13 : Int32, x13 = l4 + 1 → (VX11_caught_L5 K nf) u8 l1 l2 x12 x13)) u6 l2 (u6 49 6)) u4 (u4 1 3) l1) σ l4)
def VX11_caught (K : Int32 → Hp → Prop) (σ : Hp) (a1 : Int32) (a2 : Int32) : Prop := ∃ n, VX11_caught_L5 K n σ a1 a2 0 0
def VX11_net_L36 (K : Int32 → Hp → Prop) : Nat → Hp → Int32 → Int32 → Int32 → Int32 → Int32 → Prop
  | 0, _, _, _, _, _, _ => False
  | nf + 1, σ, l1, l2, l3, l4, l5 => if 30 ≤ l5 then (if l2 = 0 then (K l3 σ) else (K l4 σ)) else (VX11_isOpen (fun v11 u12 => if v11 = 0 then (∀ x14 : Int32, x14 = l5 + 1 → (VX11_net_L36 K nf) u12 l1 l2 l3 l4 x14) else (VX11_has (fun v15 u16 => if v15 = 0 then (VX11_caught (fun v18 u19 => if v18 ≤ l4 then (∀ x21 : Int32, x21 = l5 + 1 → (VX11_net_L36 K nf) u19 l1 l2 l3 l4 x21) else (∀ x22 : Int32, x22 = l5 + 1 → (VX11_net_L36 K nf) u19 l1 l2 l5 v18 x22)) u16 l1 ((u16 1 1) ||| (1 <<< (l5 &&& 31)))) else (∀ x23 : Int32, x23 = l5 + 1 → (VX11_net_L36 K nf) u16 l1 l2 l3 l4 x23)) u12 (u12 1 1) l5)) σ l5)
def VX11_net (K : Int32 → Hp → Prop) (σ : Hp) (a1 : Int32) (a2 : Int32) : Prop := VX11_isBehind (fun v1 u2 => if v1 = 0 then (K (-2) u2) else (VX11_isChoice (fun v4 u5 => if v4 = 0 then (K (-2) u5) else (VX11_caught (fun v7 u8 => ∃ n, VX11_net_L36 K n u8 a1 a2 (-1) v7 0) u5 a1 (u5 1 1))) u2 a2)) σ a1
def VX11_endOf (K : Int32 → Hp → Prop) (σ : Hp) (a1 : Int32) (a2 : Int32) (a3 : Int32) : Prop := VX11_letGo (fun v1 u2 => v1 = 49 ∧ VX1_passAll (fun u4 => K (u4 49 6) u4) u2 (u2 1 3) a3) σ a1 a2
def VX11_can_L26 (K : Int32 → Hp → Prop) : Nat → Hp → Int32 → Int32 → Int32 → Int32 → Prop
  | 0, _, _, _, _, _ => False
  | nf + 1, σ, l1, l2, l3, l4 => if 5 ≤ l4 then (K l3 σ) else (VX11_endOf (fun v8 u9 => ∀ x10 : Int32, x10 = l3 ||| (1 <<< (v8 &&& 31)) → ∀ x11 : Int32, x11 = l4 + 1 → (VX11_can_L26 K nf) u9 l1 l2 x10 x11) σ l1 l4 l2)
def VX11_can (K : Int32 → Hp → Prop) (σ : Hp) (a1 : Int32) (a2 : Int32) : Prop := VX11_isThing (fun v1 u2 => if v1 = 0 then (K (-5) u2) else (VX11_isBehind (fun v4 u5 => if v4 = 0 then (K (-7) u5) else (∃ n, VX11_can_L26 K n u5 a1 a2 0 0)) u2 a2)) σ a1
def VX11_tallyEnds_L23 (K : Hp → Prop) : Nat → Hp → Int32 → Int32 → Int32 → Prop
  | 0, _, _, _, _ => False
  | nf + 1, σ, l1, l2, l3 => if 5 ≤ l3 then (K σ) else (VX11_endOf (fun v5 u6 => vp_in v5 30 ∧ vp_in v5 30 ∧ ∀ u7 : Hp, u7 = hup u6 54 v5.toNatClampNeg ((u6 54 v5.toNatClampNeg) + 1) → ∀ x8 : Int32, x8 = l3 + 1 → (VX11_tallyEnds_L23 K nf) u7 l1 l2 x8) σ l1 l3 l2)
def VX11_tallyEnds_L2 (K : Hp → Prop) : Nat → Hp → Int32 → Int32 → Int32 → Prop
  | 0, _, _, _, _ => False
  | nf + 1, σ, l1, l2, l3 => if 30 ≤ l3 then (∃ n, VX11_tallyEnds_L23 K n σ l1 l2 0) else (vp_in l3 30 ∧ ∀ u2 : Hp, u2 = hup σ 54 l3.toNatClampNeg 0 → ∀ x3 : Int32, x3 = l3 + 1 → (VX11_tallyEnds_L2 K nf) u2 l1 l2 x3)
def VX11_tallyEnds (K : Hp → Prop) (σ : Hp) (a1 : Int32) (a2 : Int32) : Prop := ∃ n, VX11_tallyEnds_L2 K n σ a1 a2 0
def VX11_look_L40 (K : Int32 → Hp → Prop) : Nat → Hp → Int32 → Int32 → Int32 → Prop
  | 0, _, _, _, _ => False
  | nf + 1, σ, l3, l4, l5 => if 30 ≤ l5 then (if l3 = 0 then (K l4 σ) else (vp_in l4 30 ∧ K (σ 54 l4.toNatClampNeg) σ)) else (vp_in l5 30 ∧ vp_in l4 30 ∧ if (σ 54 l5.toNatClampNeg) ≤ (σ 54 l4.toNatClampNeg) then (∀ x15 : Int32, x15 = l5 + 1 → (VX11_look_L40 K nf) σ l3 l4 x15) else (∀ x16 : Int32, x16 = l5 + 1 → (VX11_look_L40 K nf) σ l3 l5 x16))
def VX11_look (K : Int32 → Hp → Prop) (σ : Hp) (a1 : Int32) (a2 : Int32) (a3 : Int32) : Prop := VX11_isThing (fun v1 u2 => if v1 = 0 then (K (-5) u2) else (VX11_isBehind (fun v4 u5 => if v4 = 0 then (K (-7) u5) else (VX11_isChoice (fun v7 u8 => if v7 = 0 then (K (-7) u8) else (VX11_tallyEnds (fun u11 => ∃ n, VX11_look_L40 K n u11 a3 0 1) u8 a1 a2)) u5 a3)) u2 a2)) σ a1
def VX11_went_L34 (K : Int32 → Hp → Prop) : Nat → Hp → Int32 → Int32 → Int32 → Int32 → Int32 → Prop
  | 0, _, _, _, _, _, _ => False
  | nf + 1, σ, l1, l2, l3, l4, l5 => if 5 ≤ l5 then (K l4 σ) else (VX11_endOf (fun v11 u12 => if v11 = l3 then (∀ x16 : Int32, x16 = l4 ||| (1 <<< (l5 &&& 31)) → ∀ x17 : Int32, x17 = l5 + 1 → (VX11_went_L34 K nf) u12 l1 l2 l3 x16 x17) else (∀ x14 : Int32, x14 = l4 ||| 0 → ∀ x15 : Int32, x15 = l5 + 1 → (VX11_went_L34 K nf) u12 l1 l2 l3 x14 x15)) σ l1 l5 l2)
def VX11_went (K : Int32 → Hp → Prop) (σ : Hp) (a1 : Int32) (a2 : Int32) (a3 : Int32) : Prop := VX11_isThing (fun v1 u2 => if v1 = 0 then (K (-5) u2) else (VX11_isBehind (fun v4 u5 => if v4 = 0 then (K (-7) u5) else (VX11_isCell (fun v7 u8 => if v7 = 0 then (K (-7) u8) else (∃ n, VX11_went_L34 K n u8 a1 a2 a3 0 0)) u5 a3)) u2 a2)) σ a1
def VX11_countAhead_L4 (K : Int32 → Hp → Prop) : Nat → Hp → Int32 → Int32 → Int32 → Prop
  | 0, _, _, _, _ => False
  | nf + 1, σ, l1, l2, l3 => if 30 ≤ l3 then (K l2 σ) else (vp_in l3 30 ∧ vp_in l1 30 ∧ if (σ 54 l1.toNatClampNeg) < (σ 54 l3.toNatClampNeg) then (∀ x3 : Int32, x3 = l2 + 1 → ∀ x4 : Int32, x4 = l3 + 1 → (VX11_countAhead_L4 K nf) σ l1 x3 x4) else (if l1 ≤ l3 then (∀ x6 : Int32, x6 = l3 + 1 → (VX11_countAhead_L4 K nf) σ l1 l2 x6) else (vp_in l3 30 ∧ vp_in l1 30 ∧ if (σ 54 l3.toNatClampNeg) = (σ 54 l1.toNatClampNeg) then (∀ x9 : Int32, x9 = l2 + 1 → ∀ x10 : Int32, x10 = l3 + 1 → (VX11_countAhead_L4 K nf) σ l1 x9 x10) else (∀ x8 : Int32, x8 = l3 + 1 → (VX11_countAhead_L4 K nf) σ l1 l2 x8))))
def VX11_countAhead (K : Int32 → Hp → Prop) (σ : Hp) (a1 : Int32) : Prop := ∃ n, VX11_countAhead_L4 K n σ a1 0 0
def VX11_fraction_b40 (K : Int64 → Hp → Prop) (σ : Hp) (l0 : Int32) (l1 : Int32) (l2 : Int32) (l3 : Int32) : Prop := if l3 = 0 then (K (-4611686018427387904) σ) else (if l2 = 0 then ((¬ l3 = 0) ∧ K ((l0 / l3).toInt64) σ) else ((¬ l3 = 0) ∧ K ((l1 / l3).toInt64) σ))
def VX11_fraction_L8 (K : Int64 → Hp → Prop) : Nat → Hp → Int32 → Int32 → Int32 → Int32 → Int32 → Int32 → Prop
  | 0, _, _, _, _, _, _, _ => False
  | nf + 1, σ, l0, l1, l2, l3, l4, l5 => if 1000 ≤ l5 then (VX11_fraction_b40 K σ l0 l1 l2 l3) else (if l4 = 0 then (VX11_fraction_b40 K σ l0 l1 l2 l3) else ((¬ l4 = 0) ∧ ∀ x3 : Int32, x3 = jrem l3 l4 → ∀ x4 : Int32, x4 = l5 + 1 → (VX11_fraction_L8 K nf) σ l0 l1 l2 l4 x3 x4))
def VX11_fraction (K : Int64 → Hp → Prop) (σ : Hp) (a1 : Int32) (a2 : Int32) (a3 : Int32) : Prop := ∃ n, VX11_fraction_L8 K n σ a1 a2 a3 a2 a1 0
def VX11_search_L38 (K : Int64 → Hp → Prop) : Nat → Hp → Int32 → Int32 → Int32 → Prop
  | 0, _, _, _, _ => False
  | nf + 1, σ, l3, l4, l5 => if 30 ≤ l5 then (VX11_fraction (fun v13 u14 => K v13 u14) σ l4 5 l3) else (vp_in l5 30 ∧ VX11_countAhead (fun v15 u16 => ∀ x17 : Int32, x17 = l4 + ((σ 54 l5.toNatClampNeg) * (1 + v15)) → ∀ x18 : Int32, x18 = l5 + 1 → (VX11_search_L38 K nf) u16 l3 x17 x18) σ l5)
def VX11_search (K : Int64 → Hp → Prop) (σ : Hp) (a1 : Int32) (a2 : Int32) (a3 : Int32) : Prop := VX11_isThing (fun v1 u2 => if v1 = 0 then (K (-4611686018427387904) u2) else (VX11_isBehind (fun v4 u5 => if v4 = 0 then (K (-4611686018427387904) u5) else (VX11_isChoice (fun v7 u8 => if v7 = 0 then (K (-4611686018427387904) u8) else (VX11_tallyEnds (fun u11 => ∃ n, VX11_search_L38 K n u11 a3 0 0) u8 a1 a2)) u5 a3)) u2 a2)) σ a1
def VX11_firstElsewhere_L3 (K : Int32 → Hp → Prop) (a3 : Nat) : Nat → Hp → Int32 → Int32 → Int32 → Prop
  | 0, _, _, _, _ => False
  | nf + 1, σ, l1, l2, l4 => if (σ 1 5) ≤ l4 then (K (-1) σ) else (VX11_lift (fun v2 u3 => v2 = 49 ∧ ∀ u4 : Hp, u4 = hup u3 49 1 (nI (a3 + 1)) → VX1_passAll (fun u6 => vp_in l1 4 ∧ ∀ x7 : Nat, x7 = 41 + l1.toNatClampNeg → ∀ x8 : Nat, x8 = 45 + 1 * (x7 - 41) → vp_in l4 40 ∧ if (u6 49 6) = (u6 x8 l4.toNatClampNeg) then (∀ x10 : Int32, x10 = l4 + 1 → (VX11_firstElsewhere_L3 K a3 nf) u6 l1 l2 x10) else (K l4 u6)) u4 (u4 1 3) l2) σ l4)
def VX11_firstElsewhere (K : Int32 → Hp → Prop) (σ : Hp) (a1 : Int32) (a2 : Int32) (a3 : Nat) : Prop := (19 ≤ a3 ∧ a3 < 25) ∧ ∃ n, VX11_firstElsewhere_L3 K a3 n σ a1 a2 0
def VX11_isSheet (K : Int32 → Hp → Prop) (σ : Hp) (a1 : Int32) : Prop := if a1 < 0 then (K 0 σ) else (if 4 ≤ a1 then (K 0 σ) else (K 1 σ))
def VX11_refusalOfPlaces (K : Int32 → Hp → Prop) (σ : Hp) (a1 : Int32) : Prop := VX11_isSheet (fun v1 u2 => if v1 = 0 then (K (-2) u2) else (vp_in a1 4 ∧ ∀ x4 : Nat, x4 = 41 + a1.toNatClampNeg → if (u2 x4 1) = (-1) then (K (-11) u2) else (vp_in a1 4 ∧ ∀ x6 : Nat, x6 = 41 + a1.toNatClampNeg → if (u2 x6 2) = (u2 1 5) then (K 0 u2) else (K (-2) u2)))) σ a1
def VX11_judge (K : Int32 → Hp → Prop) (σ : Hp) (a1 : Int32) (a2 : Int32) : Prop := VX11_refusalOfPlaces (fun v1 u2 => if v1 = 0 then (VX11_isBehind (fun v4 u5 => if v4 = 0 then (K (-7) u5) else (VX11_law (fun v7 u8 => (19 ≤ v7 ∧ v7 < 25) ∧ VX11_firstElsewhere (fun v9 u10 => K v9 u10) u8 a1 a2 v7) u5)) u2 a2) else (K v1 u2)) σ a1
def VX11_times_L44 (K : Int64 → Hp → Prop) (R19 : Hp → Int32 → Int64 → Int32 → Prop) : Nat → Hp → Int32 → Int64 → Int32 → Int32 → Prop
  | 0, _, _, _, _, _ => False
  | nf + 1, σ, l1, l2, l4, l5 => if 40 < l5 then (∀ x10 : Int32, x10 = l4 + 1 → R19 σ l1 l2 x10) else (vp_in l5 41 ∧ vp_in l1 4 ∧ ∀ x11 : Nat, x11 = 41 + l1.toNatClampNeg → ∀ x12 : Nat, x12 = 45 + 1 * (x11 - 41) → vp_in l4 40 ∧ if (σ 50 l5.toNatClampNeg) = (σ x12 l4.toNatClampNeg) then (∀ x14 : Int32, x14 = l5 + 1 → (VX11_times_L44 K R19 nf) σ l1 l2 l4 x14) else (∀ x15 : Int64, x15 = l2 &&& ((1 <<< (l5.toInt64 &&& 63)) ^^^ (-1)) → ∀ x16 : Int32, x16 = l5 + 1 → (VX11_times_L44 K R19 nf) σ l1 x15 l4 x16))
def VX11_times_L19 (K : Int64 → Hp → Prop) : Nat → Hp → Int32 → Int64 → Int32 → Prop
  | 0, _, _, _, _ => False
  | nf + 1, σ, l1, l2, l4 => if (σ 1 5) ≤ l4 then (K l2 σ) else (VX11_lift (fun v5 u6 => v5 = 49 ∧ VX11_follow (fun u8 => ∃ n, VX11_times_L44 K (VX11_times_L19 K nf) n u8 l1 l2 l4 0) u6 49) σ l4)
def VX11_times (K : Int64 → Hp → Prop) (σ : Hp) (a1 : Int32) : Prop := VX11_refusalOfPlaces (fun v1 u2 => if v1 = 0 then (∃ n, VX11_times_L19 K n u2 a1 2199023255551 0) else (K (-4611686018427387904) u2)) σ a1
def VX11_laws_L28 (K : Int32 → Hp → Prop) : Nat → Hp → Int32 → Int32 → Int32 → Int32 → Prop
  | 0, _, _, _, _, _ => False
  | nf + 1, σ, l1, l2, l4, l5 => if (σ 0 5) ≤ l5 then (K l4 σ) else (vp_in l5 6 ∧ ∀ x8 : Nat, x8 = 19 + l5.toNatClampNeg → VX11_firstElsewhere (fun v9 u10 => if 0 ≤ v9 then (∀ x12 : Int32, x12 = l4 ||| 0 → ∀ x13 : Int32, x13 = l5 + 1 → (VX11_laws_L28 K nf) u10 l1 l2 x12 x13) else (∀ x14 : Int32, x14 = l4 ||| (1 <<< (l5 &&& 31)) → ∀ x15 : Int32, x15 = l5 + 1 → (VX11_laws_L28 K nf) u10 l1 l2 x14 x15)) σ l1 l2 x8)
def VX11_laws (K : Int32 → Hp → Prop) (σ : Hp) (a1 : Int32) (a2 : Int32) : Prop := VX11_refusalOfPlaces (fun v1 u2 => if v1 = 0 then (VX11_isBehind (fun v4 u5 => if v4 = 0 then (K (-7) u5) else (∃ n, VX11_laws_L28 K n u5 a1 a2 0 0)) u2 a2) else (K v1 u2)) σ a1
def VX11_film_L39 (K : Int32 → Hp → Prop) : Nat → Hp → Int32 → Int32 → Int32 → Prop
  | 0, _, _, _, _ => False
  | nf + 1, σ, l1, l2, l3 => if (σ 1 5) ≤ l3 then (K (σ 1 5) σ) else (vp_in l1 4 ∧ ∀ x11 : Nat, x11 = 41 + l1.toNatClampNeg → ∀ x12 : Nat, x12 = 45 + 1 * (x11 - 41) → VX11_behind (fun v13 u14 => v13 = 49 ∧ vp_in l3 40 ∧ ∀ u15 : Hp, u15 = hup u14 x12 l3.toNatClampNeg (u14 49 6) → ∀ x16 : Int32, x16 = l3 + 1 → (VX11_film_L39 K nf) u15 l1 l2 x16) σ l2 l3)
def VX11_film (K : Int32 → Hp → Prop) (σ : Hp) (a1 : Int32) (a2 : Int32) : Prop := VX11_isSheet (fun v1 u2 => if v1 = 0 then (K (-2) u2) else (VX11_isBehind (fun v4 u5 => if v4 = 0 then (K (-7) u5) else (vp_in a1 4 ∧ ∀ x7 : Nat, x7 = 41 + a1.toNatClampNeg → VX6_become (fun u9 => ∃ n, VX11_film_L39 K n u9 a1 a2 0) u5 x7 2 (u5 1 5))) u2 a2)) σ a1
def VX11_countDrawn_L11 (K : Int32 → Hp → Prop) : Nat → Hp → Int32 → Int64 → Int32 → Int32 → Prop
  | 0, _, _, _, _, _ => False
  | nf + 1, σ, l2, l3, l5, l6 => if (σ 1 5) ≤ l6 then (K l5 σ) else (∀ x3 : Int64, x3 = jlrem (l3 * 48271) 2147483647 → ∀ x4 : Int32, x4 = (jlrem x3 5).toInt32 → vp_in ((5 * l6) + x4) 25 ∧ if (σ 53 ((5 * l6) + x4).toNatClampNeg) = l2 then (∀ x8 : Int32, x8 = l5 + 1 → ∀ x9 : Int32, x9 = l6 + 1 → (VX11_countDrawn_L11 K nf) σ l2 x3 x8 x9) else (∀ x6 : Int32, x6 = l5 + 0 → ∀ x7 : Int32, x7 = l6 + 1 → (VX11_countDrawn_L11 K nf) σ l2 x3 x6 x7))
def VX11_countDrawn (K : Int32 → Hp → Prop) (σ : Hp) (a1 : Int32) (a2 : Int32) : Prop := ∀ x1 : Int64, x1 = (a1 + 1).toInt64 → ∃ n, VX11_countDrawn_L11 K n σ a2 x1 0 0
def VX11_isSeed (K : Int32 → Hp → Prop) (σ : Hp) (a1 : Int32) : Prop := if a1 < 0 then (K 0 σ) else (if 99999 < a1 then (K 0 σ) else (K 1 σ))
def VX11_listEnds_L15 (K : Hp → Prop) (R2 : Hp → Int32 → Int32 → Prop) : Nat → Hp → Int32 → Int32 → Int32 → Prop
  | 0, _, _, _, _ => False
  | nf + 1, σ, l1, l2, l3 => if 5 ≤ l3 then (∀ x3 : Int32, x3 = l2 + 1 → R2 σ l1 x3) else (VX11_endOf (fun v4 u5 => vp_in ((5 * l2) + l3) 25 ∧ ∀ u6 : Hp, u6 = hup u5 53 ((5 * l2) + l3).toNatClampNeg v4 → ∀ x7 : Int32, x7 = l3 + 1 → (VX11_listEnds_L15 K R2 nf) u6 l1 l2 x7) σ l2 l3 l1)
def VX11_listEnds_L2 (K : Hp → Prop) : Nat → Hp → Int32 → Int32 → Prop
  | 0, _, _, _ => False
  | nf + 1, σ, l1, l2 => if (σ 1 5) ≤ l2 then (K σ) else (∃ n, VX11_listEnds_L15 K (VX11_listEnds_L2 K nf) n σ l1 l2 0)
def VX11_listEnds (K : Hp → Prop) (σ : Hp) (a1 : Int32) : Prop := ∃ n, VX11_listEnds_L2 K n σ a1 0
def VX11_drawn (K : Int32 → Hp → Prop) (σ : Hp) (a1 : Int32) (a2 : Int32) (a3 : Int32) : Prop := VX11_isSeed (fun v1 u2 => if v1 = 0 then (K (-2) u2) else (VX11_isBehind (fun v4 u5 => if v4 = 0 then (K (-2) u5) else (VX11_isCell (fun v7 u8 => if v7 = 0 then (K (-2) u8) else (VX11_listEnds (fun u11 => VX11_countDrawn (fun v12 u13 => K v12 u13) u11 a1 a3) u8 a2)) u5 a3)) u2 a2)) σ a1
def VX11_mean_L72 (K : Int64 → Hp → Prop) : Nat → Hp → Int32 → Int32 → Int32 → Int32 → Int32 → Int32 → Prop
  | 0, _, _, _, _, _, _, _ => False
  | nf + 1, σ, l1, l2, l3, l4, l5, l6 => if l2 ≤ l6 then (VX11_fraction (fun v19 u20 => K v19 u20) σ l5 l2 l4) else (VX11_countDrawn (fun v21 u22 => ∀ x23 : Int32, x23 = l5 + v21 → ∀ x24 : Int32, x24 = l6 + 1 → (VX11_mean_L72 K nf) u22 l1 l2 l3 l4 x23 x24) σ (l1 + l6) (jrem l3 100))
def VX11_mean (K : Int64 → Hp → Prop) (σ : Hp) (a1 : Int32) (a2 : Int32) (a3 : Int32) (a4 : Int32) : Prop := VX11_isSeed (fun v1 u2 => if v1 = 0 then (K (-4611686018427387904) u2) else (if a2 < 1 then (K (-4611686018427387904) u2) else (if 40 < a2 then (K (-4611686018427387904) u2) else (if 0 ≤ a3 then (VX11_isBehind (fun v7 u8 => if v7 = 0 then (K (-4611686018427387904) u8) else (VX11_isCell (fun v10 u11 => if v10 = 0 then (K (-4611686018427387904) u11) else (VX11_isChoice (fun v13 u14 => if v13 = 0 then (K (-4611686018427387904) u14) else (VX11_listEnds (fun u17 => ∃ n, VX11_mean_L72 K n u17 a1 a2 a3 a4 0 0) u14 (a3 / 100))) u11 a4)) u8 (jrem a3 100))) u2 (a3 / 100)) else (K (-4611686018427387904) u2))))) σ a1
def VX11_image (K : Int32 → Hp → Prop) (σ : Hp)  : Prop := VX3_become (fun u2 => ∀ u3 : Hp, u3 = hup u2 0 2 1 → K (u3 1 5) u3) σ 2 1
def VX11_back (K : Int32 → Hp → Prop) (σ : Hp)  : Prop := if (σ 0 2) = 0 then (K (-3) σ) else (VX3_become (fun u3 => K (u3 1 5) u3) σ 1 2)
def VX11_sheet (K : Int32 → Hp → Prop) (σ : Hp) (a1 : Int32) (a2 : Int32) (a3 : Int32) : Prop := VX11_isSheet (fun v1 u2 => if v1 = 0 then (K (-2) u2) else (if a2 < (-1) then (K (-2) u2) else (if a2 ≤ 2 then (if a2 = (-1) then (vp_in a1 4 ∧ ∀ x12 : Nat, x12 = 41 + a1.toNatClampNeg → VX6_become (fun u14 => K 1 u14) u2 x12 (-1) 0) else (if a3 ≤ 40 then (if 0 ≤ a3 then (vp_in a1 4 ∧ ∀ x9 : Nat, x9 = 41 + a1.toNatClampNeg → VX6_become (fun u11 => K 1 u11) u2 x9 a2 a3) else (K (-14) u2)) else (K (-2) u2))) else (K (-2) u2)))) σ a1
def VX11_cell (K : Int32 → Hp → Prop) (σ : Hp) (a1 : Int32) (a2 : Int32) (a3 : Int32) : Prop := VX11_isSheet (fun v1 u2 => if v1 = 0 then (K (-2) u2) else (vp_in a1 4 ∧ ∀ x4 : Nat, x4 = 41 + a1.toNatClampNeg → if (u2 x4 1) = (-1) then (K (-11) u2) else (vp_in a1 4 ∧ ∀ x6 : Nat, x6 = 41 + a1.toNatClampNeg → VX6_holds (fun v7 u8 => if v7 = 0 then (K (-12) u8) else (vp_in a1 4 ∧ ∀ x10 : Nat, x10 = 41 + a1.toNatClampNeg → VX6_write (fun u12 => K 1 u12) u8 x10 a2 a3)) u2 x6 a2 1))) σ a1
def VX11_copy (K : Int32 → Hp → Prop) (σ : Hp) (a1 : Int32) (a2 : Int32) (a3 : Int32) (a4 : Int32) (a5 : Int32) : Prop := VX11_isSheet (fun v1 u2 => if v1 = 0 then (K (-2) u2) else (VX11_isSheet (fun v4 u5 => if v4 = 0 then (K (-2) u5) else (vp_in a1 4 ∧ ∀ x7 : Nat, x7 = 41 + a1.toNatClampNeg → vp_in a3 4 ∧ ∀ x8 : Nat, x8 = 41 + a3.toNatClampNeg → if (u5 x7 1) = (-1) then (K (-11) u5) else (if (u5 x8 1) = (-1) then (K (-11) u5) else (if (u5 x7 1) = (u5 x8 1) then (VX6_holds (fun v12 u13 => if v12 = 0 then (K (-12) u13) else (VX6_holds (fun v15 u16 => if v15 = 0 then (K (-12) u16) else (∀ x18 : Nat, x18 = 45 + 1 * (x7 - 41) → ∀ x19 : Nat, x19 = 45 + 1 * (x8 - 41) → (¬ a2 < 0) ∧ (¬ a4 < 0) ∧ (¬ a5 < 0) ∧ (a2.toNatClampNeg + a5.toNatClampNeg ≤ 40) ∧ (a4.toNatClampNeg + a5.toNatClampNeg ≤ 40) ∧ ∀ u20 : Hp, u20 = hset u16 x19 (va_cpy (u16 x18) (u16 x19) a2.toNatClampNeg a4.toNatClampNeg a5.toNatClampNeg) → K a5 u20)) u13 x8 a4 a5)) u5 x7 a2 a5) else (K (-13) u5))))) u2 a3)) σ a1
def VX11_thingsBy_L68 (K : Int32 → Hp → Prop) : Nat → Hp → Int32 → Int32 → Nat → Int32 → Int32 → Prop
  | 0, _, _, _, _, _, _ => False
  | nf + 1, σ, l3, l4, l5, l6, l7 => (41 ≤ l5 ∧ l5 < 45) ∧ if l4 ≤ l7 then (K l6 σ) else (∀ x12 : Int32, x12 = l3 + (3 * l7) → VX6_holds (fun v13 u14 => if v13 = 0 then (K (-12) u14) else (∀ x16 : Nat, x16 = 45 + 1 * (l5 - 41) → vp_in x12 40 ∧ ∀ x17 : Nat, x17 = 45 + 1 * (l5 - 41) → vp_in (x12 + 1) 40 ∧ ∀ x18 : Nat, x18 = 45 + 1 * (l5 - 41) → vp_in (x12 + 2) 40 ∧ VX11_thing (fun v19 u20 => if v19 < 0 then (∀ x22 : Int32, x22 = l6 + 0 → ∀ x23 : Int32, x23 = l7 + 1 → (VX11_thingsBy_L68 K nf) u20 l3 l4 l5 x22 x23) else (∀ x24 : Int32, x24 = l6 + 1 → ∀ x25 : Int32, x25 = l7 + 1 → (VX11_thingsBy_L68 K nf) u20 l3 l4 l5 x24 x25)) u14 (u14 x16 x12.toNatClampNeg) (u14 x17 (x12 + 1).toNatClampNeg) (u14 x18 (x12 + 2).toNatClampNeg))) σ l5 x12 3)
def VX11_thingsBy (K : Int32 → Hp → Prop) (σ : Hp) (a1 : Int32) (a2 : Int32) (a3 : Int32) (a4 : Int32) : Prop := VX11_isSheet (fun v1 u2 => if v1 = 0 then (K (-2) u2) else (if a2 < 0 then (K (-2) u2) else (if 2 < a2 then (K (-2) u2) else (if a4 < 0 then (K (-2) u2) else (if a4 ≤ 5 then (vp_in a1 4 ∧ ∀ x8 : Nat, x8 = 41 + a1.toNatClampNeg → if (u2 x8 1) = (-1) then (K (-11) u2) else (if (u2 x8 1) = a2 then (∃ n, VX11_thingsBy_L68 K n u2 a3 a4 x8 0 0) else (K (-13) u2))) else (K (-2) u2)))))) σ a1
def VX11_takenCell (K : Int32 → Hp → Prop) (σ : Hp) (a1 : Int32) (a2 : Int32) : Prop := VX11_has (fun v1 u2 => if v1 = 0 then (K (-11) u2) else (if a2 = 6 then (VX11_has (fun v5 u6 => if v5 = 0 then (K 0 u6) else (K 1 u6)) u2 (u2 1 1) a1) else (K (-13) u2))) σ ((σ 1 1) ||| (σ 1 2)) a1
def VX11_takenThing (K : Int32 → Hp → Prop) (σ : Hp) (a1 : Int32) (a2 : Int32) : Prop := VX11_isThing (fun v1 u2 => if v1 = 0 then (K (-11) u2) else (vp_in a1 5 ∧ vp_in (u2 3 a1.toNatClampNeg) 6 ∧ ∀ x4 : Nat, x4 = 12 + (u2 3 a1.toNatClampNeg).toNatClampNeg → VP_isOne (fun v5 u6 => if v5 = 0 then (K (-13) u6) else (K a1 u6)) u2 x4 a2)) σ a1
def VX11_taken (K : Int32 → Hp → Prop) (σ : Hp) (a1 : Int32) (a2 : Int32) : Prop := if a2 < 0 then (K (-2) σ) else (if a2 ≤ 6 then (if a1 < 0 then (K (-12) σ) else (if a1 < 35 then (if 30 ≤ a1 then (VX11_takenThing (fun v6 u7 => K v6 u7) σ (a1 - 30) a2) else (VX11_takenCell (fun v8 u9 => K v8 u9) σ a1 a2)) else (K (-12) σ))) else (K (-2) σ))
def VX12_in (K : Int32 → Hp → Prop) (σ : Hp) (a1 : Int32) (a2 : Int32) (a3 : Int32) : Prop := if a1 < a2 then (K 0 σ) else (if a3 < a1 then (K 0 σ) else (K 1 σ))
def VX12_within (K : Int32 → Hp → Prop) (σ : Hp) (a1 : Int32) (a2 : Int32) (a3 : Int32) : Prop := if a2 ≤ a1 then (if a1 ≤ a3 then (K a1 σ) else (K a3 σ)) else (K a2 σ)
def VX12_isCell (K : Int32 → Hp → Prop) (σ : Hp) (a1 : Int32) : Prop := VX12_in (fun v1 u2 => (v1 = 0 ∨ v1 = 1) ∧ K v1 u2) σ a1 0 29
def VX12_has (K : Int32 → Hp → Prop) (σ : Hp) (a1 : Int32) (a2 : Int32) : Prop := vp_in a1 3 ∧ if (((σ 1 a1.toNatClampNeg) >>> (a2 &&& 31)) &&& 1) = 1 then (K 1 σ) else (K 0 σ)
def VX12_isFree (K : Int32 → Hp → Prop) (σ : Hp) (a1 : Int32) : Prop := VX12_isCell (fun v1 u2 => if v1 = 0 then (K 0 u2) else (VX12_has (fun v4 u5 => if v4 = 0 then (K 1 u5) else (K 0 u5)) u2 0 a1)) σ a1
def VX12_isThing (K : Int32 → Hp → Prop) (σ : Hp) (a1 : Int32) : Prop := VX12_in (fun v1 u2 => (v1 = 0 ∨ v1 = 1) ∧ K v1 u2) σ a1 0 ((σ 0 2) - 1)
def VX12_areSteps (K : Int32 → Hp → Prop) (σ : Hp) (a1 : Int32) : Prop := VX12_in (fun v1 u2 => (v1 = 0 ∨ v1 = 1) ∧ K v1 u2) σ a1 0 40
def VX12_isThere_L2 (K : Int32 → Hp → Prop) : Nat → Hp → Int32 → Int32 → Prop
  | 0, _, _, _ => False
  | nf + 1, σ, l1, l2 => if (σ 0 2) ≤ l2 then (K 0 σ) else (vp_in l2 5 ∧ if (σ 4 l2.toNatClampNeg) = l1 then (K 1 σ) else (∀ x3 : Int32, x3 = l2 + 1 → (VX12_isThere_L2 K nf) σ l1 x3))
def VX12_isThere (K : Int32 → Hp → Prop) (σ : Hp) (a1 : Int32) : Prop := ∃ n, VX12_isThere_L2 K n σ a1 0
def VX12_house_b64 (K : Int32 → Hp → Prop) (σ : Hp) (l1 : Int32) (l2 : Int32) (l3 : Int32) (s0 : Int32) : Prop := if l3 = 1 then (vp_in l1 3 ∧ vp_in l1 3 ∧ ∀ u20 : Hp, u20 = hup σ 1 l1.toNatClampNeg ((σ 1 l1.toNatClampNeg) ||| (1 <<< (l2 &&& 31))) → K s0 u20) else (vp_in l1 3 ∧ vp_in l1 3 ∧ ∀ u19 : Hp, u19 = hup σ 1 l1.toNatClampNeg ((σ 1 l1.toNatClampNeg) &&& ((1 <<< (l2 &&& 31)) ^^^ (-1))) → K s0 u19)
def VX12_house_b50 (K : Int32 → Hp → Prop) (σ : Hp) (l1 : Int32) (l2 : Int32) (l3 : Int32) : Prop := VX12_has (fun v15 u16 => if v15 = 0 then (VX12_house_b64 K u16 l1 l2 l3 0) else (VX12_house_b64 K u16 l1 l2 l3 1)) σ l1 l2
def VX12_house (K : Int32 → Hp → Prop) (σ : Hp) (a1 : Int32) (a2 : Int32) (a3 : Int32) : Prop := VX12_in (fun v1 u2 => if v1 = 0 then (K (-1) u2) else (VX12_isCell (fun v4 u5 => if v4 = 0 then (K (-2) u5) else (VX12_in (fun v7 u8 => if v7 = 0 then (K (-2) u8) else (if a1 = 0 then (if a3 = 1 then (VX12_isThere (fun v12 u13 => if v12 = 0 then (VX12_house_b50 K u13 a1 a2 a3) else (K (-3) u13)) u8 a2) else (VX12_house_b50 K u8 a1 a2 a3)) else (VX12_house_b50 K u8 a1 a2 a3))) u5 a3 0 1)) u2 a2)) σ a1 0 2
def VX12_set (K : Int32 → Hp → Prop) (σ : Hp) (a1 : Int32) : Prop := VX12_in (fun v1 u2 => if v1 = 0 then (K (-2) u2) else (∀ x4 : Int32, x4 = u2 0 1 → ∀ u5 : Hp, u5 = hup u2 0 1 a1 → K x4 u5)) σ a1 0 99
def VX12_count (K : Int32 → Hp → Prop) (σ : Hp) (a1 : Int32) : Prop := if a1 = 0 then (K (σ 0 2) σ) else (if a1 = 1 then (vp_in (a1 - 1) 3 ∧ K (σ 1 (a1 - 1).toNatClampNeg) σ) else (if a1 = 2 then (vp_in (a1 - 1) 3 ∧ K (σ 1 (a1 - 1).toNatClampNeg) σ) else (if a1 = 3 then (vp_in (a1 - 1) 3 ∧ K (σ 1 (a1 - 1).toNatClampNeg) σ) else (if a1 = 4 then (K (σ 0 1) σ) else (if a1 = 5 then (K (σ 0 11) σ) else (if a1 = 6 then (K (σ 0 12) σ) else (if a1 = 7 then (K (σ 0 8) σ) else (K (-2) σ))))))))
def VX12_isByte (K : Int32 → Hp → Prop) (σ : Hp) (a1 : Int32) : Prop := VX12_in (fun v1 u2 => (v1 = 0 ∨ v1 = 1) ∧ K v1 u2) σ a1 0 255
def VX12_feed_b125 (K : Int32 → Hp → Prop) (R68 : Hp → Int32 → Int32 → Int32 → Int32 → Int32 → Int32 → Int32 → Prop) (σ : Hp) (l1 : Int32) (l2 : Int32) (l3 : Int32) (l4 : Int32) (l5 : Int32) (l6 : Int32) (l7 : Int32) (s0 : Int32) (s1 : Int32) : Prop := vp_in s1 160 ∧ ∀ u25 : Hp, u25 = hup σ 6 s1.toNatClampNeg s0 → ∀ u26 : Hp, u26 = hup u25 0 8 ((u25 0 8) + 1) → ∀ x27 : Int32, x27 = l7 + 1 → R68 u26 l1 l2 l3 l4 l5 l6 x27
def VX12_feed_L68 (K : Int32 → Hp → Prop) : Nat → Hp → Int32 → Int32 → Int32 → Int32 → Int32 → Int32 → Int32 → Prop
  | 0, _, _, _, _, _, _, _, _ => False
  | nf + 1, σ, l1, l2, l3, l4, l5, l6, l7 => if l1 ≤ l7 then (K (σ 0 8) σ) else (if l7 = 0 then (VX12_feed_b125 K (VX12_feed_L68 K nf) σ l1 l2 l3 l4 l5 l6 l7 l2 (σ 0 8)) else (if l7 = 1 then (VX12_feed_b125 K (VX12_feed_L68 K nf) σ l1 l2 l3 l4 l5 l6 l7 l3 (σ 0 8)) else (if l7 = 2 then (VX12_feed_b125 K (VX12_feed_L68 K nf) σ l1 l2 l3 l4 l5 l6 l7 l4 (σ 0 8)) else (if l7 = 3 then (VX12_feed_b125 K (VX12_feed_L68 K nf) σ l1 l2 l3 l4 l5 l6 l7 l5 (σ 0 8)) else (VX12_feed_b125 K (VX12_feed_L68 K nf) σ l1 l2 l3 l4 l5 l6 l7 l6 (σ 0 8))))))
def VX12_feed (K : Int32 → Hp → Prop) (σ : Hp) (a1 : Int32) (a2 : Int32) (a3 : Int32) (a4 : Int32) (a5 : Int32) (a6 : Int32) : Prop := VX12_in (fun v1 u2 => if v1 = 0 then (K (-2) u2) else (VX12_isByte (fun v4 u5 => if v4 = 0 then (K (-2) u5) else (VX12_isByte (fun v7 u8 => if v7 = 0 then (K (-2) u8) else (VX12_isByte (fun v10 u11 => if v10 = 0 then (K (-2) u11) else (VX12_isByte (fun v13 u14 => if v13 = 0 then (K (-2) u14) else (VX12_isByte (fun v16 u17 => if v16 = 0 then (K (-2) u17) else (if ((u17 0 8) + a1) ≤ 160 then (∃ n, VX12_feed_L68 K n u17 a1 a2 a3 a4 a5 a6 0) else (K (-4) u17))) u14 a6)) u11 a5)) u8 a4)) u5 a3)) u2 a2)) σ a1 1 5
def VX12_wordFrom_b88 (K : Int32 → Hp → Prop) (R2 : Hp → Int32 → Int32 → Int32 → Prop) (σ : Hp) (l1 : Int32) (l2 : Int32) (l3 : Int32) (l4 : Int32) : Prop := if l4 = 0 then (∀ x7 : Int32, x7 = l3 + 1 → R2 σ l1 l2 x7) else (K l3 σ)
def VX12_wordFrom_b72 (K : Int32 → Hp → Prop) (R2 : Hp → Int32 → Int32 → Int32 → Prop) (R26 : Hp → Int32 → Int32 → Int32 → Int32 → Int32 → Prop) (σ : Hp) (l1 : Int32) (l2 : Int32) (l3 : Int32) (l5 : Int32) (s0 : Int32) (s1 : Int32) : Prop := if s1 = s0 then (∀ x10 : Int32, x10 = l5 + 1 → R26 σ l1 l2 l3 1 x10) else (∀ x9 : Int32, x9 = l5 + 1 → R26 σ l1 l2 l3 0 x9)
def VX12_wordFrom_L26 (K : Int32 → Hp → Prop) (R2 : Hp → Int32 → Int32 → Int32 → Prop) : Nat → Hp → Int32 → Int32 → Int32 → Int32 → Int32 → Prop
  | 0, _, _, _, _, _, _ => False
  | nf + 1, σ, l1, l2, l3, l4, l5 => if 8 ≤ l5 then (VX12_wordFrom_b88 K R2 σ l1 l2 l3 l4) else (if l4 = 0 then (VX12_wordFrom_b88 K R2 σ l1 l2 l3 l4) else (vp_in ((8 * l3) + l5) 96 ∧ if l2 ≤ (l1 + l5) then (VX12_wordFrom_b72 K R2 (VX12_wordFrom_L26 K R2 nf) σ l1 l2 l3 l5 32 (σ 14 ((8 * l3) + l5).toNatClampNeg)) else (vp_in (l1 + l5) 160 ∧ VX12_wordFrom_b72 K R2 (VX12_wordFrom_L26 K R2 nf) σ l1 l2 l3 l5 (σ 6 (l1 + l5).toNatClampNeg) (σ 14 ((8 * l3) + l5).toNatClampNeg))))
def VX12_wordFrom_L2 (K : Int32 → Hp → Prop) : Nat → Hp → Int32 → Int32 → Int32 → Prop
  | 0, _, _, _, _ => False
  | nf + 1, σ, l1, l2, l3 => if 12 ≤ l3 then (K 12 σ) else (if 8 < (l2 - l1) then (∃ n, VX12_wordFrom_L26 K (VX12_wordFrom_L2 K nf) n σ l1 l2 l3 0 0) else (∃ n, VX12_wordFrom_L26 K (VX12_wordFrom_L2 K nf) n σ l1 l2 l3 1 0))
def VX12_wordFrom (K : Int32 → Hp → Prop) (σ : Hp) (a1 : Int32) (a2 : Int32) : Prop := ∃ n, VX12_wordFrom_L2 K n σ a1 a2 0
def VX12_next_b390 (K : Hp → Prop) (σ : Hp) (s0 : Int32) : Prop := ∀ u35 : Hp, u35 = hup σ 0 23 s0 → ∀ u36 : Hp, u36 = hup u35 0 21 ((u35 0 21) + 1) → K u36
def VX12_next_b379 (K : Hp → Prop) (σ : Hp) (l1 : Int32) (s0 : Int32) : Prop := if s0 = 0 then (VX12_next_b390 K σ (-1)) else (VX12_next_b390 K σ l1)
def VX12_next_b309 (K : Hp → Prop) (σ : Hp) (l2 : Int32) : Prop := if l2 ≤ 4 then (∀ u38 : Hp, u38 = hup σ 0 23 1 → K u38) else (∀ u39 : Hp, u39 = hup σ 0 23 (-1) → K u39)
def VX12_next_b290 (K : Hp → Prop) (R230 : Hp → Int32 → Prop) (σ : Hp) (l2 : Int32) (s0 : Int32) : Prop := ∀ u40 : Hp, u40 = hup σ 0 24 s0 → ∀ x41 : Int32, x41 = l2 + 1 → ∀ u42 : Hp, u42 = hup u40 0 21 ((u40 0 21) + 1) → R230 u42 x41
def VX12_next_L230 (K : Hp → Prop) : Nat → Hp → Int32 → Prop
  | 0, _, _ => False
  | nf + 1, σ, l2 => if (σ 0 8) ≤ (σ 0 21) then (VX12_next_b309 K σ l2) else (vp_in (σ 0 21) 160 ∧ VX12_in (fun v26 u27 => if v26 = 0 then (VX12_next_b309 K u27 l2) else (if 4 ≤ l2 then (VX12_next_b290 K (VX12_next_L230 K nf) u27 l2 0) else (vp_in (u27 0 21) 160 ∧ VX12_next_b290 K (VX12_next_L230 K nf) u27 l2 (((10 * (u27 0 24)) + (u27 6 (u27 0 21).toNatClampNeg)) - 48)))) σ (σ 6 (σ 0 21).toNatClampNeg) 48 57)
def VX12_next_b195 (K : Hp → Prop) (σ : Hp) (l2 : Int32) (s0 : Int32) : Prop := ∀ u48 : Hp, u48 = hup σ 0 23 s0 → if 3 ≤ l2 then (∀ u50 : Hp, u50 = hup u48 0 24 (l2 - 3) → K u50) else (∀ u51 : Hp, u51 = hup u48 0 24 l2 → K u51)
def VX12_next_b146 (K : Hp → Prop) (σ : Hp) : Prop := VX12_wordFrom (fun v43 u44 => if 3 ≤ v43 then (if 9 ≤ v43 then (if v43 = 12 then (VX12_next_b195 K u44 v43 (-1)) else (VX12_next_b195 K u44 v43 ((4 + v43) - 9))) else (VX12_next_b195 K u44 v43 2)) else (VX12_next_b195 K u44 v43 3)) σ (σ 0 22) (σ 0 21)
def VX12_next_L103 (K : Hp → Prop) : Nat → Hp → Prop
  | 0, _ => False
  | nf + 1, σ => if (σ 0 8) ≤ (σ 0 21) then (VX12_next_b146 K σ) else (vp_in (σ 0 21) 160 ∧ VX12_in (fun v31 u32 => if v31 = 0 then (VX12_next_b146 K u32) else (∀ u34 : Hp, u34 = hup u32 0 21 ((u32 0 21) + 1) → (VX12_next_L103 K nf) u34)) σ (σ 6 (σ 0 21).toNatClampNeg) 97 122)
def VX12_next_b52 (K : Hp → Prop) (σ : Hp) : Prop := ∀ u4 : Hp, u4 = hup σ 0 22 (σ 0 21) → ∀ u5 : Hp, u5 = hup u4 0 23 0 → ∀ u6 : Hp, u6 = hup u5 0 24 0 → if (u6 0 21) = (u6 0 8) then (K u6) else (vp_in (u6 0 21) 160 ∧ ∀ x8 : Int32, x8 = u6 6 (u6 0 21).toNatClampNeg → VX12_in (fun v9 u10 => if v9 = 0 then (VX12_in (fun v12 u13 => if v12 = 0 then (if x8 = 40 then (VX12_next_b379 K u13 x8 1) else (if x8 = 41 then (VX12_next_b379 K u13 x8 1) else (if x8 = 59 then (VX12_next_b379 K u13 x8 1) else (if x8 = 43 then (VX12_next_b379 K u13 x8 1) else (if x8 = 45 then (VX12_next_b379 K u13 x8 1) else (if x8 = 42 then (VX12_next_b379 K u13 x8 1) else (if x8 = 60 then (VX12_next_b379 K u13 x8 1) else (if x8 = 61 then (VX12_next_b379 K u13 x8 1) else (VX12_next_b379 K u13 x8 0))))))))) else (∃ n, VX12_next_L230 K n u13 0)) u10 x8 48 57) else (∃ n, VX12_next_L103 K n u10)) u6 x8 97 122)
def VX12_next_b39 (K : Hp → Prop) (R0 : Hp → Prop) (σ : Hp) : Prop := ∀ u23 : Hp, u23 = hup σ 0 21 ((σ 0 21) + 1) → R0 u23
def VX12_next_L0 (K : Hp → Prop) : Nat → Hp → Prop
  | 0, _ => False
  | nf + 1, σ => if (σ 0 8) ≤ (σ 0 21) then (VX12_next_b52 K σ) else (vp_in (σ 0 21) 160 ∧ if (σ 6 (σ 0 21).toNatClampNeg) = 32 then (VX12_next_b39 K (VX12_next_L0 K nf) σ) else (vp_in (σ 0 21) 160 ∧ if (σ 6 (σ 0 21).toNatClampNeg) = 10 then (VX12_next_b39 K (VX12_next_L0 K nf) σ) else (VX12_next_b52 K σ)))
def VX12_next (K : Hp → Prop) (σ : Hp)  : Prop := ∃ n, VX12_next_L0 K n σ
def VX12_rank (K : Int32 → Hp → Prop) (σ : Hp) (a1 : Int32) : Prop := if a1 = 0 then (K 0 σ) else (if a1 = 11 then (K 1 σ) else (if a1 = 12 then (K 2 σ) else (if a1 = 13 then (K 3 σ) else (if 15 < a1 then (if 17 < a1 then (if a1 = 18 then (K 6 σ) else (K 7 σ)) else (K 5 σ)) else (K 4 σ)))))
def VX12_puts (K : Hp → Prop) (σ : Hp) (a1 : Int32) : Prop := vp_in ((200 * (σ 0 11)) + (σ 0 29)) 1200 ∧ ∀ u1 : Hp, u1 = hup σ 7 ((200 * (σ 0 11)) + (σ 0 29)).toNatClampNeg a1 → ∀ u2 : Hp, u2 = hup u1 0 29 ((u1 0 29) + 1) → K u2
def VX12_unwinds_b67 (K : Hp → Prop) (R0 : Hp → Int32 → Prop) (σ : Hp) (l1 : Int32) (l2 : Int32) (s0 : Int32) (s1 : Int32) : Prop := ∀ u9 : Hp, u9 = hup σ 0 28 (s1 - s0) → VX12_puts (fun u11 => R0 u11 l1) u9 l2
def VX12_unwinds_L0 (K : Hp → Prop) : Nat → Hp → Int32 → Prop
  | 0, _, _ => False
  | nf + 1, σ, l1 => if (σ 0 27) ≤ 0 then (K σ) else (vp_in ((σ 0 27) - 1) 200 ∧ VX12_rank (fun v2 u3 => if v2 < l1 then (K u3) else (∀ u5 : Hp, u5 = hup u3 0 27 ((u3 0 27) - 1) → vp_in (u5 0 27) 200 ∧ ∀ x6 : Int32, x6 = u5 15 (u5 0 27).toNatClampNeg → if x6 = 13 then (VX12_unwinds_b67 K (VX12_unwinds_L0 K nf) u5 l1 x6 1 (u5 0 28)) else (if x6 = 19 then (VX12_unwinds_b67 K (VX12_unwinds_L0 K nf) u5 l1 x6 1 (u5 0 28)) else (VX12_unwinds_b67 K (VX12_unwinds_L0 K nf) u5 l1 x6 0 (u5 0 28))))) σ (σ 15 ((σ 0 27) - 1).toNatClampNeg))
def VX12_unwinds (K : Hp → Prop) (σ : Hp) (a1 : Int32) : Prop := ∃ n, VX12_unwinds_L0 K n σ a1
def VX12_holds (K : Hp → Prop) (σ : Hp) (a1 : Int32) : Prop := vp_in (σ 0 27) 200 ∧ ∀ u1 : Hp, u1 = hup σ 15 (σ 0 27).toNatClampNeg a1 → ∀ u2 : Hp, u2 = hup u1 0 27 ((u1 0 27) + 1) → K u2
def VX12_opensOne (K : Int32 → Hp → Prop) (σ : Hp) (a1 : Int32) : Prop := if (σ 0 28) = 5 then (K 0 σ) else (∀ u2 : Hp, u2 = hup σ 0 28 ((σ 0 28) + 1) → VX12_holds (fun u4 => K 1 u4) u2 a1)
def VX12_between_b55 (K : Int32 → Hp → Prop) (σ : Hp) (l1 : Int32) : Prop := VX12_holds (fun u16 => K 1 u16) σ l1
def VX12_between_b17 (K : Int32 → Hp → Prop) (σ : Hp) (l1 : Int32) (s0 : Int32) : Prop := VX12_unwinds (fun u7 => VX12_rank (fun v8 u9 => if v8 = 4 then (if (u9 0 27) ≤ 0 then (VX12_between_b55 K u9 l1) else (vp_in ((u9 0 27) - 1) 200 ∧ VX12_rank (fun v12 u13 => if v12 = 4 then (K 0 u13) else (VX12_between_b55 K u13 l1)) u9 (u9 15 ((u9 0 27) - 1).toNatClampNeg))) else (VX12_between_b55 K u9 l1)) u7 l1) σ s0
def VX12_between (K : Int32 → Hp → Prop) (σ : Hp) (a1 : Int32) : Prop := VX12_rank (fun v1 u2 => if v1 = 4 then (VX12_between_b17 K u2 a1 5) else (VX12_rank (fun v4 u5 => VX12_between_b17 K u5 a1 v4) u2 a1)) σ a1
def VX12_signOf (K : Int32 → Hp → Prop) (σ : Hp)  : Prop := if (σ 0 23) = 4 then (K 11 σ) else (if (σ 0 23) = 5 then (K 12 σ) else (if (σ 0 23) = 60 then (K 14 σ) else (if (σ 0 23) = 61 then (K 15 σ) else (if (σ 0 23) = 43 then (K 16 σ) else (if (σ 0 23) = 45 then (K 17 σ) else (if (σ 0 23) = 42 then (K 18 σ) else (K (-1) σ)))))))
def VX12_eRead_b61 (K : Int32 → Hp → Prop) (R14 : Hp → Int32 → Int32 → Prop) (σ : Hp) (l2 : Int32) (s0 : Int32) : Prop := VX12_puts (fun u42 => VX12_unwinds (fun u44 => R14 u44 0 l2) u42 7) σ s0
def VX12_eRead_b38 (K : Int32 → Hp → Prop) (R14 : Hp → Int32 → Int32 → Prop) (σ : Hp) (l2 : Int32) : Prop := if (σ 0 23) = 1 then (VX12_eRead_b61 K R14 σ l2 (100000 + (σ 0 24))) else (VX12_eRead_b61 K R14 σ l2 (σ 0 24))
def VX12_eRead_b99 (K : Int32 → Hp → Prop) (R14 : Hp → Int32 → Int32 → Prop) (σ : Hp) (l1 : Int32) : Prop := if (σ 0 23) = 45 then (VX12_opensOne (fun v38 u39 => if v38 = 0 then (K 0 u39) else (R14 u39 l1 0)) σ 19) else (if (σ 0 23) = 40 then (VX12_opensOne (fun v35 u36 => if v35 = 0 then (K 0 u36) else (R14 u36 l1 1)) σ 0) else (K 0 σ))
def VX12_eRead_L14 (K : Int32 → Hp → Prop) : Nat → Hp → Int32 → Int32 → Prop
  | 0, _, _, _ => False
  | nf + 1, σ, l1, l2 => VX12_next (fun u4 => if l1 = 0 then (if (u4 0 23) = 59 then (VX12_unwinds (fun u23 => if (u23 0 27) = 0 then (K 1 u23) else (K 0 u23)) u4 1) else (if (u4 0 23) = 41 then (VX12_unwinds (fun u16 => if (u16 0 27) = 0 then (K 0 u16) else (∀ u18 : Hp, u18 = hup u16 0 27 ((u16 0 27) - 1) → ∀ u19 : Hp, u19 = hup u18 0 28 ((u18 0 28) - 1) → VX12_unwinds (fun u21 => (VX12_eRead_L14 K nf) u21 l1 l2) u19 7)) u4 1) else (VX12_signOf (fun v8 u9 => if v8 = (-1) then (K 0 u9) else (VX12_between (fun v11 u12 => if v11 = 0 then (K 0 u12) else (if 12 < v8 then ((VX12_eRead_L14 K nf) u12 1 0) else ((VX12_eRead_L14 K nf) u12 1 1))) u9 v8)) u4))) else (if (u4 0 23) = 1 then (VX12_eRead_b38 K (VX12_eRead_L14 K nf) u4 l2) else (if (u4 0 23) = 2 then (VX12_eRead_b38 K (VX12_eRead_L14 K nf) u4 l2) else (if (u4 0 23) = 6 then (if l2 = 0 then (VX12_eRead_b99 K (VX12_eRead_L14 K nf) u4 l1) else (VX12_opensOne (fun v29 u30 => if v29 = 0 then (K 0 u30) else ((VX12_eRead_L14 K nf) u30 l1 l2)) u4 13)) else (VX12_eRead_b99 K (VX12_eRead_L14 K nf) u4 l1))))) σ
def VX12_eRead (K : Int32 → Hp → Prop) (σ : Hp)  : Prop := ∀ u1 : Hp, u1 = hup σ 0 27 0 → ∀ u2 : Hp, u2 = hup u1 0 28 0 → ∃ n, VX12_eRead_L14 K n u2 1 1
def VX12_text_b122 (K : Int32 → Hp → Prop) (σ : Hp) (l1 : Int32) : Prop := vp_in ((4 * (σ 0 11)) + 3) 24 ∧ ∀ u22 : Hp, u22 = hup σ 8 ((4 * (σ 0 11)) + 3).toNatClampNeg (σ 0 29) → ∀ u23 : Hp, u23 = hup u22 0 8 0 → if l1 = 0 then (K ((-100) - (u23 0 22)) u23) else (∀ u25 : Hp, u25 = hup u23 0 11 ((u23 0 11) + 1) → K ((u25 0 11) - 1) u25)
def VX12_text_b101 (K : Int32 → Hp → Prop) (σ : Hp) (l1 : Int32) : Prop := if l1 = 0 then (VX12_text_b122 K σ l1) else (VX12_next (fun u12 => if (u12 0 23) = 0 then (VX12_text_b122 K u12 1) else (VX12_text_b122 K u12 0)) σ)
def VX12_text_b60 (K : Int32 → Hp → Prop) (R26 : Hp → Int32 → Int32 → Prop) (σ : Hp) (l2 : Int32) (s0 : Int32) : Prop := vp_in ((4 * (σ 0 11)) + l2) 24 ∧ ∀ u14 : Hp, u14 = hup σ 8 ((4 * (σ 0 11)) + l2).toNatClampNeg (σ 0 29) → if s0 = 0 then (∀ x16 : Int32, x16 = l2 + 1 → R26 u14 0 x16) else (VX12_eRead (fun v17 u18 => if v17 = 0 then (∀ x20 : Int32, x20 = l2 + 1 → R26 u18 0 x20) else (∀ x21 : Int32, x21 = l2 + 1 → R26 u18 1 x21)) u14)
def VX12_text_L26 (K : Int32 → Hp → Prop) : Nat → Hp → Int32 → Int32 → Prop
  | 0, _, _, _ => False
  | nf + 1, σ, l1, l2 => if 3 ≤ l2 then (VX12_text_b101 K σ l1) else (if l1 = 0 then (VX12_text_b101 K σ l1) else (VX12_next (fun u7 => if (u7 0 23) = 3 then (if (u7 0 24) = l2 then (VX12_text_b60 K (VX12_text_L26 K nf) u7 l2 1) else (VX12_text_b60 K (VX12_text_L26 K nf) u7 l2 0)) else (VX12_text_b60 K (VX12_text_L26 K nf) u7 l2 0)) σ))
def VX12_text (K : Int32 → Hp → Prop) (σ : Hp)  : Prop := if (σ 0 11) = 6 then (K (-4) σ) else (∀ u2 : Hp, u2 = hup σ 0 21 0 → ∀ u3 : Hp, u3 = hup u2 0 29 0 → ∃ n, VX12_text_L26 K n u3 1 0)
def VX12_two (K : Int32 → Hp → Prop) (σ : Hp) (a1 : Int32) (a2 : Int32) (a3 : Int32) : Prop := if a1 = 11 then (if a2 = 0 then (if a3 = 0 then (K 0 σ) else (K 1 σ)) else (K 1 σ)) else (if a1 = 12 then (if a2 = 0 then (K 0 σ) else (if a3 = 0 then (K 0 σ) else (K 1 σ))) else (if a1 = 14 then (if a3 ≤ a2 then (K 0 σ) else (K 1 σ)) else (if a1 = 15 then (if a2 = a3 then (K 1 σ) else (K 0 σ)) else (if a1 = 16 then (K (a2 + a3) σ) else (if a1 = 17 then (K (a2 - a3) σ) else (K (a2 * a3) σ))))))
def VX12_says_b66 (K : Int32 → Hp → Prop) (R16 : Hp → Int32 → Int32 → Int32 → Prop) (σ : Hp) (l1 : Int32) (l2 : Int32) (l3 : Int32) (l4 : Int32) : Prop := if 11 ≤ l4 then (vp_in l2 200 ∧ ∀ u21 : Hp, u21 = hup σ 16 l2.toNatClampNeg (l4 - 100000) → ∀ x22 : Int32, x22 = l2 + 1 → ∀ x23 : Int32, x23 = l3 + 1 → R16 u21 l1 x22 x23) else (vp_in l4 6 ∧ vp_in l2 200 ∧ ∀ u24 : Hp, u24 = hup σ 16 l2.toNatClampNeg (σ 17 l4.toNatClampNeg) → ∀ x25 : Int32, x25 = l2 + 1 → ∀ x26 : Int32, x26 = l3 + 1 → R16 u24 l1 x25 x26)
def VX12_says_L16 (K : Int32 → Hp → Prop) : Nat → Hp → Int32 → Int32 → Int32 → Prop
  | 0, _, _, _, _ => False
  | nf + 1, σ, l1, l2, l3 => vp_in (((4 * (σ 0 12)) + l1) + 1) 24 ∧ if (σ 8 (((4 * (σ 0 12)) + l1) + 1).toNatClampNeg) ≤ l3 then (K (σ 16 0) σ) else (vp_in ((200 * (σ 0 12)) + l3) 1200 ∧ ∀ x3 : Int32, x3 = σ 7 ((200 * (σ 0 12)) + l3).toNatClampNeg → if 100000 ≤ x3 then (VX12_says_b66 K (VX12_says_L16 K nf) σ l1 l2 l3 x3) else (if 11 ≤ x3 then (if x3 = 13 then (vp_in (l2 - 1) 200 ∧ if (σ 16 (l2 - 1).toNatClampNeg) = 0 then (vp_in (l2 - 1) 200 ∧ ∀ u18 : Hp, u18 = hup σ 16 (l2 - 1).toNatClampNeg 1 → ∀ x19 : Int32, x19 = l3 + 1 → (VX12_says_L16 K nf) u18 l1 l2 x19) else (vp_in (l2 - 1) 200 ∧ ∀ u16 : Hp, u16 = hup σ 16 (l2 - 1).toNatClampNeg 0 → ∀ x17 : Int32, x17 = l3 + 1 → (VX12_says_L16 K nf) u16 l1 l2 x17)) else (if x3 = 19 then (vp_in (l2 - 1) 200 ∧ vp_in (l2 - 1) 200 ∧ ∀ u13 : Hp, u13 = hup σ 16 (l2 - 1).toNatClampNeg (-(σ 16 (l2 - 1).toNatClampNeg)) → ∀ x14 : Int32, x14 = l3 + 1 → (VX12_says_L16 K nf) u13 l1 l2 x14) else (∀ x8 : Int32, x8 = l2 + (-1) → vp_in (x8 - 1) 200 ∧ vp_in x8 200 ∧ VX12_two (fun v9 u10 => vp_in (x8 - 1) 200 ∧ ∀ u11 : Hp, u11 = hup u10 16 (x8 - 1).toNatClampNeg v9 → ∀ x12 : Int32, x12 = l3 + 1 → (VX12_says_L16 K nf) u11 l1 x8 x12) σ x3 (σ 16 (x8 - 1).toNatClampNeg) (σ 16 x8.toNatClampNeg)))) else (VX12_says_b66 K (VX12_says_L16 K nf) σ l1 l2 l3 x3)))
def VX12_says (K : Int32 → Hp → Prop) (σ : Hp) (a1 : Int32) : Prop := vp_in ((4 * (σ 0 12)) + a1) 24 ∧ ∀ x1 : Int32, x1 = σ 8 ((4 * (σ 0 12)) + a1).toNatClampNeg → ∃ n, VX12_says_L16 K n σ a1 0 x1
def VX12_force (K : Int32 → Hp → Prop) (σ : Hp) (a1 : Int32) : Prop := VX12_in (fun v1 u2 => if v1 = 0 then (K (-2) u2) else (∀ x4 : Int32, x4 = u2 0 12 → ∀ u5 : Hp, u5 = hup u2 0 12 a1 → K x4 u5)) σ a1 0 ((σ 0 11) - 1)
def VX12_asksOf (K : Int32 → Hp → Prop) (σ : Hp) (a1 : Int32) (a2 : Int32) (a3 : Int32) (a4 : Int32) (a5 : Int32) : Prop := ∀ u1 : Hp, u1 = hup σ 17 0 a2 → ∀ u2 : Hp, u2 = hup u1 17 1 (jrem a2 6) → ∀ u3 : Hp, u3 = hup u2 17 2 (a2 / 6) → ∀ u4 : Hp, u4 = hup u3 17 3 a3 → ∀ u5 : Hp, u5 = hup u4 17 4 a4 → ∀ u6 : Hp, u6 = hup u5 17 5 a5 → VX12_says (fun v7 u8 => if a1 = 0 then (VX12_within (fun v15 u16 => K v15 u16) u8 v7 0 4) else (if a1 = 1 then (VX12_within (fun v13 u14 => K v13 u14) u8 v7 0 99) else (VX12_within (fun v11 u12 => K v11 u12) u8 v7 0 9))) u6 a1
def VX12_asks_b42 (K : Int32 → Hp → Prop) (σ : Hp) (l1 : Int32) (l2 : Int32) (l3 : Int32) (l4 : Int32) (s0 : Int32) : Prop := if s0 = 0 then (K (-2) σ) else (VX12_asksOf (fun v14 u15 => K v14 u15) σ l1 l2 l3 (l4 / 10) (jrem l4 10))
def VX12_asks (K : Int32 → Hp → Prop) (σ : Hp) (a1 : Int32) (a2 : Int32) (a3 : Int32) (a4 : Int32) : Prop := VX12_in (fun v1 u2 => if v1 = 0 then (VX12_asks_b42 K u2 a1 a2 a3 a4 0) else (VX12_isCell (fun v4 u5 => if v4 = 0 then (VX12_asks_b42 K u5 a1 a2 a3 a4 0) else (VX12_in (fun v7 u8 => if v7 = 0 then (VX12_asks_b42 K u8 a1 a2 a3 a4 0) else (VX12_in (fun v10 u11 => if v10 = 0 then (VX12_asks_b42 K u11 a1 a2 a3 a4 0) else (VX12_asks_b42 K u11 a1 a2 a3 a4 1)) u8 a4 0 99)) u5 a3 0 99)) u2 a2)) σ a1 0 2
def VX12_thing (K : Int32 → Hp → Prop) (σ : Hp) (a1 : Int32) (a2 : Int32) (a3 : Int32) : Prop := VX12_in (fun v1 u2 => if v1 = 0 then (K (-2) u2) else (VX12_isFree (fun v4 u5 => if v4 = 0 then (K (-2) u5) else (VX12_in (fun v7 u8 => if v7 = 0 then (K (-2) u8) else (if (u8 0 2) = 5 then (K (-4) u8) else (vp_in (u8 0 2) 5 ∧ ∀ u11 : Hp, u11 = hup u8 2 (u8 0 2).toNatClampNeg (a1 / 10) → vp_in (u11 0 2) 5 ∧ ∀ u12 : Hp, u12 = hup u11 3 (u11 0 2).toNatClampNeg (jrem a1 10) → vp_in (u12 0 2) 5 ∧ ∀ u13 : Hp, u13 = hup u12 4 (u12 0 2).toNatClampNeg a2 → vp_in (u13 0 2) 5 ∧ ∀ u14 : Hp, u14 = hup u13 5 (u13 0 2).toNatClampNeg a3 → ∀ u15 : Hp, u15 = hup u14 0 2 ((u14 0 2) + 1) → K ((u15 0 2) - 1) u15))) u5 a3 0 4)) u2 a2)) σ a1 0 59
def VX12_put (K : Int32 → Hp → Prop) (σ : Hp) (a1 : Int32) (a2 : Int32) (a3 : Int32) : Prop := VX12_isThing (fun v1 u2 => if v1 = 0 then (K (-5) u2) else (VX12_isFree (fun v4 u5 => if v4 = 0 then (K (-7) u5) else (VX12_in (fun v7 u8 => if v7 = 0 then (K (-7) u8) else (vp_in a1 5 ∧ ∀ x10 : Int32, x10 = u8 4 a1.toNatClampNeg → vp_in a1 5 ∧ ∀ u11 : Hp, u11 = hup u8 4 a1.toNatClampNeg a2 → vp_in a1 5 ∧ ∀ u12 : Hp, u12 = hup u11 5 a1.toNatClampNeg a3 → K x10 u12)) u5 a3 0 4)) u2 a2)) σ a1
def VX12_told (K : Int32 → Hp → Prop) (σ : Hp) (a1 : Int32) (a2 : Int32) : Prop := VX12_isThing (fun v1 u2 => if v1 = 0 then (K (-5) u2) else (if a2 = 0 then (vp_in a1 5 ∧ K (u2 4 a1.toNatClampNeg) u2) else (if a2 = 1 then (vp_in a1 5 ∧ K (u2 5 a1.toNatClampNeg) u2) else (if a2 = 2 then (vp_in a1 5 ∧ K (u2 2 a1.toNatClampNeg) u2) else (if a2 = 3 then (vp_in a1 5 ∧ K (u2 3 a1.toNatClampNeg) u2) else (K (-7) u2)))))) σ a1
def VX12_touching_b31 (K : Int32 → Hp → Prop) (σ : Hp) (l2 : Int32) : Prop := K (jrem (l2 + 1) 4) σ
def VX12_touching (K : Int32 → Hp → Prop) (σ : Hp) (a1 : Int32) (a2 : Int32) : Prop := vp_in a1 5 ∧ ∀ x1 : Int32, x1 = σ 2 a1.toNatClampNeg → if x1 = 1 then (K 4 σ) else (if x1 = 3 then (K 4 σ) else (if x1 = 2 then (VX12_touching_b31 K σ a2) else (if x1 = 4 then (VX12_touching_b31 K σ a2) else (K (jrem (a2 + 2) 4) σ))))
def VX12_blown_b15 (K : Int32 → Hp → Prop) (σ : Hp) (l1 : Int32) (l2 : Int32) (l3 : Int32) : Prop := if l2 = 4 then (K l3 σ) else (vp_in l1 5 ∧ if (σ 2 l1.toNatClampNeg) = 4 then (K (jrem (l2 + 2) 4) σ) else (K l2 σ))
def VX12_blown (K : Int32 → Hp → Prop) (σ : Hp) (a1 : Int32) (a2 : Int32) (a3 : Int32) : Prop := vp_in a1 5 ∧ if (σ 2 a1.toNatClampNeg) = 5 then (if a3 = 4 then (VX12_blown_b15 K σ a1 a2 a3) else (K a3 σ)) else (VX12_blown_b15 K σ a1 a2 a3)
def VX12_beside_b47 (K : Int32 → Hp → Prop) (σ : Hp) (l2 : Int32) (s0 : Int32) (s1 : Int32) : Prop := ∀ x6 : Int32, x6 = s1 + s0 → VX12_in (fun v7 u8 => if v7 = 0 then (K (-1) u8) else (VX12_in (fun v10 u11 => if v10 = 0 then (K (-1) u11) else (K ((6 * l2) + x6) u11)) u8 x6 0 5)) σ l2 0 4
def VX12_beside_b22 (K : Int32 → Hp → Prop) (σ : Hp) (l0 : Int32) (l1 : Int32) (s0 : Int32) (s1 : Int32) : Prop := ∀ x3 : Int32, x3 = s1 + s0 → if l1 = 1 then (VX12_beside_b47 K σ x3 1 (jrem l0 6)) else (if l1 = 3 then (VX12_beside_b47 K σ x3 (-1) (jrem l0 6)) else (VX12_beside_b47 K σ x3 0 (jrem l0 6)))
def VX12_beside (K : Int32 → Hp → Prop) (σ : Hp) (a1 : Int32) (a2 : Int32) : Prop := if a2 = 0 then (VX12_beside_b22 K σ a1 a2 (-1) (a1 / 6)) else (if a2 = 2 then (VX12_beside_b22 K σ a1 a2 1 (a1 / 6)) else (VX12_beside_b22 K σ a1 a2 0 (a1 / 6)))
def VX12_steps_b132 (K : Hp → Prop) (σ : Hp) (l1 : Int32) : Prop := VX12_touching (fun v24 u25 => ∀ u26 : Hp, u26 = hup u25 0 33 v24 → K u26) σ l1 (σ 0 33)
def VX12_steps_b98 (K : Hp → Prop) (σ : Hp) (l1 : Int32) (s0 : Int32) : Prop := if s0 = 0 then (K σ) else (VX12_beside (fun v17 u18 => if v17 = (-1) then (VX12_steps_b132 K u18 l1) else (VX12_has (fun v20 u21 => if v20 = 0 then (∀ u23 : Hp, u23 = hup u21 0 32 v17 → K u23) else (VX12_steps_b132 K u21 l1)) u18 0 v17)) σ (σ 0 32) (σ 0 33))
def VX12_steps_b60 (K : Hp → Prop) (σ : Hp) (l1 : Int32) (l2 : Int32) : Prop := if (σ 0 33) = 4 then (VX12_steps_b98 K σ l1 0) else (vp_in l1 5 ∧ if (σ 2 l1.toNatClampNeg) = 3 then (vp_in l1 5 ∧ (¬ ((jrem (σ 3 l1.toNatClampNeg) 3) + 1) = 0) ∧ if (jrem l2 ((jrem (σ 3 l1.toNatClampNeg) 3) + 1)) = 0 then (VX12_steps_b98 K σ l1 1) else (VX12_steps_b98 K σ l1 0)) else (VX12_steps_b98 K σ l1 1))
def VX12_steps (K : Hp → Prop) (σ : Hp) (a1 : Int32) (a2 : Int32) : Prop := VX12_has (fun v1 u2 => if v1 = 0 then (VX12_has (fun v4 u5 => if v4 = 0 then (VX12_steps_b60 K u5 a1 a2) else (vp_in a1 5 ∧ VX12_asksOf (fun v7 u8 => VX12_blown (fun v9 u10 => ∀ u11 : Hp, u11 = hup u10 0 33 v9 → VX12_steps_b60 K u11 a1 a2) u8 a1 v7 (u8 0 33)) u5 0 (u5 0 32) a2 a1 (u5 3 a1.toNatClampNeg))) u2 2 (u2 0 32)) else (∀ u12 : Hp, u12 = hup u2 0 33 4 → K u12)) σ 1 (σ 0 32)
def VX12_begins (K : Hp → Prop) (σ : Hp) (a1 : Int32) : Prop := vp_in a1 5 ∧ ∀ u1 : Hp, u1 = hup σ 0 32 (σ 4 a1.toNatClampNeg) → vp_in a1 5 ∧ ∀ u2 : Hp, u2 = hup u1 0 33 (u1 5 a1.toNatClampNeg) → K u2
def VX12_goesBehind_L2 (K : Hp → Prop) : Nat → Hp → Int32 → Int32 → Int32 → Prop
  | 0, _, _, _, _ => False
  | nf + 1, σ, l1, l2, l3 => if l2 ≤ l3 then (K σ) else (VX12_steps (fun u3 => ∀ x4 : Int32, x4 = l3 + 1 → (VX12_goesBehind_L2 K nf) u3 l1 l2 x4) σ l1 ((σ 0 1) + l3))
def VX12_goesBehind (K : Hp → Prop) (σ : Hp) (a1 : Int32) (a2 : Int32) : Prop := ∃ n, VX12_goesBehind_L2 K n σ a1 a2 0
def VX12_cellBehind (K : Int32 → Hp → Prop) (σ : Hp) (a1 : Int32) (a2 : Int32) : Prop := VX12_begins (fun u2 => VX12_goesBehind (fun u4 => K (u4 0 32) u4) u2 a1 a2) σ a1
def VX12_at (K : Int32 → Hp → Prop) (σ : Hp) (a1 : Int32) (a2 : Int32) (a3 : Int32) : Prop := VX12_areSteps (fun v1 u2 => if v1 = 0 then (K (-5) u2) else (VX12_isThing (fun v4 u5 => if v4 = 0 then (K (-5) u5) else (VX12_in (fun v7 u8 => if v7 = 0 then (K (-7) u8) else (VX12_cellBehind (fun v10 u11 => if a3 = 0 then (K v10 u11) else (K (u11 0 33) u11)) u8 a2 a1)) u5 a3 0 1)) u2 a2)) σ a1
def VX12_run_L14 (K : Int32 → Hp → Prop) : Nat → Hp → Int32 → Int32 → Int32 → Prop
  | 0, _, _, _, _ => False
  | nf + 1, σ, l1, l2, l3 => if (σ 0 2) ≤ l3 then (VX12_within (fun v5 u6 => ∀ u7 : Hp, u7 = hup u6 0 1 v5 → K l2 u7) σ ((σ 0 1) + l1) 0 99) else (VX12_cellBehind (fun v8 u9 => vp_in l3 5 ∧ ∀ u10 : Hp, u10 = hup u9 4 l3.toNatClampNeg v8 → vp_in l3 5 ∧ ∀ u11 : Hp, u11 = hup u10 5 l3.toNatClampNeg (u10 0 33) → if (u11 0 33) = 4 then (∀ x15 : Int32, x15 = l2 + 1 → ∀ x16 : Int32, x16 = l3 + 1 → (VX12_run_L14 K nf) u11 l1 x15 x16) else (∀ x13 : Int32, x13 = l2 + 0 → ∀ x14 : Int32, x14 = l3 + 1 → (VX12_run_L14 K nf) u11 l1 x13 x14)) σ l3 l1)
def VX12_run (K : Int32 → Hp → Prop) (σ : Hp) (a1 : Int32) : Prop := VX12_areSteps (fun v1 u2 => if v1 = 0 then (K (-2) u2) else (∃ n, VX12_run_L14 K n u2 a1 0 0)) σ a1
def VX12_first0_L2 (K : Int32 → Hp → Prop) : Nat → Hp → Int32 → Int32 → Int32 → Prop
  | 0, _, _, _, _ => False
  | nf + 1, σ, l1, l2, l3 => if 40 < l3 then (K (-1) σ) else (if (σ 0 32) = l2 then (K l3 σ) else (VX12_steps (fun u4 => ∀ x5 : Int32, x5 = l3 + 1 → (VX12_first0_L2 K nf) u4 l1 l2 x5) σ l1 ((σ 0 1) + l3)))
def VX12_first0 (K : Int32 → Hp → Prop) (σ : Hp) (a1 : Int32) (a2 : Int32) : Prop := ∃ n, VX12_first0_L2 K n σ a1 a2 0
def VX12_when (K : Int32 → Hp → Prop) (σ : Hp) (a1 : Int32) (a2 : Int32) : Prop := VX12_isThing (fun v1 u2 => if v1 = 0 then (K (-5) u2) else (VX12_isCell (fun v4 u5 => if v4 = 0 then (K (-7) u5) else (VX12_begins (fun u8 => VX12_first0 (fun v9 u10 => K v9 u10) u8 a1 a2) u5 a1)) u2 a2)) σ a1
def VX12_meet_L26 (K : Int32 → Hp → Prop) : Nat → Hp → Int32 → Int32 → Int32 → Prop
  | 0, _, _, _, _ => False
  | nf + 1, σ, l1, l2, l3 => if 40 < l3 then (K (-1) σ) else (VX12_cellBehind (fun v9 u10 => VX12_cellBehind (fun v11 u12 => if v9 = v11 then (K l3 u12) else (∀ x14 : Int32, x14 = l3 + 1 → (VX12_meet_L26 K nf) u12 l1 l2 x14)) u10 l2 l3) σ l1 l3)
def VX12_meet (K : Int32 → Hp → Prop) (σ : Hp) (a1 : Int32) (a2 : Int32) : Prop := VX12_isThing (fun v1 u2 => if v1 = 0 then (K (-5) u2) else (VX12_isThing (fun v4 u5 => if v4 = 0 then (K (-5) u5) else (if a1 = a2 then (K (-5) u5) else (∃ n, VX12_meet_L26 K n u5 a1 a2 0))) u2 a2)) σ a1
def VX12_inside_L25 (K : Int32 → Hp → Prop) : Nat → Hp → Int32 → Int32 → Int32 → Int32 → Prop
  | 0, _, _, _, _, _ => False
  | nf + 1, σ, l1, l2, l3, l4 => if (σ 0 2) ≤ l4 then (K l3 σ) else (VX12_cellBehind (fun v8 u9 => if v8 = l2 then (∀ x13 : Int32, x13 = l3 ||| (1 <<< (l4 &&& 31)) → ∀ x14 : Int32, x14 = l4 + 1 → (VX12_inside_L25 K nf) u9 l1 l2 x13 x14) else (∀ x11 : Int32, x11 = l3 ||| 0 → ∀ x12 : Int32, x12 = l4 + 1 → (VX12_inside_L25 K nf) u9 l1 l2 x11 x12)) σ l4 l1)
def VX12_inside (K : Int32 → Hp → Prop) (σ : Hp) (a1 : Int32) (a2 : Int32) : Prop := VX12_areSteps (fun v1 u2 => if v1 = 0 then (K (-5) u2) else (VX12_isCell (fun v4 u5 => if v4 = 0 then (K (-7) u5) else (∃ n, VX12_inside_L25 K n u5 a1 a2 0 0)) u2 a2)) σ a1
def VX12_spreads_b71 (K : Hp → Prop) (R32 : Hp → Int32 → Prop) (R40 : Hp → Int32 → Int32 → Prop) (σ : Hp) (l2 : Int32) (l3 : Int32) (s0 : Int32) : Prop := if s0 = (-1) then (∀ x14 : Int32, x14 = l3 + 1 → R40 σ l2 x14) else (VX12_has (fun v15 u16 => if v15 = 0 then (vp_in s0 30 ∧ if (u16 18 s0.toNatClampNeg) = (-1) then (vp_in s0 30 ∧ ∀ u21 : Hp, u21 = hup u16 18 s0.toNatClampNeg (l2 + 1) → ∀ x22 : Int32, x22 = l3 + 1 → R40 u21 l2 x22) else (∀ x20 : Int32, x20 = l3 + 1 → R40 u16 l2 x20)) else (∀ x18 : Int32, x18 = l3 + 1 → R40 u16 l2 x18)) σ 0 s0)
def VX12_spreads_L40 (K : Hp → Prop) (R32 : Hp → Int32 → Prop) : Nat → Hp → Int32 → Int32 → Prop
  | 0, _, _, _ => False
  | nf + 1, σ, l2, l3 => if 120 ≤ l3 then (∀ x9 : Int32, x9 = l2 + 1 → R32 σ x9) else (vp_in (l3 / 4) 30 ∧ if (σ 18 (l3 / 4).toNatClampNeg) = l2 then (VX12_beside (fun v11 u12 => VX12_spreads_b71 K R32 (VX12_spreads_L40 K R32 nf) u12 l2 l3 v11) σ (l3 / 4) (jrem l3 4)) else (VX12_spreads_b71 K R32 (VX12_spreads_L40 K R32 nf) σ l2 l3 (-1)))
def VX12_spreads_L32 (K : Hp → Prop) : Nat → Hp → Int32 → Prop
  | 0, _, _ => False
  | nf + 1, σ, l2 => if 30 ≤ l2 then (K σ) else (∃ n, VX12_spreads_L40 K (VX12_spreads_L32 K nf) n σ l2 0)
def VX12_spreads_L2 (K : Hp → Prop) : Nat → Hp → Int32 → Int32 → Prop
  | 0, _, _, _ => False
  | nf + 1, σ, l1, l2 => if 30 ≤ l2 then (∃ n, VX12_spreads_L32 K n σ 0) else (if l2 = l1 then (vp_in l2 30 ∧ ∀ u5 : Hp, u5 = hup σ 18 l2.toNatClampNeg 0 → ∀ x6 : Int32, x6 = l2 + 1 → (VX12_spreads_L2 K nf) u5 l1 x6) else (vp_in l2 30 ∧ ∀ u3 : Hp, u3 = hup σ 18 l2.toNatClampNeg (-1) → ∀ x4 : Int32, x4 = l2 + 1 → (VX12_spreads_L2 K nf) u3 l1 x4))
def VX12_spreads (K : Hp → Prop) (σ : Hp) (a1 : Int32) : Prop := ∃ n, VX12_spreads_L2 K n σ a1 0
def VX12_soonest_b65 (K : Int32 → Hp → Prop) (R26 : Hp → Int32 → Int32 → Int32 → Prop) (σ : Hp) (l2 : Int32) (l3 : Int32) (l4 : Int32) : Prop := VX12_steps (fun u9 => ∀ x10 : Int32, x10 = l4 + 1 → R26 u9 l2 l3 x10) σ l2 ((σ 0 1) + l4)
def VX12_soonest_L26 (K : Int32 → Hp → Prop) : Nat → Hp → Int32 → Int32 → Int32 → Prop
  | 0, _, _, _, _ => False
  | nf + 1, σ, l2, l3, l4 => if 40 < l4 then (K (-1) σ) else (vp_in (σ 0 32) 30 ∧ if (σ 18 (σ 0 32).toNatClampNeg) = (-1) then (VX12_soonest_b65 K (VX12_soonest_L26 K nf) σ l2 l3 l4) else (vp_in (σ 0 32) 30 ∧ if (l4 * l3) < (σ 18 (σ 0 32).toNatClampNeg) then (VX12_soonest_b65 K (VX12_soonest_L26 K nf) σ l2 l3 l4) else (K l4 σ)))
def VX12_soonest (K : Int32 → Hp → Prop) (σ : Hp) (a1 : Int32) (a2 : Int32) : Prop := vp_in a2 5 ∧ VX12_asksOf (fun v1 u2 => VX12_begins (fun u4 => ∃ n, VX12_soonest_L26 K n u4 a2 v1 0) u2 a2) σ 2 a1 (σ 0 1) a2 (σ 3 a2.toNatClampNeg)
def VX12_hand (K : Int32 → Hp → Prop) (σ : Hp) (a1 : Int32) (a2 : Int32) : Prop := VX12_isFree (fun v1 u2 => if v1 = 0 then (K (-5) u2) else (VX12_isThing (fun v4 u5 => if v4 = 0 then (K (-5) u5) else (VX12_spreads (fun u8 => VX12_soonest (fun v9 u10 => K v9 u10) u8 a1 a2) u5 a1)) u2 a2)) σ a1
def VX12_first_b127 (K : Int32 → Hp → Prop) (R36 : Hp → Int32 → Int32 → Int32 → Int32 → Int32 → Prop) (σ : Hp) (l1 : Int32) (l2 : Int32) (l4 : Int32) (l5 : Int32) (l7 : Int32) (l8 : Int32) (s0 : Int32) : Prop := if l8 = 0 then (∀ x20 : Int32, x20 = l5 + 1 → R36 σ l1 l2 s0 l4 x20) else (∀ x21 : Int32, x21 = l5 + 1 → R36 σ l1 l2 s0 l7 x21)
def VX12_first_b114 (K : Int32 → Hp → Prop) (R36 : Hp → Int32 → Int32 → Int32 → Int32 → Int32 → Prop) (σ : Hp) (l1 : Int32) (l2 : Int32) (l3 : Int32) (l4 : Int32) (l5 : Int32) (l7 : Int32) (s0 : Int32) : Prop := if s0 = 0 then (VX12_first_b127 K R36 σ l1 l2 l4 l5 l7 s0 l3) else (VX12_first_b127 K R36 σ l1 l2 l4 l5 l7 s0 l5)
def VX12_first_b89 (K : Int32 → Hp → Prop) (R36 : Hp → Int32 → Int32 → Int32 → Int32 → Int32 → Prop) (σ : Hp) (l1 : Int32) (l2 : Int32) (l3 : Int32) (l4 : Int32) (l5 : Int32) (l6 : Int32) (s0 : Int32) : Prop := if l6 = (-1) then (VX12_first_b114 K R36 σ l1 l2 l3 l4 l5 s0 0) else (if l3 = (-1) then (VX12_first_b114 K R36 σ l1 l2 l3 l4 l5 s0 1) else (if s0 ≤ l4 then (VX12_first_b114 K R36 σ l1 l2 l3 l4 l5 s0 0) else (VX12_first_b114 K R36 σ l1 l2 l3 l4 l5 s0 1)))
def VX12_first_L36 (K : Int32 → Hp → Prop) : Nat → Hp → Int32 → Int32 → Int32 → Int32 → Int32 → Prop
  | 0, _, _, _, _, _, _ => False
  | nf + 1, σ, l1, l2, l3, l4, l5 => if (σ 0 2) ≤ l5 then (K l3 σ) else (VX12_soonest (fun v10 u11 => if l2 = 0 then (VX12_first_b89 K (VX12_first_L36 K nf) u11 l1 l2 l3 l4 l5 v10 (-v10)) else (vp_in l5 5 ∧ vp_in l5 5 ∧ VX12_asksOf (fun v13 u14 => VX12_first_b89 K (VX12_first_L36 K nf) u14 l1 l2 l3 l4 l5 v10 v13) u11 1 (u11 4 l5.toNatClampNeg) (u11 0 1) l5 (u11 3 l5.toNatClampNeg))) σ l1 l5)
def VX12_first (K : Int32 → Hp → Prop) (σ : Hp) (a1 : Int32) (a2 : Int32) : Prop := VX12_isFree (fun v1 u2 => if v1 = 0 then (K (-5) u2) else (VX12_in (fun v4 u5 => if v4 = 0 then (K (-7) u5) else (VX12_spreads (fun u8 => ∃ n, VX12_first_L36 K n u8 a1 a2 (-1) 0 0) u5 a1)) u2 a2 0 1)) σ a1
def VX12_wait_b110 (K : Int32 → Hp → Prop) (R31 : Hp → Int32 → Int32 → Int32 → Int32 → Int32 → Prop) (σ : Hp) (l1 : Int32) (l2 : Int32) (l4 : Int32) (l5 : Int32) (l6 : Int32) (l7 : Int32) (s0 : Int32) : Prop := if l7 = 0 then (∀ x24 : Int32, x24 = l5 + 1 → R31 σ l1 l2 s0 l4 x24) else (∀ x25 : Int32, x25 = l5 + 1 → R31 σ l1 l2 s0 l6 x25)
def VX12_wait_b97 (K : Int32 → Hp → Prop) (R31 : Hp → Int32 → Int32 → Int32 → Int32 → Int32 → Prop) (σ : Hp) (l1 : Int32) (l2 : Int32) (l3 : Int32) (l4 : Int32) (l5 : Int32) (l6 : Int32) (s0 : Int32) : Prop := if s0 = 0 then (VX12_wait_b110 K R31 σ l1 l2 l4 l5 l6 s0 l3) else (VX12_wait_b110 K R31 σ l1 l2 l4 l5 l6 s0 l5)
def VX12_wait_L31 (K : Int32 → Hp → Prop) : Nat → Hp → Int32 → Int32 → Int32 → Int32 → Int32 → Prop
  | 0, _, _, _, _, _, _ => False
  | nf + 1, σ, l1, l2, l3, l4, l5 => if 30 ≤ l5 then (if l2 = 0 then (K l3 σ) else (K l4 σ)) else (VX12_isFree (fun v9 u10 => if v9 = 0 then (∀ x12 : Int32, x12 = l5 + 1 → (VX12_wait_L31 K nf) u10 l1 l2 l3 l4 x12) else (vp_in l1 5 ∧ if l5 = (u10 4 l1.toNatClampNeg) then (∀ x14 : Int32, x14 = l5 + 1 → (VX12_wait_L31 K nf) u10 l1 l2 l3 l4 x14) else (VX12_spreads (fun u16 => VX12_soonest (fun v17 u18 => if v17 = (-1) then (VX12_wait_b97 K (VX12_wait_L31 K nf) u18 l1 l2 l3 l4 l5 v17 0) else (if l4 = (-1) then (VX12_wait_b97 K (VX12_wait_L31 K nf) u18 l1 l2 l3 l4 l5 v17 1) else (if l4 ≤ v17 then (VX12_wait_b97 K (VX12_wait_L31 K nf) u18 l1 l2 l3 l4 l5 v17 0) else (VX12_wait_b97 K (VX12_wait_L31 K nf) u18 l1 l2 l3 l4 l5 v17 1)))) u16 l5 l1) u10 l5))) σ l5)
def VX12_wait (K : Int32 → Hp → Prop) (σ : Hp) (a1 : Int32) (a2 : Int32) : Prop := VX12_isThing (fun v1 u2 => if v1 = 0 then (K (-5) u2) else (VX12_in (fun v4 u5 => if v4 = 0 then (K (-7) u5) else (∃ n, VX12_wait_L31 K n u5 a1 a2 (-1) (-1) 0)) u2 a2 0 1)) σ a1
def VX12_toss_b126 (K : Int32 → Hp → Prop) (R57 : Hp → Int32 → Int32 → Int32 → Int32 → Int32 → Int32 → Prop) (σ : Hp) (l1 : Int32) (l2 : Int32) (l3 : Int32) (l5 : Int32) (l6 : Int32) (l7 : Int32) (l8 : Int32) (s0 : Int32) : Prop := if l8 = 0 then (∀ x25 : Int32, x25 = l6 + 1 → R57 σ l1 l2 l3 s0 l5 x25) else (∀ x26 : Int32, x26 = l6 + 1 → R57 σ l1 l2 l3 s0 l7 x26)
def VX12_toss_b112 (K : Int32 → Hp → Prop) (R57 : Hp → Int32 → Int32 → Int32 → Int32 → Int32 → Int32 → Prop) (σ : Hp) (l1 : Int32) (l2 : Int32) (l3 : Int32) (l4 : Int32) (l5 : Int32) (l6 : Int32) (l7 : Int32) (s0 : Int32) : Prop := if s0 = 0 then (VX12_toss_b126 K R57 σ l1 l2 l3 l5 l6 l7 s0 l4) else (VX12_toss_b126 K R57 σ l1 l2 l3 l5 l6 l7 s0 l6)
def VX12_toss_L57 (K : Int32 → Hp → Prop) : Nat → Hp → Int32 → Int32 → Int32 → Int32 → Int32 → Int32 → Prop
  | 0, _, _, _, _, _, _, _ => False
  | nf + 1, σ, l1, l2, l3, l4, l5, l6 => if 4 ≤ l6 then (if l3 = 0 then (K l4 σ) else (K l5 σ)) else (∀ u16 : Hp, u16 = hup σ 0 32 (l2 / 100) → ∀ u17 : Hp, u17 = hup u16 0 33 l6 → VX12_first0 (fun v18 u19 => if v18 = (-1) then (VX12_toss_b112 K (VX12_toss_L57 K nf) u19 l1 l2 l3 l4 l5 l6 v18 0) else (if l5 = (-1) then (VX12_toss_b112 K (VX12_toss_L57 K nf) u19 l1 l2 l3 l4 l5 l6 v18 1) else (if l5 ≤ v18 then (VX12_toss_b112 K (VX12_toss_L57 K nf) u19 l1 l2 l3 l4 l5 l6 v18 0) else (VX12_toss_b112 K (VX12_toss_L57 K nf) u19 l1 l2 l3 l4 l5 l6 v18 1)))) u17 l1 (jrem l2 100))
def VX12_toss (K : Int32 → Hp → Prop) (σ : Hp) (a1 : Int32) (a2 : Int32) (a3 : Int32) : Prop := VX12_isThing (fun v1 u2 => if v1 = 0 then (K (-5) u2) else (if a2 < 0 then (K (-7) u2) else (VX12_isFree (fun v5 u6 => if v5 = 0 then (K (-7) u6) else (VX12_isCell (fun v8 u9 => if v8 = 0 then (K (-7) u9) else (VX12_in (fun v11 u12 => if v11 = 0 then (K (-7) u12) else (∃ n, VX12_toss_L57 K n u12 a1 a2 a3 (-1) (-1) 0)) u9 a3 0 1)) u6 (jrem a2 100))) u2 (a2 / 100)))) σ a1
def VX12_key_b28 (K : Int32 → Hp → Prop) (R4 : Hp → Int32 → Int32 → Prop) (σ : Hp) (l2 : Int32) (s0 : Int32) (s1 : Int32) : Prop := ∀ x3 : Int32, x3 = s1 + s0 → vp_in l2 5 ∧ if (σ 5 l2.toNatClampNeg) = 4 then (vp_in l2 5 ∧ ∀ u7 : Hp, u7 = hup σ 5 l2.toNatClampNeg 4 → ∀ x8 : Int32, x8 = l2 + 1 → R4 u7 x3 x8) else (vp_in l2 5 ∧ vp_in l2 5 ∧ ∀ u5 : Hp, u5 = hup σ 5 l2.toNatClampNeg (jrem ((σ 5 l2.toNatClampNeg) + 1) 4) → ∀ x6 : Int32, x6 = l2 + 1 → R4 u5 x3 x6)
def VX12_key_L4 (K : Int32 → Hp → Prop) : Nat → Hp → Int32 → Int32 → Prop
  | 0, _, _, _ => False
  | nf + 1, σ, l1, l2 => if (σ 0 2) ≤ l2 then (K l1 σ) else (vp_in l2 5 ∧ if (σ 5 l2.toNatClampNeg) = 4 then (VX12_key_b28 K (VX12_key_L4 K nf) σ l2 0 l1) else (VX12_key_b28 K (VX12_key_L4 K nf) σ l2 1 l1))
def VX12_key (K : Int32 → Hp → Prop) (σ : Hp)  : Prop := ∃ n, VX12_key_L4 K n σ 0 0
def VX12_turnedFirst_b56 (K : Int32 → Hp → Prop) (R8 : Hp → Int32 → Int32 → Int32 → Int32 → Prop) (σ : Hp) (l1 : Int32) (l2 : Int32) (l3 : Int32) (l4 : Int32) (s0 : Int32) : Prop := ∀ u7 : Hp, u7 = hup σ 0 33 s0 → VX12_steps (fun u9 => ∀ x10 : Int32, x10 = l4 + 1 → R8 u9 l1 l2 l3 x10) u7 l1 ((u7 0 1) + l4)
def VX12_turnedFirst_L8 (K : Int32 → Hp → Prop) : Nat → Hp → Int32 → Int32 → Int32 → Int32 → Prop
  | 0, _, _, _, _, _ => False
  | nf + 1, σ, l1, l2, l3, l4 => if 40 < l4 then (K (-1) σ) else (if (σ 0 32) = l2 then (K l4 σ) else (if l4 = l3 then (if (σ 0 33) = 4 then (VX12_turnedFirst_b56 K (VX12_turnedFirst_L8 K nf) σ l1 l2 l3 l4 (σ 0 33)) else (VX12_turnedFirst_b56 K (VX12_turnedFirst_L8 K nf) σ l1 l2 l3 l4 (jrem ((σ 0 33) + 1) 4))) else (VX12_turnedFirst_b56 K (VX12_turnedFirst_L8 K nf) σ l1 l2 l3 l4 (σ 0 33))))
def VX12_turnedFirst (K : Int32 → Hp → Prop) (σ : Hp) (a1 : Int32) (a2 : Int32) (a3 : Int32) : Prop := VX12_begins (fun u2 => ∃ n, VX12_turnedFirst_L8 K n u2 a1 a2 a3 0) σ a1
def VX12_turn_b100 (K : Int32 → Hp → Prop) (R45 : Hp → Int32 → Int32 → Int32 → Int32 → Int32 → Int32 → Prop) (σ : Hp) (l1 : Int32) (l2 : Int32) (l3 : Int32) (l5 : Int32) (l6 : Int32) (l7 : Int32) (l8 : Int32) (s0 : Int32) : Prop := if l8 = 0 then (∀ x21 : Int32, x21 = l6 + 1 → R45 σ l1 l2 l3 s0 l5 x21) else (∀ x22 : Int32, x22 = l6 + 1 → R45 σ l1 l2 l3 s0 l7 x22)
def VX12_turn_b86 (K : Int32 → Hp → Prop) (R45 : Hp → Int32 → Int32 → Int32 → Int32 → Int32 → Int32 → Prop) (σ : Hp) (l1 : Int32) (l2 : Int32) (l3 : Int32) (l4 : Int32) (l5 : Int32) (l6 : Int32) (l7 : Int32) (s0 : Int32) : Prop := if s0 = 0 then (VX12_turn_b100 K R45 σ l1 l2 l3 l5 l6 l7 s0 l4) else (VX12_turn_b100 K R45 σ l1 l2 l3 l5 l6 l7 s0 l6)
def VX12_turn_L45 (K : Int32 → Hp → Prop) : Nat → Hp → Int32 → Int32 → Int32 → Int32 → Int32 → Int32 → Prop
  | 0, _, _, _, _, _, _, _ => False
  | nf + 1, σ, l1, l2, l3, l4, l5, l6 => if 20 < l6 then (if l3 = 0 then (K l4 σ) else (K l5 σ)) else (VX12_turnedFirst (fun v14 u15 => if v14 = (-1) then (VX12_turn_b86 K (VX12_turn_L45 K nf) u15 l1 l2 l3 l4 l5 l6 v14 0) else (if l5 = (-1) then (VX12_turn_b86 K (VX12_turn_L45 K nf) u15 l1 l2 l3 l4 l5 l6 v14 1) else (if l5 ≤ v14 then (VX12_turn_b86 K (VX12_turn_L45 K nf) u15 l1 l2 l3 l4 l5 l6 v14 0) else (VX12_turn_b86 K (VX12_turn_L45 K nf) u15 l1 l2 l3 l4 l5 l6 v14 1)))) σ l1 l2 l6)
def VX12_turn (K : Int32 → Hp → Prop) (σ : Hp) (a1 : Int32) (a2 : Int32) (a3 : Int32) : Prop := VX12_isThing (fun v1 u2 => if v1 = 0 then (K (-5) u2) else (VX12_isCell (fun v4 u5 => if v4 = 0 then (K (-7) u5) else (VX12_in (fun v7 u8 => if v7 = 0 then (K (-7) u8) else (VX12_turnedFirst (fun v10 u11 => ∃ n, VX12_turn_L45 K n u11 a1 a2 a3 (-1) v10 0) u8 a1 a2 (-1))) u5 a3 0 1)) u2 a2)) σ a1
def VX12_netted_L4 (K : Int32 → Hp → Prop) : Nat → Hp → Int32 → Int32 → Int32 → Prop
  | 0, _, _, _, _ => False
  | nf + 1, σ, l1, l2, l3 => if (σ 0 2) ≤ l3 then (K l2 σ) else (VX12_cellBehind (fun v2 u3 => VX12_has (fun v4 u5 => if v4 = 0 then (∀ x7 : Int32, x7 = l2 + 0 → ∀ x8 : Int32, x8 = l3 + 1 → (VX12_netted_L4 K nf) u5 l1 x7 x8) else (∀ x9 : Int32, x9 = l2 + 1 → ∀ x10 : Int32, x10 = l3 + 1 → (VX12_netted_L4 K nf) u5 l1 x9 x10)) u3 1 v2) σ l3 l1)
def VX12_netted (K : Int32 → Hp → Prop) (σ : Hp) (a1 : Int32) : Prop := ∃ n, VX12_netted_L4 K n σ a1 0 0
def VX12_net_b106 (K : Int32 → Hp → Prop) (R31 : Hp → Int32 → Int32 → Int32 → Int32 → Int32 → Prop) (σ : Hp) (l1 : Int32) (l2 : Int32) (l4 : Int32) (l5 : Int32) (l6 : Int32) (s0 : Int32) : Prop := if l6 ≤ l4 then (∀ x25 : Int32, x25 = l5 + 1 → R31 σ l1 l2 s0 l4 x25) else (∀ x26 : Int32, x26 = l5 + 1 → R31 σ l1 l2 s0 l6 x26)
def VX12_net_L31 (K : Int32 → Hp → Prop) : Nat → Hp → Int32 → Int32 → Int32 → Int32 → Int32 → Prop
  | 0, _, _, _, _, _, _ => False
  | nf + 1, σ, l1, l2, l3, l4, l5 => if 30 ≤ l5 then (if l2 = 0 then (K l3 σ) else (K l4 σ)) else (VX12_has (fun v11 u12 => if v11 = 0 then (VX12_has (fun v15 u16 => if v15 = 0 then (∀ u19 : Hp, u19 = hup u16 1 1 ((u16 1 1) ||| (1 <<< (l5 &&& 31))) → VX12_netted (fun v20 u21 => ∀ u22 : Hp, u22 = hup u21 1 1 ((u21 1 1) &&& ((1 <<< (l5 &&& 31)) ^^^ (-1))) → if v20 ≤ l4 then (VX12_net_b106 K (VX12_net_L31 K nf) u22 l1 l2 l4 l5 v20 l3) else (VX12_net_b106 K (VX12_net_L31 K nf) u22 l1 l2 l4 l5 v20 l5)) u19 l1) else (∀ x18 : Int32, x18 = l5 + 1 → (VX12_net_L31 K nf) u16 l1 l2 l3 l4 x18)) u12 1 l5) else (∀ x14 : Int32, x14 = l5 + 1 → (VX12_net_L31 K nf) u12 l1 l2 l3 l4 x14)) σ 0 l5)
def VX12_net (K : Int32 → Hp → Prop) (σ : Hp) (a1 : Int32) (a2 : Int32) : Prop := VX12_areSteps (fun v1 u2 => if v1 = 0 then (K (-2) u2) else (VX12_in (fun v4 u5 => if v4 = 0 then (K (-2) u5) else (VX12_netted (fun v7 u8 => ∃ n, VX12_net_L31 K n u8 a1 a2 (-1) v7 0) u5 a1)) u2 a2 0 1)) σ a1
def VX12_letsGo_L2 (K : Hp → Prop) : Nat → Hp → Int32 → Int32 → Int32 → Prop
  | 0, _, _, _, _ => False
  | nf + 1, σ, l1, l2, l3 => if 5 ≤ l3 then (K σ) else (vp_in l1 5 ∧ ∀ u2 : Hp, u2 = hup σ 0 32 (σ 4 l1.toNatClampNeg) → ∀ u3 : Hp, u3 = hup u2 0 33 l3 → VX12_goesBehind (fun u5 => vp_in l3 5 ∧ ∀ u6 : Hp, u6 = hup u5 19 l3.toNatClampNeg (u5 0 32) → ∀ x7 : Int32, x7 = l3 + 1 → (VX12_letsGo_L2 K nf) u6 l1 l2 x7) u3 l1 l2)
def VX12_letsGo (K : Hp → Prop) (σ : Hp) (a1 : Int32) (a2 : Int32) : Prop := ∃ n, VX12_letsGo_L2 K n σ a1 a2 0
def VX12_byHowMany_L4 (K : Int32 → Hp → Prop) : Nat → Hp → Int32 → Int32 → Int32 → Prop
  | 0, _, _, _, _ => False
  | nf + 1, σ, l1, l2, l3 => if 5 ≤ l3 then (K l2 σ) else (vp_in l3 5 ∧ if (σ 19 l3.toNatClampNeg) = l1 then (∀ x5 : Int32, x5 = l2 + 1 → ∀ x6 : Int32, x6 = l3 + 1 → (VX12_byHowMany_L4 K nf) σ l1 x5 x6) else (∀ x3 : Int32, x3 = l2 + 0 → ∀ x4 : Int32, x4 = l3 + 1 → (VX12_byHowMany_L4 K nf) σ l1 x3 x4))
def VX12_byHowMany (K : Int32 → Hp → Prop) (σ : Hp) (a1 : Int32) : Prop := ∃ n, VX12_byHowMany_L4 K n σ a1 0 0
def VX12_can_L32 (K : Int32 → Hp → Prop) : Nat → Hp → Int32 → Int32 → Prop
  | 0, _, _, _ => False
  | nf + 1, σ, l3, l4 => if 5 ≤ l4 then (K l3 σ) else (vp_in l4 5 ∧ ∀ x10 : Int32, x10 = l3 ||| (1 <<< ((σ 19 l4.toNatClampNeg) &&& 31)) → ∀ x11 : Int32, x11 = l4 + 1 → (VX12_can_L32 K nf) σ x10 x11)
def VX12_can (K : Int32 → Hp → Prop) (σ : Hp) (a1 : Int32) (a2 : Int32) : Prop := VX12_isThing (fun v1 u2 => if v1 = 0 then (K (-5) u2) else (VX12_areSteps (fun v4 u5 => if v4 = 0 then (K (-7) u5) else (VX12_letsGo (fun u8 => ∃ n, VX12_can_L32 K n u8 0 0) u5 a1 a2)) u2 a2)) σ a1
def VX12_look_L42 (K : Int32 → Hp → Prop) : Nat → Hp → Int32 → Int32 → Int32 → Prop
  | 0, _, _, _, _ => False
  | nf + 1, σ, l3, l4, l5 => if 30 ≤ l5 then (if l3 = 0 then (K l4 σ) else (VX12_byHowMany (fun v14 u15 => K v14 u15) σ l4)) else (VX12_byHowMany (fun v16 u17 => VX12_byHowMany (fun v18 u19 => if v16 ≤ v18 then (∀ x21 : Int32, x21 = l5 + 1 → (VX12_look_L42 K nf) u19 l3 l4 x21) else (∀ x22 : Int32, x22 = l5 + 1 → (VX12_look_L42 K nf) u19 l3 l5 x22)) u17 l4) σ l5)
def VX12_look (K : Int32 → Hp → Prop) (σ : Hp) (a1 : Int32) (a2 : Int32) (a3 : Int32) : Prop := VX12_isThing (fun v1 u2 => if v1 = 0 then (K (-5) u2) else (VX12_areSteps (fun v4 u5 => if v4 = 0 then (K (-7) u5) else (VX12_in (fun v7 u8 => if v7 = 0 then (K (-7) u8) else (VX12_letsGo (fun u11 => ∃ n, VX12_look_L42 K n u11 a3 0 1) u8 a1 a2)) u5 a3 0 1)) u2 a2)) σ a1
def VX12_went_L40 (K : Int32 → Hp → Prop) : Nat → Hp → Int32 → Int32 → Int32 → Prop
  | 0, _, _, _, _ => False
  | nf + 1, σ, l3, l4, l5 => if 5 ≤ l5 then (K l4 σ) else (vp_in l5 5 ∧ if (σ 19 l5.toNatClampNeg) = l3 then (∀ x16 : Int32, x16 = l4 ||| (1 <<< (l5 &&& 31)) → ∀ x17 : Int32, x17 = l5 + 1 → (VX12_went_L40 K nf) σ l3 x16 x17) else (∀ x14 : Int32, x14 = l4 ||| 0 → ∀ x15 : Int32, x15 = l5 + 1 → (VX12_went_L40 K nf) σ l3 x14 x15))
def VX12_went (K : Int32 → Hp → Prop) (σ : Hp) (a1 : Int32) (a2 : Int32) (a3 : Int32) : Prop := VX12_isThing (fun v1 u2 => if v1 = 0 then (K (-5) u2) else (VX12_areSteps (fun v4 u5 => if v4 = 0 then (K (-7) u5) else (VX12_isCell (fun v7 u8 => if v7 = 0 then (K (-7) u8) else (VX12_letsGo (fun u11 => ∃ n, VX12_went_L40 K n u11 a3 0 0) u8 a1 a2)) u5 a3)) u2 a2)) σ a1
def VX12_lowest_L16 (K : Int64 → Hp → Prop) : Nat → Hp → Int64 → Int64 → Int32 → Int64 → Int64 → Prop
  | 0, _, _, _, _, _, _ => False
  | nf + 1, σ, l0, l2, l4, l5, l7 => if (lg_cmp l7 0) = 0 then (if l4 = 0 then ((¬ l5 = 0) ∧ K (l0 / l5) σ) else ((¬ l5 = 0) ∧ K (l2 / l5) σ)) else ((¬ l7 = 0) ∧ ∀ x4 : Int64, x4 = jlrem l5 l7 → (VX12_lowest_L16 K nf) σ l0 l2 l4 l7 x4)
def VX12_lowest (K : Int64 → Hp → Prop) (σ : Hp) (a1 : Int64) (a2 : Int64) (a3 : Int32) : Prop := if (lg_cmp a1 0) = 0 then (K a3.toInt64 σ) else (∃ n, VX12_lowest_L16 K n σ a1 a2 a3 a1 a2)
def VX12_lookFor_b46 (K : Int32 → Hp → Prop) (R4 : Hp → Int32 → Int32 → Int32 → Prop) (σ : Hp) (l1 : Int32) (l2 : Int32) (l3 : Int32) (s0 : Int32) : Prop := if s0 = 0 then (∀ x14 : Int32, x14 = l2 + 0 → ∀ x15 : Int32, x15 = l3 + 1 → R4 σ l1 x14 x15) else (∀ x16 : Int32, x16 = l2 + 1 → ∀ x17 : Int32, x17 = l3 + 1 → R4 σ l1 x16 x17)
def VX12_lookFor_L4 (K : Int32 → Hp → Prop) : Nat → Hp → Int32 → Int32 → Int32 → Prop
  | 0, _, _, _, _ => False
  | nf + 1, σ, l1, l2, l3 => if 30 ≤ l3 then (K l2 σ) else (VX12_byHowMany (fun v2 u3 => VX12_byHowMany (fun v4 u5 => if v4 < v2 then (VX12_lookFor_b46 K (VX12_lookFor_L4 K nf) u5 l1 l2 l3 1) else (VX12_byHowMany (fun v7 u8 => VX12_byHowMany (fun v9 u10 => if v7 = v9 then (if l1 ≤ l3 then (VX12_lookFor_b46 K (VX12_lookFor_L4 K nf) u10 l1 l2 l3 0) else (VX12_lookFor_b46 K (VX12_lookFor_L4 K nf) u10 l1 l2 l3 1)) else (VX12_lookFor_b46 K (VX12_lookFor_L4 K nf) u10 l1 l2 l3 0)) u8 l1) u5 l3)) u3 l1) σ l3)
def VX12_lookFor (K : Int32 → Hp → Prop) (σ : Hp) (a1 : Int32) : Prop := ∃ n, VX12_lookFor_L4 K n σ a1 1 0
def VX12_search_L40 (K : Int64 → Hp → Prop) : Nat → Hp → Int32 → Int64 → Int32 → Prop
  | 0, _, _, _, _ => False
  | nf + 1, σ, l3, l4, l6 => if 5 ≤ l6 then (VX12_lowest (fun v13 u14 => K v13 u14) σ l4 5 l3) else (vp_in l6 5 ∧ VX12_lookFor (fun v15 u16 => ∀ x17 : Int64, x17 = l4 + v15.toInt64 → ∀ x18 : Int32, x18 = l6 + 1 → (VX12_search_L40 K nf) u16 l3 x17 x18) σ (σ 19 l6.toNatClampNeg))
def VX12_search (K : Int64 → Hp → Prop) (σ : Hp) (a1 : Int32) (a2 : Int32) (a3 : Int32) : Prop := VX12_isThing (fun v1 u2 => if v1 = 0 then (K (-4611686018427387904) u2) else (VX12_areSteps (fun v4 u5 => if v4 = 0 then (K (-4611686018427387904) u5) else (VX12_in (fun v7 u8 => if v7 = 0 then (K (-4611686018427387904) u8) else (VX12_letsGo (fun u11 => ∃ n, VX12_search_L40 K n u11 a3 0 0) u8 a1 a2)) u5 a3 0 1)) u2 a2)) σ a1
def VX12_sheetWrong (K : Int32 → Hp → Prop) (σ : Hp) (a1 : Int32) : Prop := VX12_in (fun v1 u2 => if v1 = 0 then (K (-2) u2) else (vp_in a1 4 ∧ if (u2 10 a1.toNatClampNeg) = (-1) then (K (-11) u2) else (vp_in a1 4 ∧ if (u2 11 a1.toNatClampNeg) = (u2 0 2) then (K 0 u2) else (K (-2) u2)))) σ a1 0 3
def VX12_toldWrong (K : Int32 → Hp → Prop) (σ : Hp) (a1 : Int32) (a2 : Int32) : Prop := VX12_sheetWrong (fun v1 u2 => if v1 = 0 then (VX12_areSteps (fun v4 u5 => if v4 = 0 then (K (-7) u5) else (K 0 u5)) u2 a2) else (K v1 u2)) σ a1
def VX12_unlike_L2 (K : Int32 → Hp → Prop) : Nat → Hp → Int32 → Int32 → Int32 → Prop
  | 0, _, _, _, _ => False
  | nf + 1, σ, l1, l2, l3 => if (σ 0 2) ≤ l3 then (K (-1) σ) else (vp_in ((40 * l1) + l3) 160 ∧ VX12_cellBehind (fun v2 u3 => if (σ 12 ((40 * l1) + l3).toNatClampNeg) = v2 then (∀ x5 : Int32, x5 = l3 + 1 → (VX12_unlike_L2 K nf) u3 l1 l2 x5) else (K l3 u3)) σ l3 l2)
def VX12_unlike (K : Int32 → Hp → Prop) (σ : Hp) (a1 : Int32) (a2 : Int32) : Prop := ∃ n, VX12_unlike_L2 K n σ a1 a2 0
def VX12_judge (K : Int32 → Hp → Prop) (σ : Hp) (a1 : Int32) (a2 : Int32) : Prop := VX12_toldWrong (fun v1 u2 => if v1 = 0 then (VX12_unlike (fun v4 u5 => K v4 u5) u2 a1 a2) else (K v1 u2)) σ a1 a2
def VX12_times_L17 (K : Int64 → Hp → Prop) : Nat → Hp → Int32 → Int64 → Int32 → Prop
  | 0, _, _, _, _ => False
  | nf + 1, σ, l1, l2, l4 => if 40 < l4 then (K l2 σ) else (VX12_unlike (fun v5 u6 => if v5 = (-1) then (∀ x10 : Int64, x10 = l2 ||| (1 <<< (l4.toInt64 &&& 63)) → ∀ x11 : Int32, x11 = l4 + 1 → (VX12_times_L17 K nf) u6 l1 x10 x11) else (∀ x8 : Int64, x8 = l2 ||| 0 → ∀ x9 : Int32, x9 = l4 + 1 → (VX12_times_L17 K nf) u6 l1 x8 x9)) σ l1 l4)
def VX12_times (K : Int64 → Hp → Prop) (σ : Hp) (a1 : Int32) : Prop := VX12_sheetWrong (fun v1 u2 => if v1 = 0 then (∃ n, VX12_times_L17 K n u2 a1 0 0) else (K (-4611686018427387904) u2)) σ a1
def VX12_laws_L25 (K : Int32 → Hp → Prop) : Nat → Hp → Int32 → Int32 → Int32 → Int32 → Int32 → Prop
  | 0, _, _, _, _, _, _ => False
  | nf + 1, σ, l1, l2, l4, l5, l6 => if (σ 0 11) ≤ l6 then (∀ u6 : Hp, u6 = hup σ 0 12 l4 → K l5 u6) else (∀ u7 : Hp, u7 = hup σ 0 12 l6 → VX12_unlike (fun v8 u9 => if v8 = (-1) then (∀ x13 : Int32, x13 = l5 ||| (1 <<< (l6 &&& 31)) → ∀ x14 : Int32, x14 = l6 + 1 → (VX12_laws_L25 K nf) u9 l1 l2 l4 x13 x14) else (∀ x11 : Int32, x11 = l5 ||| 0 → ∀ x12 : Int32, x12 = l6 + 1 → (VX12_laws_L25 K nf) u9 l1 l2 l4 x11 x12)) u7 l1 l2)
def VX12_laws (K : Int32 → Hp → Prop) (σ : Hp) (a1 : Int32) (a2 : Int32) : Prop := VX12_toldWrong (fun v1 u2 => if v1 = 0 then (∀ x4 : Int32, x4 = u2 0 12 → ∃ n, VX12_laws_L25 K n u2 a1 a2 x4 0 0) else (K v1 u2)) σ a1 a2
def VX12_film_L41 (K : Int32 → Hp → Prop) : Nat → Hp → Int32 → Int32 → Int32 → Prop
  | 0, _, _, _, _ => False
  | nf + 1, σ, l1, l2, l3 => if 40 ≤ l3 then (K (σ 0 2) σ) else (if (σ 0 2) ≤ l3 then (vp_in ((40 * l1) + l3) 160 ∧ ∀ u11 : Hp, u11 = hup σ 12 ((40 * l1) + l3).toNatClampNeg 0 → ∀ x12 : Int32, x12 = l3 + 1 → (VX12_film_L41 K nf) u11 l1 l2 x12) else (VX12_cellBehind (fun v13 u14 => vp_in ((40 * l1) + l3) 160 ∧ ∀ u15 : Hp, u15 = hup u14 12 ((40 * l1) + l3).toNatClampNeg v13 → ∀ x16 : Int32, x16 = l3 + 1 → (VX12_film_L41 K nf) u15 l1 l2 x16) σ l3 l2))
def VX12_film (K : Int32 → Hp → Prop) (σ : Hp) (a1 : Int32) (a2 : Int32) : Prop := VX12_in (fun v1 u2 => if v1 = 0 then (K (-2) u2) else (VX12_areSteps (fun v4 u5 => if v4 = 0 then (K (-7) u5) else (vp_in a1 4 ∧ ∀ u7 : Hp, u7 = hup u5 10 a1.toNatClampNeg 2 → vp_in a1 4 ∧ ∀ u8 : Hp, u8 = hup u7 11 a1.toNatClampNeg (u7 0 2) → ∃ n, VX12_film_L41 K n u8 a1 a2 0)) u2 a2)) σ a1 0 3
def VX12_insideBy_L12 (K : Int32 → Hp → Prop) : Nat → Hp → Int32 → Int32 → Int64 → Int32 → Int32 → Prop
  | 0, _, _, _, _, _, _ => False
  | nf + 1, σ, l2, l3, l4, l6, l7 => if (σ 0 2) ≤ l7 then (K l6 σ) else (∀ x3 : Int64, x3 = jlrem (l4 * 48271) 2147483647 → vp_in l7 5 ∧ ∀ u4 : Hp, u4 = hup σ 0 32 (σ 4 l7.toNatClampNeg) → ∀ u5 : Hp, u5 = hup u4 0 33 ((jlrem x3 5).toInt32) → VX12_goesBehind (fun u7 => if (u7 0 32) = l3 then (∀ x11 : Int32, x11 = l6 + 1 → ∀ x12 : Int32, x12 = l7 + 1 → (VX12_insideBy_L12 K nf) u7 l2 l3 x3 x11 x12) else (∀ x9 : Int32, x9 = l6 + 0 → ∀ x10 : Int32, x10 = l7 + 1 → (VX12_insideBy_L12 K nf) u7 l2 l3 x3 x9 x10)) u5 l7 l2)
def VX12_insideBy (K : Int32 → Hp → Prop) (σ : Hp) (a1 : Int32) (a2 : Int32) (a3 : Int32) : Prop := ∀ x1 : Int64, x1 = a1.toInt64 + 1 → ∃ n, VX12_insideBy_L12 K n σ a2 a3 x1 0 0
def VX12_isDrawn (K : Int32 → Hp → Prop) (σ : Hp) (a1 : Int32) (a2 : Int32) (a3 : Int32) : Prop := VX12_in (fun v1 u2 => if v1 = 0 then (K 0 u2) else (VX12_areSteps (fun v4 u5 => if v4 = 0 then (K 0 u5) else (VX12_isCell (fun v7 u8 => if v7 = 0 then (K 0 u8) else (K 1 u8)) u5 a3)) u2 a2)) σ a1 0 99999
def VX12_drawn (K : Int32 → Hp → Prop) (σ : Hp) (a1 : Int32) (a2 : Int32) (a3 : Int32) : Prop := VX12_isDrawn (fun v1 u2 => if v1 = 0 then (K (-2) u2) else (VX12_insideBy (fun v4 u5 => K v4 u5) u2 a1 a2 a3)) σ a1 a2 a3
def VX12_mean_L49 (K : Int64 → Hp → Prop) : Nat → Hp → Int32 → Int32 → Int32 → Int32 → Int64 → Int32 → Prop
  | 0, _, _, _, _, _, _, _ => False
  | nf + 1, σ, l1, l2, l3, l4, l5, l7 => if l2 ≤ l7 then (VX12_lowest (fun v12 u13 => K v12 u13) σ l5 l2.toInt64 l4) else (VX12_insideBy (fun v14 u15 => ∀ x16 : Int64, x16 = l5 + v14.toInt64 → ∀ x17 : Int32, x17 = l7 + 1 → (VX12_mean_L49 K nf) u15 l1 l2 l3 l4 x16 x17) σ (l1 + l7) (l3 / 100) (jrem l3 100))
def VX12_mean (K : Int64 → Hp → Prop) (σ : Hp) (a1 : Int32) (a2 : Int32) (a3 : Int32) (a4 : Int32) : Prop := if a3 < 0 then (K (-4611686018427387904) σ) else (VX12_isDrawn (fun v2 u3 => if v2 = 0 then (K (-4611686018427387904) u3) else (VX12_in (fun v5 u6 => if v5 = 0 then (K (-4611686018427387904) u6) else (VX12_in (fun v8 u9 => if v8 = 0 then (K (-4611686018427387904) u9) else (∃ n, VX12_mean_L49 K n u9 a1 a2 a3 a4 0 0)) u6 a4 0 1)) u3 a2 1 40)) σ a1 (a3 / 100) (jrem a3 100))
def VX12_image_L58 (K : Int32 → Hp → Prop) : Nat → Hp → Int32 → Prop
  | 0, _, _ => False
  | nf + 1, σ, l1 => if 5 ≤ l1 then (K (σ 0 2) σ) else (vp_in l1 5 ∧ vp_in (4 + l1) 14 ∧ ∀ u9 : Hp, u9 = hup σ 9 (4 + l1).toNatClampNeg (σ 4 l1.toNatClampNeg) → vp_in l1 5 ∧ vp_in (9 + l1) 14 ∧ ∀ u10 : Hp, u10 = hup u9 9 (9 + l1).toNatClampNeg (u9 5 l1.toNatClampNeg) → ∀ x11 : Int32, x11 = l1 + 1 → (VX12_image_L58 K nf) u10 x11)
def VX12_image_L23 (K : Int32 → Hp → Prop) : Nat → Hp → Int32 → Prop
  | 0, _, _ => False
  | nf + 1, σ, l1 => if 3 ≤ l1 then (∀ u5 : Hp, u5 = hup σ 9 3 (σ 0 1) → ∃ n, VX12_image_L58 K n u5 0) else (vp_in l1 3 ∧ vp_in l1 14 ∧ ∀ u6 : Hp, u6 = hup σ 9 l1.toNatClampNeg (σ 1 l1.toNatClampNeg) → ∀ x7 : Int32, x7 = l1 + 1 → (VX12_image_L23 K nf) u6 x7)
def VX12_image (K : Int32 → Hp → Prop) (σ : Hp)  : Prop := ∀ u1 : Hp, u1 = hup σ 0 13 1 → ∀ u2 : Hp, u2 = hup u1 0 14 (u1 0 2) → ∀ u3 : Hp, u3 = hup u2 0 15 (u2 0 12) → ∃ n, VX12_image_L23 K n u3 0
def VX12_back_L63 (K : Int32 → Hp → Prop) : Nat → Hp → Int32 → Prop
  | 0, _, _ => False
  | nf + 1, σ, l1 => if 5 ≤ l1 then (K (σ 0 2) σ) else (vp_in (4 + l1) 14 ∧ vp_in l1 5 ∧ ∀ u9 : Hp, u9 = hup σ 4 l1.toNatClampNeg (σ 9 (4 + l1).toNatClampNeg) → vp_in (9 + l1) 14 ∧ vp_in l1 5 ∧ ∀ u10 : Hp, u10 = hup u9 5 l1.toNatClampNeg (u9 9 (9 + l1).toNatClampNeg) → ∀ x11 : Int32, x11 = l1 + 1 → (VX12_back_L63 K nf) u10 x11)
def VX12_back_L28 (K : Int32 → Hp → Prop) : Nat → Hp → Int32 → Prop
  | 0, _, _ => False
  | nf + 1, σ, l1 => if 3 ≤ l1 then (∀ u5 : Hp, u5 = hup σ 0 1 (σ 9 3) → ∃ n, VX12_back_L63 K n u5 0) else (vp_in l1 14 ∧ vp_in l1 3 ∧ ∀ u6 : Hp, u6 = hup σ 1 l1.toNatClampNeg (σ 9 l1.toNatClampNeg) → ∀ x7 : Int32, x7 = l1 + 1 → (VX12_back_L28 K nf) u6 x7)
def VX12_back (K : Int32 → Hp → Prop) (σ : Hp)  : Prop := if (σ 0 13) = 0 then (K (-3) σ) else (∀ u2 : Hp, u2 = hup σ 0 2 (σ 0 14) → ∀ u3 : Hp, u3 = hup u2 0 12 (u2 0 15) → ∃ n, VX12_back_L28 K n u3 0)
def VX12_sheet_L70 (K : Int32 → Hp → Prop) : Nat → Hp → Int32 → Int32 → Prop
  | 0, _, _, _ => False
  | nf + 1, σ, l1, l4 => if 40 ≤ l4 then (K 1 σ) else (vp_in ((40 * l1) + l4) 160 ∧ ∀ u16 : Hp, u16 = hup σ 12 ((40 * l1) + l4).toNatClampNeg 0 → ∀ x17 : Int32, x17 = l4 + 1 → (VX12_sheet_L70 K nf) u16 l1 x17)
def VX12_sheet_b44 (K : Int32 → Hp → Prop) (σ : Hp) (l1 : Int32) (l2 : Int32) (l3 : Int32) : Prop := vp_in l1 4 ∧ ∀ u11 : Hp, u11 = hup σ 10 l1.toNatClampNeg l2 → if l2 = (-1) then (vp_in l1 4 ∧ ∀ u14 : Hp, u14 = hup u11 11 l1.toNatClampNeg 0 → ∃ n, VX12_sheet_L70 K n u14 l1 0) else (vp_in l1 4 ∧ ∀ u13 : Hp, u13 = hup u11 11 l1.toNatClampNeg l3 → ∃ n, VX12_sheet_L70 K n u13 l1 0)
def VX12_sheet_b32 (K : Int32 → Hp → Prop) (σ : Hp) (l1 : Int32) (l2 : Int32) (l3 : Int32) : Prop := if l2 = (-1) then (VX12_sheet_b44 K σ l1 l2 l3) else (if 0 ≤ l3 then (VX12_sheet_b44 K σ l1 l2 l3) else (K (-14) σ))
def VX12_sheet (K : Int32 → Hp → Prop) (σ : Hp) (a1 : Int32) (a2 : Int32) (a3 : Int32) : Prop := VX12_in (fun v1 u2 => if v1 = 0 then (K (-2) u2) else (VX12_in (fun v4 u5 => if v4 = 0 then (K (-2) u5) else (if a2 = (-1) then (VX12_sheet_b32 K u5 a1 a2 a3) else (if a3 ≤ 40 then (VX12_sheet_b32 K u5 a1 a2 a3) else (K (-2) u5)))) u2 a2 (-1) 2)) σ a1 0 3
def VX12_cell (K : Int32 → Hp → Prop) (σ : Hp) (a1 : Int32) (a2 : Int32) (a3 : Int32) : Prop := VX12_in (fun v1 u2 => if v1 = 0 then (K (-2) u2) else (vp_in a1 4 ∧ if (u2 10 a1.toNatClampNeg) = (-1) then (K (-11) u2) else (vp_in a1 4 ∧ VX12_in (fun v5 u6 => if v5 = 0 then (K (-12) u6) else (vp_in a1 4 ∧ if (u6 10 a1.toNatClampNeg) = 0 then (vp_in ((40 * a1) + a2) 160 ∧ ∀ u12 : Hp, u12 = hup u6 12 ((40 * a1) + a2).toNatClampNeg a3.toInt8.toInt32 → K 1 u12) else (vp_in a1 4 ∧ if (u6 10 a1.toNatClampNeg) = 1 then (vp_in ((40 * a1) + a2) 160 ∧ ∀ u11 : Hp, u11 = hup u6 12 ((40 * a1) + a2).toNatClampNeg a3.toInt16.toInt32 → K 1 u11) else (vp_in ((40 * a1) + a2) 160 ∧ ∀ u10 : Hp, u10 = hup u6 12 ((40 * a1) + a2).toNatClampNeg a3 → K 1 u10)))) u2 a2 0 ((u2 11 a1.toNatClampNeg) - 1)))) σ a1 0 3
def VX12_copy_b173 (K : Int32 → Hp → Prop) (R147 : Hp → Int32 → Int32 → Int32 → Int32 → Prop) (σ : Hp) (l5 : Int32) (l6 : Int32) (l7 : Int32) (l8 : Int32) (s0 : Int32) : Prop := vp_in (l6 + s0) 160 ∧ vp_in (l7 + s0) 160 ∧ ∀ u21 : Hp, u21 = hup σ 12 (l7 + s0).toNatClampNeg (σ 12 (l6 + s0).toNatClampNeg) → ∀ x22 : Int32, x22 = l8 + 1 → R147 u21 l5 l6 l7 x22
def VX12_copy_L147 (K : Int32 → Hp → Prop) : Nat → Hp → Int32 → Int32 → Int32 → Int32 → Prop
  | 0, _, _, _, _, _ => False
  | nf + 1, σ, l5, l6, l7, l8 => if l5 ≤ l8 then (K l5 σ) else (if l7 ≤ l6 then (VX12_copy_b173 K (VX12_copy_L147 K nf) σ l5 l6 l7 l8 l8) else (VX12_copy_b173 K (VX12_copy_L147 K nf) σ l5 l6 l7 l8 ((l5 - 1) - l8)))
def VX12_copy (K : Int32 → Hp → Prop) (σ : Hp) (a1 : Int32) (a2 : Int32) (a3 : Int32) (a4 : Int32) (a5 : Int32) : Prop := VX12_in (fun v1 u2 => if v1 = 0 then (K (-2) u2) else (VX12_in (fun v4 u5 => if v4 = 0 then (K (-2) u5) else (vp_in a1 4 ∧ if (u5 10 a1.toNatClampNeg) = (-1) then (K (-11) u5) else (vp_in a3 4 ∧ if (u5 10 a3.toNatClampNeg) = (-1) then (K (-11) u5) else (vp_in a1 4 ∧ vp_in a3 4 ∧ if (u5 10 a1.toNatClampNeg) = (u5 10 a3.toNatClampNeg) then (if a5 < 0 then (K (-12) u5) else (if a2 < 0 then (K (-12) u5) else (if a4 < 0 then (K (-12) u5) else (vp_in a1 4 ∧ if (u5 11 a1.toNatClampNeg) < a2 then (K (-12) u5) else (vp_in a3 4 ∧ if (u5 11 a3.toNatClampNeg) < a4 then (K (-12) u5) else (vp_in a1 4 ∧ if ((u5 11 a1.toNatClampNeg) - a2) < a5 then (K (-12) u5) else (vp_in a3 4 ∧ if a5 ≤ ((u5 11 a3.toNatClampNeg) - a4) then (∀ x17 : Int32, x17 = (40 * a1) + a2 → ∀ x18 : Int32, x18 = (40 * a3) + a4 → ∃ n, VX12_copy_L147 K n u5 a5 x17 x18 0) else (K (-12) u5)))))))) else (K (-13) u5))))) u2 a3 0 3)) σ a1 0 3
def VX12_thingsBy_L63 (K : Int32 → Hp → Prop) : Nat → Hp → Int32 → Int32 → Int32 → Int32 → Int32 → Prop
  | 0, _, _, _, _, _, _ => False
  | nf + 1, σ, l1, l3, l4, l5, l6 => if l4 ≤ l6 then (K l5 σ) else (∀ x13 : Int32, x13 = l3 + (3 * l6) → if l3 < 0 then (K (-12) σ) else (if x13 < l3 then (K (-12) σ) else (vp_in l1 4 ∧ if x13 ≤ ((σ 11 l1.toNatClampNeg) - 3) then (∀ x17 : Int32, x17 = (40 * l1) + x13 → vp_in x17 160 ∧ vp_in (x17 + 1) 160 ∧ vp_in (x17 + 2) 160 ∧ VX12_thing (fun v18 u19 => if v18 < 0 then (∀ x21 : Int32, x21 = l5 + 0 → ∀ x22 : Int32, x22 = l6 + 1 → (VX12_thingsBy_L63 K nf) u19 l1 l3 l4 x21 x22) else (∀ x23 : Int32, x23 = l5 + 1 → ∀ x24 : Int32, x24 = l6 + 1 → (VX12_thingsBy_L63 K nf) u19 l1 l3 l4 x23 x24)) σ (σ 12 x17.toNatClampNeg) (σ 12 (x17 + 1).toNatClampNeg) (σ 12 (x17 + 2).toNatClampNeg)) else (K (-12) σ))))
def VX12_thingsBy (K : Int32 → Hp → Prop) (σ : Hp) (a1 : Int32) (a2 : Int32) (a3 : Int32) (a4 : Int32) : Prop := VX12_in (fun v1 u2 => if v1 = 0 then (K (-2) u2) else (VX12_in (fun v4 u5 => if v4 = 0 then (K (-2) u5) else (VX12_in (fun v7 u8 => if v7 = 0 then (K (-2) u8) else (vp_in a1 4 ∧ if (u8 10 a1.toNatClampNeg) = (-1) then (K (-11) u8) else (vp_in a1 4 ∧ if (u8 10 a1.toNatClampNeg) = a2 then (∃ n, VX12_thingsBy_L63 K n u8 a1 a3 a4 0 0) else (K (-13) u8)))) u5 a4 0 5)) u2 a2 0 2)) σ a1 0 3
def VX12_isUnder_b19 (K : Int32 → Hp → Prop) (σ : Hp) (l0 : Int32) (l1 : Int32) : Prop := if l1 = 2 then (if l0 = 4 then (K 1 σ) else (K 0 σ)) else (K 0 σ)
def VX12_isUnder (K : Int32 → Hp → Prop) (σ : Hp) (a1 : Int32) (a2 : Int32) : Prop := if a2 = 0 then (K 1 σ) else (if a1 = a2 then (K 1 σ) else (if a2 = 1 then (if a1 = 3 then (K 1 σ) else (VX12_isUnder_b19 K σ a1 a2)) else (VX12_isUnder_b19 K σ a1 a2)))
def VX12_taken_b55 (K : Int32 → Hp → Prop) (σ : Hp) (l1 : Int32) (l2 : Int32) : Prop := if l2 = 6 then (VX12_has (fun v20 u21 => if v20 = 0 then (K 0 u21) else (K 1 u21)) σ 1 l1) else (K (-13) σ)
def VX12_taken (K : Int32 → Hp → Prop) (σ : Hp) (a1 : Int32) (a2 : Int32) : Prop := VX12_in (fun v1 u2 => if v1 = 0 then (K (-2) u2) else (VX12_in (fun v4 u5 => if v4 = 0 then (K (-12) u5) else (if 30 ≤ a1 then (if (a1 - 30) < (u5 0 2) then (if 6 ≤ a2 then (K (-13) u5) else (vp_in (a1 - 30) 5 ∧ VX12_isUnder (fun v10 u11 => if v10 = 0 then (K (-13) u11) else (K (a1 - 30) u11)) u5 (u5 2 (a1 - 30).toNatClampNeg) a2)) else (K (-11) u5)) else (VX12_has (fun v13 u14 => if v13 = 0 then (VX12_has (fun v16 u17 => if v16 = 0 then (K (-11) u17) else (VX12_taken_b55 K u17 a1 a2)) u14 2 a1) else (VX12_taken_b55 K u14 a1 a2)) u5 1 a1))) u2 a1 0 34)) σ a2 0 6
end
section
def VT9_clear (K : Hp → Prop) (σ : Hp)  : Prop := ∀ u1 : Hp, u1 = hup σ 0 3 0 → ∀ u2 : Hp, u2 = hup u1 0 4 0 → K u2
def VT9_add (K : Hp → Prop) (σ : Hp) (a1 : Int32) : Prop := if 160 ≤ (σ 0 3) then (K σ) else (vp_in (σ 0 3) 160 ∧ ∀ u2 : Hp, u2 = hup σ 1 (σ 0 3).toNatClampNeg a1 → ∀ u3 : Hp, u3 = hup u2 0 3 ((u2 0 3) + 1) → K u3)
def VT9_endPart (K : Hp → Prop) (σ : Hp)  : Prop := if 3 ≤ (σ 0 4) then (K σ) else (∀ u2 : Hp, u2 = hup σ 0 4 ((σ 0 4) + 1) → vp_in (u2 0 4) 4 ∧ ∀ u3 : Hp, u3 = hup u2 2 (u2 0 4).toNatClampNeg (u2 0 3) → K u3)
def VT9_becomeNumbers (K : Hp → Prop) (σ : Hp) (a1 : Int32) (a2 : Int32) (a3 : Int32) : Prop := VT9_clear (fun u2 => VT9_add (fun u4 => VT9_endPart (fun u6 => VT9_add (fun u8 => VT9_endPart (fun u10 => VT9_add (fun u12 => VT9_endPart (fun u14 => K u14) u12) u10 a3) u8) u6 a2) u4) u2 a1) σ
end
section
def mA10_1 : Nat → Int32 := upd (fun _ => 0) 0 (-1)
def mA10_2 : Nat → Int32 := upd mA10_1 1 (-1)
def mA10_3 : Nat → Int32 := upd mA10_2 2 (-1)
def mA10_4 : Nat → Int32 := upd mA10_3 3 (-1)
def mA17_1 : Nat → Int32 := upd (fun _ => 0) 0 98
def mA17_2 : Nat → Int32 := upd mA17_1 1 108
def mA17_3 : Nat → Int32 := upd mA17_2 2 111
def mA17_4 : Nat → Int32 := upd mA17_3 3 119
def mA17_5 : Nat → Int32 := upd mA17_4 4 115
def mA17_6 : Nat → Int32 := upd mA17_5 5 32
def mA17_7 : Nat → Int32 := upd mA17_6 6 52
def mA17_8 : Nat → Int32 := upd mA17_7 7 32
def mA17_9 : Nat → Int32 := upd mA17_8 8 59
def mA17_10 : Nat → Int32 := upd mA17_9 9 32
def mA17_11 : Nat → Int32 := upd mA17_10 10 119
def mA17_12 : Nat → Int32 := upd mA17_11 11 111
def mA17_13 : Nat → Int32 := upd mA17_12 12 114
def mA17_14 : Nat → Int32 := upd mA17_13 13 116
def mA17_15 : Nat → Int32 := upd mA17_14 14 104
def mA17_16 : Nat → Int32 := upd mA17_15 15 32
def mA17_17 : Nat → Int32 := upd mA17_16 16 53
def mA17_18 : Nat → Int32 := upd mA17_17 17 32
def mA17_19 : Nat → Int32 := upd mA17_18 18 59
def mA17_20 : Nat → Int32 := upd mA17_19 19 32
def mA17_21 : Nat → Int32 := upd mA17_20 20 104
def mA17_22 : Nat → Int32 := upd mA17_21 21 97
def mA17_23 : Nat → Int32 := upd mA17_22 22 110
def mA17_24 : Nat → Int32 := upd mA17_23 23 100
def mA17_25 : Nat → Int32 := upd mA17_24 24 115
def mA17_26 : Nat → Int32 := upd mA17_25 25 32
def mA17_27 : Nat → Int32 := upd mA17_26 26 49
def mA17_28 : Nat → Int32 := upd mA17_27 27 32
def mA17_29 : Nat → Int32 := upd mA17_28 28 59
def mA47_1 : Nat → Int32 := upd (fun _ => 0) 0 98
def mA47_2 : Nat → Int32 := upd mA47_1 1 108
def mA47_3 : Nat → Int32 := upd mA47_2 2 111
def mA47_4 : Nat → Int32 := upd mA47_3 3 119
def mA47_5 : Nat → Int32 := upd mA47_4 4 115
def mA47_6 : Nat → Int32 := upd mA47_5 5 32
def mA47_7 : Nat → Int32 := upd mA47_6 6 32
def mA47_8 : Nat → Int32 := upd mA47_7 7 32
def mA47_9 : Nat → Int32 := upd mA47_8 8 119
def mA47_10 : Nat → Int32 := upd mA47_9 9 111
def mA47_11 : Nat → Int32 := upd mA47_10 10 114
def mA47_12 : Nat → Int32 := upd mA47_11 11 116
def mA47_13 : Nat → Int32 := upd mA47_12 12 104
def mA47_14 : Nat → Int32 := upd mA47_13 13 32
def mA47_15 : Nat → Int32 := upd mA47_14 14 32
def mA47_16 : Nat → Int32 := upd mA47_15 15 32
def mA47_17 : Nat → Int32 := upd mA47_16 16 104
def mA47_18 : Nat → Int32 := upd mA47_17 17 97
def mA47_19 : Nat → Int32 := upd mA47_18 18 110
def mA47_20 : Nat → Int32 := upd mA47_19 19 100
def mA47_21 : Nat → Int32 := upd mA47_20 20 115
def mA47_22 : Nat → Int32 := upd mA47_21 21 32
def mA47_23 : Nat → Int32 := upd mA47_22 22 32
def mA47_24 : Nat → Int32 := upd mA47_23 23 32
def mA47_25 : Nat → Int32 := upd mA47_24 24 99
def mA47_26 : Nat → Int32 := upd mA47_25 25 101
def mA47_27 : Nat → Int32 := upd mA47_26 26 108
def mA47_28 : Nat → Int32 := upd mA47_27 27 108
def mA47_29 : Nat → Int32 := upd mA47_28 28 32
def mA47_30 : Nat → Int32 := upd mA47_29 29 32
def mA47_31 : Nat → Int32 := upd mA47_30 30 32
def mA47_32 : Nat → Int32 := upd mA47_31 31 32
def mA47_33 : Nat → Int32 := upd mA47_32 32 120
def mA47_34 : Nat → Int32 := upd mA47_33 33 32
def mA47_35 : Nat → Int32 := upd mA47_34 34 32
def mA47_36 : Nat → Int32 := upd mA47_35 35 32
def mA47_37 : Nat → Int32 := upd mA47_36 36 32
def mA47_38 : Nat → Int32 := upd mA47_37 37 32
def mA47_39 : Nat → Int32 := upd mA47_38 38 32
def mA47_40 : Nat → Int32 := upd mA47_39 39 32
def mA47_41 : Nat → Int32 := upd mA47_40 40 121
def mA47_42 : Nat → Int32 := upd mA47_41 41 32
def mA47_43 : Nat → Int32 := upd mA47_42 42 32
def mA47_44 : Nat → Int32 := upd mA47_43 43 32
def mA47_45 : Nat → Int32 := upd mA47_44 44 32
def mA47_46 : Nat → Int32 := upd mA47_45 45 32
def mA47_47 : Nat → Int32 := upd mA47_46 46 32
def mA47_48 : Nat → Int32 := upd mA47_47 47 32
def mA47_49 : Nat → Int32 := upd mA47_48 48 115
def mA47_50 : Nat → Int32 := upd mA47_49 49 116
def mA47_51 : Nat → Int32 := upd mA47_50 50 101
def mA47_52 : Nat → Int32 := upd mA47_51 51 112
def mA47_53 : Nat → Int32 := upd mA47_52 52 32
def mA47_54 : Nat → Int32 := upd mA47_53 53 32
def mA47_55 : Nat → Int32 := upd mA47_54 54 32
def mA47_56 : Nat → Int32 := upd mA47_55 55 32
def mA47_57 : Nat → Int32 := upd mA47_56 56 116
def mA47_58 : Nat → Int32 := upd mA47_57 57 104
def mA47_59 : Nat → Int32 := upd mA47_58 58 105
def mA47_60 : Nat → Int32 := upd mA47_59 59 110
def mA47_61 : Nat → Int32 := upd mA47_60 60 103
def mA47_62 : Nat → Int32 := upd mA47_61 61 32
def mA47_63 : Nat → Int32 := upd mA47_62 62 32
def mA47_64 : Nat → Int32 := upd mA47_63 63 32
def mA47_65 : Nat → Int32 := upd mA47_64 64 109
def mA47_66 : Nat → Int32 := upd mA47_65 65 111
def mA47_67 : Nat → Int32 := upd mA47_66 66 114
def mA47_68 : Nat → Int32 := upd mA47_67 67 101
def mA47_69 : Nat → Int32 := upd mA47_68 68 32
def mA47_70 : Nat → Int32 := upd mA47_69 69 32
def mA47_71 : Nat → Int32 := upd mA47_70 70 32
def mA47_72 : Nat → Int32 := upd mA47_71 71 32
def mA47_73 : Nat → Int32 := upd mA47_72 72 111
def mA47_74 : Nat → Int32 := upd mA47_73 73 114
def mA47_75 : Nat → Int32 := upd mA47_74 74 32
def mA47_76 : Nat → Int32 := upd mA47_75 75 32
def mA47_77 : Nat → Int32 := upd mA47_76 76 32
def mA47_78 : Nat → Int32 := upd mA47_77 77 32
def mA47_79 : Nat → Int32 := upd mA47_78 78 32
def mA47_80 : Nat → Int32 := upd mA47_79 79 32
def mA47_81 : Nat → Int32 := upd mA47_80 80 97
def mA47_82 : Nat → Int32 := upd mA47_81 81 110
def mA47_83 : Nat → Int32 := upd mA47_82 82 100
def mA47_84 : Nat → Int32 := upd mA47_83 83 32
def mA47_85 : Nat → Int32 := upd mA47_84 84 32
def mA47_86 : Nat → Int32 := upd mA47_85 85 32
def mA47_87 : Nat → Int32 := upd mA47_86 86 32
def mA47_88 : Nat → Int32 := upd mA47_87 87 32
def mA47_89 : Nat → Int32 := upd mA47_88 88 110
def mA47_90 : Nat → Int32 := upd mA47_89 89 111
def mA47_91 : Nat → Int32 := upd mA47_90 90 116
def mA47_92 : Nat → Int32 := upd mA47_91 91 32
def mA47_93 : Nat → Int32 := upd mA47_92 92 32
def mA47_94 : Nat → Int32 := upd mA47_93 93 32
def mA47_95 : Nat → Int32 := upd mA47_94 94 32
def mA47_96 : Nat → Int32 := upd mA47_95 95 32
def mA6_1 : Nat → Int32 := upd (fun _ => 0) 0 (mA17_29 0)
def mA6_2 : Nat → Int32 := upd mA6_1 1 (mA17_29 1)
def mA6_3 : Nat → Int32 := upd mA6_2 2 (mA17_29 2)
def mA6_4 : Nat → Int32 := upd mA6_3 3 (mA17_29 3)
def mA6_5 : Nat → Int32 := upd mA6_4 4 (mA17_29 4)
def mA6_6 : Nat → Int32 := upd mA6_5 5 (mA17_29 5)
def mA6_7 : Nat → Int32 := upd mA6_6 6 (mA17_29 6)
def mA6_8 : Nat → Int32 := upd mA6_7 7 (mA17_29 7)
def mA6_9 : Nat → Int32 := upd mA6_8 8 (mA17_29 8)
def mA6_10 : Nat → Int32 := upd mA6_9 9 (mA17_29 9)
def mA6_11 : Nat → Int32 := upd mA6_10 10 (mA17_29 10)
def mA6_12 : Nat → Int32 := upd mA6_11 11 (mA17_29 11)
def mA6_13 : Nat → Int32 := upd mA6_12 12 (mA17_29 12)
def mA6_14 : Nat → Int32 := upd mA6_13 13 (mA17_29 13)
def mA6_15 : Nat → Int32 := upd mA6_14 14 (mA17_29 14)
def mA6_16 : Nat → Int32 := upd mA6_15 15 (mA17_29 15)
def mA6_17 : Nat → Int32 := upd mA6_16 16 (mA17_29 16)
def mA6_18 : Nat → Int32 := upd mA6_17 17 (mA17_29 17)
def mA6_19 : Nat → Int32 := upd mA6_18 18 (mA17_29 18)
def mA6_20 : Nat → Int32 := upd mA6_19 19 (mA17_29 19)
def mA6_21 : Nat → Int32 := upd mA6_20 20 (mA17_29 20)
def mA6_22 : Nat → Int32 := upd mA6_21 21 (mA17_29 21)
def mA6_23 : Nat → Int32 := upd mA6_22 22 (mA17_29 22)
def mA6_24 : Nat → Int32 := upd mA6_23 23 (mA17_29 23)
def mA6_25 : Nat → Int32 := upd mA6_24 24 (mA17_29 24)
def mA6_26 : Nat → Int32 := upd mA6_25 25 (mA17_29 25)
def mA6_27 : Nat → Int32 := upd mA6_26 26 (mA17_29 26)
def mA6_28 : Nat → Int32 := upd mA6_27 27 (mA17_29 27)
def mA6_29 : Nat → Int32 := upd mA6_28 28 (mA17_29 28)
def m1 : Hp := fun k => if k = 0 then (fun i => if i = 8 then 29 else 0) else if k = 6 then mA6_29 else if k = 10 then mA10_4 else if k = 13 then mA17_29 else if k = 14 then mA47_96 else fun _ => 0
end
section
section YSTR
variable {p : Program} {l : Launch} {e : Env} {R : Room} {s : State} {m : MethodId} {args : Array Value} {below : List Frame} {meth : Method} {c : Code}
variable {w : wT} {cf : cT} {n : Nat} {A : Nat → Prop} {Q : State → Prop} {nL : Nat} {σ : Hp} {pc : Nat} {lv : List (Nat × Value)} {st rest : List Value} {cc : ByteArray} {own : String} {r : Option FieldType}
theorem y_sval (E : YE p m meth c cc nL s args own r w n A) {i index : Nat} (hi : i < 12) (hlink : Cond.fieldLink own index "java/lang/String" "value" "[B" ∈ wG) (hd : decode cc pc = .ok (.getfield index, 3)) (kk : YY p l e R s m args below meth c w cf n A Q nL σ (pc + 3) lv (.ref (w.2.2.2.2 i) :: rest)) : YY p l e R s m args below meth c w cf n A Q nL σ pc lv (.ref (w.2.2.2.1 i) :: rest) := fun H locs ls hP hS hl =>
  vk_getf E.1.1 E.1.2.1 (E.2.1.2.2.1.1 i hi).2.2.1 hS E.1.2.2.2.1 (E.1.2.2.2.2 _ hlink) (fun _ h => h) hd (kk H locs ls hP hS hl)
theorem y_scod (E : YE p m meth c cc nL s args own r w n A) {i index : Nat} (hi : i < 12) (hlink : Cond.fieldLink own index "java/lang/String" "coder" "B" ∈ wG) (hd : decode cc pc = .ok (.getfield index, 3)) (kk : YY p l e R s m args below meth c w cf n A Q nL σ (pc + 3) lv (.int 0 :: rest)) : YY p l e R s m args below meth c w cf n A Q nL σ pc lv (.ref (w.2.2.2.1 i) :: rest) := fun H locs ls hP hS hl =>
  vk_getf E.1.1 E.1.2.1 (E.2.1.2.2.1.1 i hi).2.1 hS E.1.2.2.2.1 (E.1.2.2.2.2 _ hlink) (fun _ h => h) hd (kk H locs ls hP hS hl)
theorem y_slen (E : YE p m meth c cc nL s args own r w n A) {i : Nat} (hi : i < 12) (hd : decode cc pc = .ok (.arraylength, 1)) (kk : YY p l e R s m args below meth c w cf n A Q nL σ (pc + 1) lv (.int (nI (scLen.getD i 0)) :: rest)) : YY p l e R s m args below meth c w cf n A Q nL σ pc lv (.ref (w.2.2.2.2 i) :: rest) := fun H locs ls hP hS hl =>
  va_tlen E.1.1 E.1.2.1 (E.2.1.2.2.1.1 i hi).2.2.2 hS rfl hd (kk H locs ls hP hS hl)
theorem y_sbyt (E : YE p m meth c cc nL s args own r w n A) {i : Nat} {k : Int32} (hi : i < 12) (hk : vp_in k (scLen.getD i 0)) (hd : decode cc pc = .ok (.baload, 1)) (kk : YY p l e R s m args below meth c w cf n A Q nL σ (pc + 1) lv (.int ((scByt.getD i []).getD k.toNatClampNeg 0) :: rest)) : YY p l e R s m args below meth c w cf n A Q nL σ pc lv (.int k :: .ref (w.2.2.2.2 i) :: rest) := fun H locs ls hP hS hl =>
  va_tb E.1.1 E.1.2.1 (E.2.1.2.2.1.1 i hi).2.2.2 hS hk rfl hd (kk H locs ls hP hS hl)
theorem y_scom (E : YE p m meth c cc nL s args own r w n A) {index : Nat} (hlink : Cond.fieldLink own index "java/lang/String" "COMPACT_STRINGS" "Z" ∈ wG) (hd : decode cc pc = .ok (.getstatic index, 3)) (kk : YY p l e R s m args below meth c w cf n A Q nL σ (pc + 3) lv (.int 1 :: rest)) : YY p l e R s m args below meth c w cf n A Q nL σ pc lv rest := fun H locs ls hP hS hl =>
  va_gets E.1.1 E.1.2.1 E.2.1.2.2.2.2.1 hS E.1.2.2.2.1 (E.1.2.2.2.2 _ hlink) (fun _ h => h) hd (kk H locs ls hP hS hl)
theorem y_sfmt (E : YE p m meth c cc nL s args own r w n A) {index : Nat} (hlink : Cond.fieldLink own index "jdk/internal/util/Preconditions" "SIOOBE_FORMATTER" "Ljava/util/function/BiFunction;" ∈ wG) (hd : decode cc pc = .ok (.getstatic index, 3)) (kk : ∀ v : Value, (v = .null ∨ ∃ t : Nat, v = .ref t) → YY p l e R s m args below meth c w cf n A Q nL σ (pc + 3) lv (v :: rest)) : YY p l e R s m args below meth c w cf n A Q nL σ pc lv rest := fun H locs ls hP hS hl => by
  rcases E.2.1.2.2.2.2.2 with h | ⟨t, h⟩
  · exact va_gets E.1.1 E.1.2.1 h hS E.1.2.2.2.1 (E.1.2.2.2.2 _ hlink) (fun _ h => h) hd (kk _ (Or.inl rfl) H locs ls hP hS hl)
  · exact va_gets E.1.1 E.1.2.1 h hS E.1.2.2.2.1 (E.1.2.2.2.2 _ hlink) (fun _ h => h) hd (kk _ (Or.inr ⟨t, rfl⟩) H locs ls hP hS hl)
theorem y_i2c (E : YE p m meth c cc nL s args own r w n A) {x : Int32} (hd : decode cc pc = .ok (.i2c, 1)) (k : YY p l e R s m args below meth c w cf n A Q nL σ (pc + 1) lv (.int (x.toUInt32.toUInt16.toUInt32.toInt32) :: rest)) : YY p l e R s m args below meth c w cf n A Q nL σ pc lv (.int x :: rest) := fun H locs ls hP hS hl => lv_i2c E.1.1 E.1.2.1 hd rfl (k H locs ls hP hS hl)
variable {y : MethodName} {b : ByteArray} {nL' d k i index : Nat} {r' : Option FieldType} {As : List Value} {Qc : (Nat → Prop) → Array Value → State → Outcome → State → Prop}
theorem y_runVs (E : YE p m meth c cc nL s args own r w n A) (hM : yMet l w cf n y b nL' r' d (.ref (w.2.2.2.1 i) :: As) σ Qc) (cw : CallW R s args own "java/lang/String" index y b nL' r' (.code y b nL' r' :: wG) (yRm d) 0 0 k) (hi : i < 12) (hk : As.length = k) (hst : st = As.reverse ++ .ref (w.2.2.2.1 i) :: rest) (hr : (rest.map fun v => v.category).sum ≤ 8) (hd : decode cc pc = .ok (.invokevirtual index, 3)) : YR p l e R s m args below meth c w cf n A nL σ pc lv st rest (Value.ref (w.2.2.2.1 i) :: As).toArray Qc := fun H locs ls hP hS hl =>
  va_runV E.1 (hM H.size) cw ⟨yPre.blind, vk_recv E.2.1.2.2.1 hi hS, y_pre E hP hS rfl⟩ rfl hk hl.1 hst (lv_room hr) hd ⟨Nat.zero_le _, Nat.zero_le _⟩
end YSTR
theorem sc_sh : ∀ i, i < 12 → nI (scLen.getD i 0) >>> ((0 : Int32) &&& 31) = nI (scLen.getD i 0) := by decide +kernel
theorem sc_ch : ∀ i, i < 12 → ∀ k, k < scLen.getD i 0 → (((scByt.getD i []).getD k 0) &&& 255).toUInt32.toUInt16.toUInt32.toInt32 = (scByt.getD i []).getD k 0 ∧ narrow .char (.int ((scByt.getD i []).getD k 0)) = .int ((scByt.getD i []).getD k 0) := by decide +kernel
theorem sc_l31 : ∀ i, i < 12 → scLen.getD i 0 < 2 ^ 31 := by decide +kernel
theorem dJ0_coder_7d493_0 : decode cJ0_coder_7d493 0 = .ok (.getstatic 38, 3) := by decide +kernel
theorem dJ0_coder_7d493_3 : decode cJ0_coder_7d493 3 = .ok (.ifCond .eq 10, 3) := by decide +kernel
theorem dJ0_coder_7d493_6 : decode cJ0_coder_7d493 6 = .ok (.aload_n 0, 1) := by decide +kernel
theorem dJ0_coder_7d493_7 : decode cJ0_coder_7d493 7 = .ok (.getfield 15, 3) := by decide +kernel
theorem dJ0_coder_7d493_10 : decode cJ0_coder_7d493 10 = .ok (.goto 4, 3) := by decide +kernel
theorem dJ0_coder_7d493_13 : decode cJ0_coder_7d493 13 = .ok (.iconst 1, 1) := by decide +kernel
theorem dJ0_coder_7d493_14 : decode cJ0_coder_7d493 14 = .ok (.ireturn, 1) := by decide +kernel
theorem dJ0_isLatin1_aae02_0 : decode cJ0_isLatin1_aae02 0 = .ok (.getstatic 38, 3) := by decide +kernel
theorem dJ0_isLatin1_aae02_3 : decode cJ0_isLatin1_aae02 3 = .ok (.ifCond .eq 14, 3) := by decide +kernel
theorem dJ0_isLatin1_aae02_6 : decode cJ0_isLatin1_aae02 6 = .ok (.aload_n 0, 1) := by decide +kernel
theorem dJ0_isLatin1_aae02_7 : decode cJ0_isLatin1_aae02 7 = .ok (.getfield 15, 3) := by decide +kernel
theorem dJ0_isLatin1_aae02_10 : decode cJ0_isLatin1_aae02 10 = .ok (.ifCond .ne 7, 3) := by decide +kernel
theorem dJ0_isLatin1_aae02_13 : decode cJ0_isLatin1_aae02 13 = .ok (.iconst 1, 1) := by decide +kernel
theorem dJ0_isLatin1_aae02_14 : decode cJ0_isLatin1_aae02 14 = .ok (.goto 4, 3) := by decide +kernel
theorem dJ0_isLatin1_aae02_17 : decode cJ0_isLatin1_aae02 17 = .ok (.iconst 0, 1) := by decide +kernel
theorem dJ0_isLatin1_aae02_18 : decode cJ0_isLatin1_aae02 18 = .ok (.ireturn, 1) := by decide +kernel
theorem dJ0_length_8abf5_0 : decode cJ0_length_8abf5 0 = .ok (.aload_n 0, 1) := by decide +kernel
theorem dJ0_length_8abf5_1 : decode cJ0_length_8abf5 1 = .ok (.getfield 9, 3) := by decide +kernel
theorem dJ0_length_8abf5_4 : decode cJ0_length_8abf5 4 = .ok (.arraylength, 1) := by decide +kernel
theorem dJ0_length_8abf5_5 : decode cJ0_length_8abf5 5 = .ok (.aload_n 0, 1) := by decide +kernel
theorem dJ0_length_8abf5_6 : decode cJ0_length_8abf5 6 = .ok (.invokevirtual 335, 3) := by decide +kernel
theorem dJ0_length_8abf5_9 : decode cJ0_length_8abf5 9 = .ok (.ishr, 1) := by decide +kernel
theorem dJ0_length_8abf5_10 : decode cJ0_length_8abf5 10 = .ok (.ireturn, 1) := by decide +kernel
theorem dJ3_checkIndex_8e157_0 : decode cJ3_checkIndex_8e157 0 = .ok (.iload_n 0, 1) := by decide +kernel
theorem dJ3_checkIndex_8e157_1 : decode cJ3_checkIndex_8e157 1 = .ok (.ifCond .lt 8, 3) := by decide +kernel
theorem dJ3_checkIndex_8e157_4 : decode cJ3_checkIndex_8e157 4 = .ok (.iload_n 0, 1) := by decide +kernel
theorem dJ3_checkIndex_8e157_5 : decode cJ3_checkIndex_8e157 5 = .ok (.iload_n 1, 1) := by decide +kernel
theorem dJ3_checkIndex_8e157_6 : decode cJ3_checkIndex_8e157 6 = .ok (.if_icmp .lt 10, 3) := by decide +kernel
theorem dJ3_checkIndex_8e157_9 : decode cJ3_checkIndex_8e157 9 = .ok (.aload_n 2, 1) := by decide +kernel
theorem dJ3_checkIndex_8e157_10 : decode cJ3_checkIndex_8e157 10 = .ok (.iload_n 0, 1) := by decide +kernel
theorem dJ3_checkIndex_8e157_11 : decode cJ3_checkIndex_8e157 11 = .ok (.iload_n 1, 1) := by decide +kernel
theorem dJ3_checkIndex_8e157_12 : decode cJ3_checkIndex_8e157 12 = .ok (.invokestatic 95, 3) := by decide +kernel
theorem dJ3_checkIndex_8e157_15 : decode cJ3_checkIndex_8e157 15 = .ok (.athrow, 1) := by decide +kernel
theorem dJ3_checkIndex_8e157_16 : decode cJ3_checkIndex_8e157 16 = .ok (.iload_n 0, 1) := by decide +kernel
theorem dJ3_checkIndex_8e157_17 : decode cJ3_checkIndex_8e157 17 = .ok (.ireturn, 1) := by decide +kernel
theorem dJ0_checkIndex_df160_0 : decode cJ0_checkIndex_df160 0 = .ok (.iload_n 0, 1) := by decide +kernel
theorem dJ0_checkIndex_df160_1 : decode cJ0_checkIndex_df160 1 = .ok (.iload_n 1, 1) := by decide +kernel
theorem dJ0_checkIndex_df160_2 : decode cJ0_checkIndex_df160 2 = .ok (.getstatic 1053, 3) := by decide +kernel
theorem dJ0_checkIndex_df160_5 : decode cJ0_checkIndex_df160 5 = .ok (.invokestatic 1059, 3) := by decide +kernel
theorem dJ0_checkIndex_df160_8 : decode cJ0_checkIndex_df160 8 = .ok (.pop, 1) := by decide +kernel
theorem dJ0_checkIndex_df160_9 : decode cJ0_checkIndex_df160 9 = .ok (.return_, 1) := by decide +kernel
theorem dJ1_charAt_3b067_0 : decode cJ1_charAt_3b067 0 = .ok (.iload_n 1, 1) := by decide +kernel
theorem dJ1_charAt_3b067_1 : decode cJ1_charAt_3b067 1 = .ok (.aload_n 0, 1) := by decide +kernel
theorem dJ1_charAt_3b067_2 : decode cJ1_charAt_3b067 2 = .ok (.arraylength, 1) := by decide +kernel
theorem dJ1_charAt_3b067_3 : decode cJ1_charAt_3b067 3 = .ok (.invokestatic 9, 3) := by decide +kernel
theorem dJ1_charAt_3b067_6 : decode cJ1_charAt_3b067 6 = .ok (.aload_n 0, 1) := by decide +kernel
theorem dJ1_charAt_3b067_7 : decode cJ1_charAt_3b067 7 = .ok (.iload_n 1, 1) := by decide +kernel
theorem dJ1_charAt_3b067_8 : decode cJ1_charAt_3b067 8 = .ok (.baload, 1) := by decide +kernel
theorem dJ1_charAt_3b067_9 : decode cJ1_charAt_3b067 9 = .ok (.sipush 255, 3) := by decide +kernel
theorem dJ1_charAt_3b067_12 : decode cJ1_charAt_3b067 12 = .ok (.iand, 1) := by decide +kernel
theorem dJ1_charAt_3b067_13 : decode cJ1_charAt_3b067 13 = .ok (.i2c, 1) := by decide +kernel
theorem dJ1_charAt_3b067_14 : decode cJ1_charAt_3b067 14 = .ok (.ireturn, 1) := by decide +kernel
theorem dJ0_charAt_5068e_0 : decode cJ0_charAt_5068e 0 = .ok (.aload_n 0, 1) := by decide +kernel
theorem dJ0_charAt_5068e_1 : decode cJ0_charAt_5068e 1 = .ok (.invokevirtual 492, 3) := by decide +kernel
theorem dJ0_charAt_5068e_4 : decode cJ0_charAt_5068e 4 = .ok (.ifCond .eq 12, 3) := by decide +kernel
theorem dJ0_charAt_5068e_7 : decode cJ0_charAt_5068e 7 = .ok (.aload_n 0, 1) := by decide +kernel
theorem dJ0_charAt_5068e_8 : decode cJ0_charAt_5068e 8 = .ok (.getfield 9, 3) := by decide +kernel
theorem dJ0_charAt_5068e_11 : decode cJ0_charAt_5068e 11 = .ok (.iload_n 1, 1) := by decide +kernel
theorem dJ0_charAt_5068e_12 : decode cJ0_charAt_5068e 12 = .ok (.invokestatic 495, 3) := by decide +kernel
theorem dJ0_charAt_5068e_15 : decode cJ0_charAt_5068e 15 = .ok (.ireturn, 1) := by decide +kernel
theorem dJ0_charAt_5068e_16 : decode cJ0_charAt_5068e 16 = .ok (.aload_n 0, 1) := by decide +kernel
theorem dJ0_charAt_5068e_17 : decode cJ0_charAt_5068e 17 = .ok (.getfield 9, 3) := by decide +kernel
theorem dJ0_charAt_5068e_20 : decode cJ0_charAt_5068e 20 = .ok (.iload_n 1, 1) := by decide +kernel
theorem dJ0_charAt_5068e_21 : decode cJ0_charAt_5068e 21 = .ok (.invokestatic 498, 3) := by decide +kernel
theorem dJ0_charAt_5068e_24 : decode cJ0_charAt_5068e 24 = .ok (.ireturn, 1) := by decide +kernel
set_option maxRecDepth 100000 in
set_option maxHeartbeats 4000000 in
theorem kJ0_coder (l : Launch) (w : wT) (hw : yOk w 55) (σ : Hp) (i : Nat) (hi : i < 12) (K : Int32 → Hp → Prop) (hv : K 0 σ) : yMet l w xcf 55 yJ0_coder_7d493 cJ0_coder_7d493 1 (some .byte) 1 [.ref (w.2.2.2.1 i)] σ (yQi w xcf 55 K) := by
  refine y_startF (lv0 := [(0, .ref (w.2.2.2.1 i))]) (by decide +kernel) (own := RJ0) rfl hw (Nat.le_of_ble_eq_true rfl) rfl (fun p e s m below meth c A E => ?_)
  refine y_scom E wm_1107 dJ0_coder_7d493_0 ?_
  refine y_if_eq (tgt := 13) E dJ0_coder_7d493_3 (by decide) (fun h => absurd h (by decide)) (fun _ => ?_)
  refine y_aload_n E dJ0_coder_7d493_6 0 rfl ?_
  refine y_scod E hi wm_1108 dJ0_coder_7d493_7 ?_
  refine y_goto (tgt := 14) E dJ0_coder_7d493_10 (by decide) ?_
  exact y_nret E dJ0_coder_7d493_14 (by decide) hv
set_option maxRecDepth 100000 in
set_option maxHeartbeats 4000000 in
theorem kJ0_isLatin1 (l : Launch) (w : wT) (hw : yOk w 55) (σ : Hp) (i : Nat) (hi : i < 12) (K : Int32 → Hp → Prop) (hv : K 1 σ) : yMet l w xcf 55 yJ0_isLatin1_aae02 cJ0_isLatin1_aae02 1 (some .boolean) 1 [.ref (w.2.2.2.1 i)] σ (yQi w xcf 55 K) := by
  refine y_startF (lv0 := [(0, .ref (w.2.2.2.1 i))]) (by decide +kernel) (own := RJ0) rfl hw (Nat.le_of_ble_eq_true rfl) rfl (fun p e s m below meth c A E => ?_)
  refine y_scom E wm_1107 dJ0_isLatin1_aae02_0 ?_
  refine y_if_eq (tgt := 17) E dJ0_isLatin1_aae02_3 (by decide) (fun h => absurd h (by decide)) (fun _ => ?_)
  refine y_aload_n E dJ0_isLatin1_aae02_6 0 rfl ?_
  refine y_scod E hi wm_1108 dJ0_isLatin1_aae02_7 ?_
  refine y_if_ne (tgt := 17) E dJ0_isLatin1_aae02_10 (by decide) (fun h => absurd rfl h) (fun _ => ?_)
  refine y_iconst (v := 1) E dJ0_isLatin1_aae02_13 (by decide) ?_
  refine y_goto (tgt := 18) E dJ0_isLatin1_aae02_14 (by decide) ?_
  exact y_nret E dJ0_isLatin1_aae02_18 (by decide) hv
set_option maxRecDepth 100000 in
set_option maxHeartbeats 4000000 in
theorem kJ0_length (l : Launch) (w : wT) (hw : yOk w 55) (σ : Hp) (i : Nat) (hi : i < 12) (K : Int32 → Hp → Prop) (hv : K (nI (scLen.getD i 0)) σ) : yMet l w xcf 55 yJ0_length_8abf5 cJ0_length_8abf5 1 (some .int) 2 [.ref (w.2.2.2.1 i)] σ (yQi w xcf 55 K) := by
  refine y_startF (lv0 := [(0, .ref (w.2.2.2.1 i))]) (by decide +kernel) (own := RJ0) rfl hw (Nat.le_of_ble_eq_true rfl) rfl (fun p e s m below meth c A E => ?_)
  refine y_aload_n E dJ0_length_8abf5_0 0 rfl ?_
  refine y_sval E hi wm_1109 dJ0_length_8abf5_1 ?_
  refine y_slen E hi dJ0_length_8abf5_4 ?_
  refine y_aload_n E dJ0_length_8abf5_5 0 rfl ?_
  refine y_calli E (y_runVs E (rest := [.int (nI (scLen.getD i 0))]) (kJ0_coder l w E.2.2.1 σ i hi (fun v u => v = 0 ∧ u = σ) ⟨rfl, rfl⟩) (y_cwV 0 E.1.2.2.2.2 wm_1110 wm_1111 wm_1112 wm_1113 wm_1114 (by decide +kernel) (yRm_le (by decide) (by decide))) hi rfl rfl (Nat.le_of_ble_eq_true rfl) dJ0_length_8abf5_6) (fun v u h => ?_)
  obtain ⟨rfl, rfl⟩ := h
  refine y_ishr E dJ0_length_8abf5_9 ?_
  exact y_iret E dJ0_length_8abf5_10 (by rw [sc_sh i hi]; exact hv)
set_option maxRecDepth 100000 in
set_option maxHeartbeats 4000000 in
theorem kJ3_checkIndex (l : Launch) (w : wT) (hw : yOk w 55) (σ : Hp) (k n : Int32) (v : Value) (hk : ¬ k < 0 ∧ k < n) (hvv : v = .null ∨ ∃ t : Nat, v = .ref t) (K : Int32 → Hp → Prop) (hv : K k σ) : yMet l w xcf 55 yJ3_checkIndex_8e157 cJ3_checkIndex_8e157 3 (some .int) 1 [.int k, .int n, v] σ (yQi w xcf 55 K) := by
  have hlen : (lg_sl [.int k, .int n, v]).length ≤ 3 := by rcases hvv with rfl | ⟨t, rfl⟩ <;> exact Nat.le_of_ble_eq_true rfl
  refine y_startF (lv0 := [(0, .int k), (1, .int n), (2, v)]) (by decide +kernel) (own := RJ3) rfl hw hlen rfl (fun p e s m below meth c A E => ?_)
  refine y_iload_n E dJ3_checkIndex_8e157_0 0 rfl ?_
  refine y_if_lt (tgt := 9) E dJ3_checkIndex_8e157_1 (by decide) (fun h => absurd h hk.1) (fun _ => ?_)
  refine y_iload_n E dJ3_checkIndex_8e157_4 0 rfl ?_
  refine y_iload_n E dJ3_checkIndex_8e157_5 1 rfl ?_
  refine y_icmp_lt (tgt := 16) E dJ3_checkIndex_8e157_6 (by decide) (fun _ => ?_) (fun h => absurd hk.2 h)
  refine y_iload_n E dJ3_checkIndex_8e157_16 0 rfl ?_
  exact y_iret E dJ3_checkIndex_8e157_17 hv
set_option maxRecDepth 100000 in
set_option maxHeartbeats 4000000 in
theorem kJ0_checkIndex (l : Launch) (w : wT) (hw : yOk w 55) (σ : Hp) (k n : Int32) (hk : ¬ k < 0 ∧ k < n) (K : Hp → Prop) (hv : K σ) : yMet l w xcf 55 yJ0_checkIndex_df160 cJ0_checkIndex_df160 2 none 2 [.int k, .int n] σ (yQv w xcf 55 K) := by
  refine y_startF (lv0 := [(0, .int k), (1, .int n)]) (by decide +kernel) (own := RJ0) rfl hw (Nat.le_of_ble_eq_true rfl) rfl (fun p e s m below meth c A E => ?_)
  refine y_iload_n E dJ0_checkIndex_df160_0 0 rfl ?_
  refine y_iload_n E dJ0_checkIndex_df160_1 1 rfl ?_
  refine y_sfmt E wm_1115 dJ0_checkIndex_df160_2 (fun v hvv => ?_)
  refine y_calli E (y_runS E (rest := []) (As := [.int k, .int n, v]) (kJ3_checkIndex l w E.2.2.1 σ k n v hk hvv (fun _ u => u = σ) rfl) (y_cwF 3 E.1.2.2.2.2 wm_1116 wm_1117 wm_1118 wm_1119 (by decide +kernel) (yRm_le (by decide) (by decide))) rfl rfl (Nat.le_of_ble_eq_true rfl) dJ0_checkIndex_df160_5) (fun v u h => ?_)
  subst h
  refine y_pop E dJ0_checkIndex_df160_8 rfl ?_
  exact y_vret E dJ0_checkIndex_df160_9 hv
set_option maxRecDepth 100000 in
set_option maxHeartbeats 4000000 in
theorem kJ1_charAt (l : Launch) (w : wT) (hw : yOk w 55) (σ : Hp) (i : Nat) (k : Int32) (hi : i < 12) (hk : vp_in k (scLen.getD i 0)) (K : Int32 → Hp → Prop) (hv : K ((scByt.getD i []).getD k.toNatClampNeg 0) σ) : yMet l w xcf 55 yJ1_charAt_3b067 cJ1_charAt_3b067 2 (some .char) 3 [.ref (w.2.2.2.2 i), .int k] σ (yQi w xcf 55 K) := by
  refine y_startF (lv0 := [(0, .ref (w.2.2.2.2 i)), (1, .int k)]) (by decide +kernel) (own := RJ1) rfl hw (Nat.le_of_ble_eq_true rfl) rfl (fun p e s m below meth c A E => ?_)
  obtain ⟨j, hj, hjk⟩ := vp_in_of hk (sc_l31 i hi)
  have hk2 : ¬ k < 0 ∧ k < nI (scLen.getD i 0) := by rw [hjk]; exact ⟨nI_pos (Nat.lt_trans hj (sc_l31 i hi)), nI_lt hj (sc_l31 i hi)⟩
  have hc := sc_ch i hi k.toNatClampNeg (vp_in_lt hk)
  refine y_iload_n E dJ1_charAt_3b067_0 1 rfl ?_
  refine y_aload_n E dJ1_charAt_3b067_1 0 rfl ?_
  refine y_slen E hi dJ1_charAt_3b067_2 ?_
  refine y_callv E (y_runS E (rest := []) (kJ0_checkIndex l w E.2.2.1 σ k (nI (scLen.getD i 0)) hk2 (fun u => u = σ) rfl) (y_cwF 2 E.1.2.2.2.2 wm_1120 wm_1121 wm_1113 wm_1122 (by decide +kernel) (yRm_le (by decide) (by decide))) rfl rfl (Nat.le_of_ble_eq_true rfl) dJ1_charAt_3b067_3) (fun u h => ?_)
  subst h
  refine y_aload_n E dJ1_charAt_3b067_6 0 rfl ?_
  refine y_iload_n E dJ1_charAt_3b067_7 1 rfl ?_
  refine y_sbyt E hi hk dJ1_charAt_3b067_8 ?_
  refine y_sipush (v := 255) E dJ1_charAt_3b067_9 (by decide) ?_
  refine y_iand E dJ1_charAt_3b067_12 ?_
  refine y_i2c E dJ1_charAt_3b067_13 ?_
  rw [hc.1]
  exact y_nret E dJ1_charAt_3b067_14 hc.2 hv
set_option maxRecDepth 100000 in
set_option maxHeartbeats 4000000 in
theorem kJ0_charAt (l : Launch) (w : wT) (hw : yOk w 55) (σ : Hp) (i : Nat) (k : Int32) (hi : i < 12) (hk : vp_in k (scLen.getD i 0)) (K : Int32 → Hp → Prop) (hv : K ((scByt.getD i []).getD k.toNatClampNeg 0) σ) : yMet l w xcf 55 yJ0_charAt_5068e cJ0_charAt_5068e 2 (some .char) 4 [.ref (w.2.2.2.1 i), .int k] σ (yQi w xcf 55 K) := by
  refine y_startF (lv0 := [(0, .ref (w.2.2.2.1 i)), (1, .int k)]) (by decide +kernel) (own := RJ0) rfl hw (Nat.le_of_ble_eq_true rfl) rfl (fun p e s m below meth c A E => ?_)
  have hc := sc_ch i hi k.toNatClampNeg (vp_in_lt hk)
  refine y_aload_n E dJ0_charAt_5068e_0 0 rfl ?_
  refine y_calli E (y_runVs E (rest := []) (kJ0_isLatin1 l w E.2.2.1 σ i hi (fun v u => v = 1 ∧ u = σ) ⟨rfl, rfl⟩) (y_cwV 0 E.1.2.2.2.2 wm_1123 wm_1124 wm_1125 wm_1113 wm_1126 (by decide +kernel) (yRm_le (by decide) (by decide))) hi rfl rfl (Nat.le_of_ble_eq_true rfl) dJ0_charAt_5068e_1) (fun v u h => ?_)
  obtain ⟨rfl, rfl⟩ := h
  refine y_if_eq (tgt := 16) E dJ0_charAt_5068e_4 (by decide) (fun h => absurd h (by decide)) (fun _ => ?_)
  refine y_aload_n E dJ0_charAt_5068e_7 0 rfl ?_
  refine y_sval E hi wm_1109 dJ0_charAt_5068e_8 ?_
  refine y_iload_n E dJ0_charAt_5068e_11 1 rfl ?_
  refine y_calli E (y_runS E (rest := []) (As := [.ref (w.2.2.2.2 i), .int k]) (kJ1_charAt l w E.2.2.1 u i k hi hk (fun v u' => v = (scByt.getD i []).getD k.toNatClampNeg 0 ∧ u' = u) ⟨rfl, rfl⟩) (y_cwF 2 E.1.2.2.2.2 wm_1127 wm_1128 wm_1129 wm_1130 (by decide +kernel) (yRm_le (by decide) (by decide))) rfl rfl (Nat.le_of_ble_eq_true rfl) dJ0_charAt_5068e_12) (fun v u' h => ?_)
  obtain ⟨rfl, rfl⟩ := h
  exact y_nret E dJ0_charAt_5068e_15 hc.2 hv
theorem rS_length {p : Program} {l : Launch} {e : Env} {d' : Nat} {s : State} {m : MethodId} {args : Array Value} {below : List Frame} {meth : Method} {c : Code} {w : wT} {A : Nat → Prop} {nL : Nat} {σ : Hp} {pc : Nat} {lv : List (Nat × Value)} {rest : List Value} {cc : ByteArray} {own : String} {r : Option FieldType} {index i : Nat} {K : Int32 → Hp → Prop} (E : YE p m meth c cc nL s args own r w 55 A) (hdd : 5 + 1 ≤ d') (hv : VS_length K σ i) (hlink : Cond.methodLink own index yJ0_length_8abf5 ∈ wG) (hr : (rest.map fun v => v.category).sum ≤ 8) (hd : decode cc pc = .ok (.invokevirtual index, 3)) : YR p l e (yRm d') s m args below meth c w xcf 55 A nL σ pc lv (.ref (w.2.2.2.1 i) :: rest) rest (#[.ref (w.2.2.2.1 i)]) (yQi w xcf 55 K) :=
  y_runVs E (rest := rest) (kJ0_length l w E.2.2.1 σ i hv.1 K hv.2) (y_cwV 0 E.1.2.2.2.2 hlink wm_1131 wm_1132 wm_1113 wm_1133 (by decide +kernel) (yRm_le (by omega) (by decide))) hv.1 rfl rfl hr hd
theorem rS_charAt {p : Program} {l : Launch} {e : Env} {d' : Nat} {s : State} {m : MethodId} {args : Array Value} {below : List Frame} {meth : Method} {c : Code} {w : wT} {A : Nat → Prop} {nL : Nat} {σ : Hp} {pc : Nat} {lv : List (Nat × Value)} {rest : List Value} {cc : ByteArray} {own : String} {r : Option FieldType} {index i : Nat} {k : Int32} {K : Int32 → Hp → Prop} (E : YE p m meth c cc nL s args own r w 55 A) (hdd : 5 + 1 ≤ d') (hv : VS_charAt K σ i k) (hlink : Cond.methodLink own index yJ0_charAt_5068e ∈ wG) (hr : (rest.map fun v => v.category).sum ≤ 8) (hd : decode cc pc = .ok (.invokevirtual index, 3)) : YR p l e (yRm d') s m args below meth c w xcf 55 A nL σ pc lv (.int k :: .ref (w.2.2.2.1 i) :: rest) rest (#[.ref (w.2.2.2.1 i), .int k]) (yQi w xcf 55 K) :=
  y_runVs E (rest := rest) (kJ0_charAt l w E.2.2.1 σ i k hv.1 hv.2.1 K hv.2.2) (y_cwV 1 E.1.2.2.2.2 hlink wm_1134 wm_1135 wm_1113 wm_1136 (by decide +kernel) (yRm_le (by omega) (by decide))) hv.1 rfl rfl hr hd
end
section
theorem dJ9_floorMod_7cf53_0 : decode cJ9_floorMod_7cf53 0 = .ok (.iload_n 0, 1) := by decide +kernel
theorem dJ9_floorMod_7cf53_1 : decode cJ9_floorMod_7cf53 1 = .ok (.iload_n 1, 1) := by decide +kernel
theorem dJ9_floorMod_7cf53_2 : decode cJ9_floorMod_7cf53 2 = .ok (.irem, 1) := by decide +kernel
theorem dJ9_floorMod_7cf53_3 : decode cJ9_floorMod_7cf53 3 = .ok (.istore_n 2, 1) := by decide +kernel
theorem dJ9_floorMod_7cf53_4 : decode cJ9_floorMod_7cf53 4 = .ok (.iload_n 0, 1) := by decide +kernel
theorem dJ9_floorMod_7cf53_5 : decode cJ9_floorMod_7cf53 5 = .ok (.iload_n 1, 1) := by decide +kernel
theorem dJ9_floorMod_7cf53_6 : decode cJ9_floorMod_7cf53 6 = .ok (.ixor, 1) := by decide +kernel
theorem dJ9_floorMod_7cf53_7 : decode cJ9_floorMod_7cf53 7 = .ok (.ifCond .ge 11, 3) := by decide +kernel
theorem dJ9_floorMod_7cf53_10 : decode cJ9_floorMod_7cf53 10 = .ok (.iload_n 2, 1) := by decide +kernel
theorem dJ9_floorMod_7cf53_11 : decode cJ9_floorMod_7cf53 11 = .ok (.ifCond .eq 7, 3) := by decide +kernel
theorem dJ9_floorMod_7cf53_14 : decode cJ9_floorMod_7cf53 14 = .ok (.iload_n 2, 1) := by decide +kernel
theorem dJ9_floorMod_7cf53_15 : decode cJ9_floorMod_7cf53 15 = .ok (.iload_n 1, 1) := by decide +kernel
theorem dJ9_floorMod_7cf53_16 : decode cJ9_floorMod_7cf53 16 = .ok (.iadd, 1) := by decide +kernel
theorem dJ9_floorMod_7cf53_17 : decode cJ9_floorMod_7cf53 17 = .ok (.ireturn, 1) := by decide +kernel
theorem dJ9_floorMod_7cf53_18 : decode cJ9_floorMod_7cf53 18 = .ok (.iload_n 2, 1) := by decide +kernel
theorem dJ9_floorMod_7cf53_19 : decode cJ9_floorMod_7cf53 19 = .ok (.ireturn, 1) := by decide +kernel
set_option maxRecDepth 100000 in
set_option maxHeartbeats 4000000 in
theorem kJ9_floorMod_7cf53 (l : Launch) (w : wT) (hw : yOk w 55) (σ : Hp) (a1 : Int32) (a2 : Int32) (K : Int32 → Hp → Prop) (hv : VJ9_floorMod_7cf53 K σ a1 a2) : yMet l w xcf 55 yJ9_floorMod_7cf53 cJ9_floorMod_7cf53 3 (some .int) 1 [.int a1, .int a2] σ (yQi w xcf 55 K) := by
  unfold VJ9_floorMod_7cf53 at hv
  refine y_startF (lv0 := [(0, .int a1), (1, .int a2)]) (by decide +kernel) (own := RJ9) rfl hw (Nat.le_of_ble_eq_true rfl) rfl (fun p e s m below meth c A E => ?_)
  refine y_iload_n E dJ9_floorMod_7cf53_0 0 rfl ?_
  refine y_iload_n E dJ9_floorMod_7cf53_1 1 rfl ?_
  obtain ⟨hz, hv⟩ := hv
  refine y_irem E dJ9_floorMod_7cf53_2 hz ?_
  refine y_nmi (fun x1 hx1 => ?_)
  replace hv := hv x1 hx1
  refine y_istore_n (lv' := [(2, .int x1), (0, .int a1), (1, .int a2)]) E dJ9_floorMod_7cf53_3 (by decide) rfl ?_
  refine y_iload_n E dJ9_floorMod_7cf53_4 1 rfl ?_
  refine y_iload_n E dJ9_floorMod_7cf53_5 2 rfl ?_
  refine y_ixor E dJ9_floorMod_7cf53_6 ?_
  refine y_if_ge (tgt := 18) E dJ9_floorMod_7cf53_7 (by decide) (fun c2 => ?_) (fun c2 => ?_)
  · replace hv := ite_t hv c2
    refine y_iload_n E dJ9_floorMod_7cf53_18 0 rfl ?_
    exact y_iret E dJ9_floorMod_7cf53_19 hv
  · replace hv := ite_f hv c2
    refine y_iload_n E dJ9_floorMod_7cf53_10 0 rfl ?_
    refine y_if_eq (tgt := 18) E dJ9_floorMod_7cf53_11 (by decide) (fun c3 => ?_) (fun c3 => ?_)
    · replace hv := ite_t hv c3
      refine y_iload_n E dJ9_floorMod_7cf53_18 0 rfl ?_
      exact y_iret E dJ9_floorMod_7cf53_19 hv
    · replace hv := ite_f hv c3
      refine y_iload_n E dJ9_floorMod_7cf53_14 0 rfl ?_
      refine y_iload_n E dJ9_floorMod_7cf53_15 2 rfl ?_
      refine y_iadd E dJ9_floorMod_7cf53_16 ?_
      exact y_iret E dJ9_floorMod_7cf53_17 hv
theorem dX10_isOne_0 : decode cX10_isOne 0 = .ok (.iload_n 1, 1) := by decide +kernel
theorem dX10_isOne_1 : decode cX10_isOne 1 = .ok (.ifCond .ne 7, 3) := by decide +kernel
theorem dX10_isOne_4 : decode cX10_isOne 4 = .ok (.iconst 1, 1) := by decide +kernel
theorem dX10_isOne_5 : decode cX10_isOne 5 = .ok (.goto 4, 3) := by decide +kernel
theorem dX10_isOne_8 : decode cX10_isOne 8 = .ok (.iconst 0, 1) := by decide +kernel
theorem dX10_isOne_9 : decode cX10_isOne 9 = .ok (.ireturn, 1) := by decide +kernel
set_option maxRecDepth 100000 in
set_option maxHeartbeats 4000000 in
theorem kX10_isOne (l : Launch) (w : wT) (hw : yOk w 55) (σ : Hp) (o : Nat) (a1 : Int32) (K : Int32 → Hp → Prop) (hv : VX10_isOne K σ o a1) : yMet l w xcf 55 yX10_isOne cX10_isOne 2 (some .boolean) 1 [.ref (w.1 o), .int a1] σ (yQi w xcf 55 K) := by
  unfold VX10_isOne at hv
  refine y_start (lv0 := [(0, .ref (w.1 o)), (1, .int a1)]) (by decide +kernel) (own := RX10) rfl hw (Nat.le_of_ble_eq_true rfl) rfl (fun p e s m below meth c A E => ?_)
  obtain ⟨hgo, hv⟩ := hv
  refine y_iload_n E dX10_isOne_0 1 rfl ?_
  refine y_if_ne (tgt := 8) E dX10_isOne_1 (by decide) (fun c1 => ?_) (fun c1 => ?_)
  · replace hv := ite_f hv c1
    refine y_iconst (v := 0) E dX10_isOne_8 (by decide) ?_
    exact y_nret E dX10_isOne_9 (by decide) hv
  · replace hv := ite_t hv c1
    refine y_iconst (v := 1) E dX10_isOne_4 (by decide) ?_
    refine y_goto (tgt := 9) E dX10_isOne_5 (by decide) ?_
    exact y_nret E dX10_isOne_9 (by decide) hv
theorem dX5_isOne_0 : decode cX5_isOne 0 = .ok (.iload_n 1, 1) := by decide +kernel
theorem dX5_isOne_1 : decode cX5_isOne 1 = .ok (.iconst 2, 1) := by decide +kernel
theorem dX5_isOne_2 : decode cX5_isOne 2 = .ok (.if_icmp .eq 11, 3) := by decide +kernel
theorem dX5_isOne_5 : decode cX5_isOne 5 = .ok (.aload_n 0, 1) := by decide +kernel
theorem dX5_isOne_6 : decode cX5_isOne 6 = .ok (.iload_n 1, 1) := by decide +kernel
theorem dX5_isOne_7 : decode cX5_isOne 7 = .ok (.invokespecial 7, 3) := by decide +kernel
theorem dX5_isOne_10 : decode cX5_isOne 10 = .ok (.ifCond .eq 7, 3) := by decide +kernel
theorem dX5_isOne_13 : decode cX5_isOne 13 = .ok (.iconst 1, 1) := by decide +kernel
theorem dX5_isOne_14 : decode cX5_isOne 14 = .ok (.goto 4, 3) := by decide +kernel
theorem dX5_isOne_17 : decode cX5_isOne 17 = .ok (.iconst 0, 1) := by decide +kernel
theorem dX5_isOne_18 : decode cX5_isOne 18 = .ok (.ireturn, 1) := by decide +kernel
set_option maxRecDepth 100000 in
set_option maxHeartbeats 4000000 in
theorem kX5_isOne (l : Launch) (w : wT) (hw : yOk w 55) (σ : Hp) (o : Nat) (a1 : Int32) (K : Int32 → Hp → Prop) (hv : VX5_isOne K σ o a1) : yMet l w xcf 55 yX5_isOne cX5_isOne 2 (some .boolean) 2 [.ref (w.1 o), .int a1] σ (yQi w xcf 55 K) := by
  unfold VX5_isOne at hv
  refine y_start (lv0 := [(0, .ref (w.1 o)), (1, .int a1)]) (by decide +kernel) (own := RX5) rfl hw (Nat.le_of_ble_eq_true rfl) rfl (fun p e s m below meth c A E => ?_)
  obtain ⟨hgo, hv⟩ := hv
  refine y_iload_n E dX5_isOne_0 1 rfl ?_
  refine y_iconst (v := 2) E dX5_isOne_1 (by decide) ?_
  refine y_icmp_eq (tgt := 13) E dX5_isOne_2 (by decide) (fun c1 => ?_) (fun c1 => ?_)
  · replace hv := ite_t hv c1
    refine y_iconst (v := 1) E dX5_isOne_13 (by decide) ?_
    refine y_goto (tgt := 18) E dX5_isOne_14 (by decide) ?_
    exact y_nret E dX5_isOne_18 (by decide) hv
  · replace hv := ite_f hv c1
    refine y_aload_n E dX5_isOne_5 0 rfl ?_
    refine y_iload_n E dX5_isOne_6 1 rfl ?_
    obtain ⟨ci, fs, C9, T9, N9, hcl, hvc⟩ := xthing (w := w) (r := σ o) hgo
    refine y_calli E (y_runSU E (rest := []) (kX10_isOne l w E.2.2.1 σ o a1 _ hv) (y_cwSU 1 E.1.2.2.2.2 wm_229 wm_126 wm_91 wm_128 wm_93 wm_129 (by decide +kernel) (yRm_le (by decide) (by decide))) (Nat.lt_of_lt_of_le hgo.2 (by decide)) hcl hvc rfl rfl (Nat.le_of_ble_eq_true rfl) dX5_isOne_7) (fun v2 u3 hk => ?_)
    clear hv
    have hv := hk
    clear hk
    refine y_if_eq (tgt := 17) E dX5_isOne_10 (by decide) (fun c4 => ?_) (fun c4 => ?_)
    · replace hv := ite_t hv c4
      refine y_iconst (v := 0) E dX5_isOne_17 (by decide) ?_
      exact y_nret E dX5_isOne_18 (by decide) hv
    · replace hv := ite_f hv c4
      refine y_iconst (v := 1) E dX5_isOne_13 (by decide) ?_
      refine y_goto (tgt := 18) E dX5_isOne_14 (by decide) ?_
      exact y_nret E dX5_isOne_18 (by decide) hv
theorem dX0_isOne_0 : decode cX0_isOne 0 = .ok (.iload_n 1, 1) := by decide +kernel
theorem dX0_isOne_1 : decode cX0_isOne 1 = .ok (.iconst 4, 1) := by decide +kernel
theorem dX0_isOne_2 : decode cX0_isOne 2 = .ok (.if_icmp .eq 11, 3) := by decide +kernel
theorem dX0_isOne_5 : decode cX0_isOne 5 = .ok (.aload_n 0, 1) := by decide +kernel
theorem dX0_isOne_6 : decode cX0_isOne 6 = .ok (.iload_n 1, 1) := by decide +kernel
theorem dX0_isOne_7 : decode cX0_isOne 7 = .ok (.invokespecial 9, 3) := by decide +kernel
theorem dX0_isOne_10 : decode cX0_isOne 10 = .ok (.ifCond .eq 7, 3) := by decide +kernel
theorem dX0_isOne_13 : decode cX0_isOne 13 = .ok (.iconst 1, 1) := by decide +kernel
theorem dX0_isOne_14 : decode cX0_isOne 14 = .ok (.goto 4, 3) := by decide +kernel
theorem dX0_isOne_17 : decode cX0_isOne 17 = .ok (.iconst 0, 1) := by decide +kernel
theorem dX0_isOne_18 : decode cX0_isOne 18 = .ok (.ireturn, 1) := by decide +kernel
set_option maxRecDepth 100000 in
set_option maxHeartbeats 4000000 in
theorem kX0_isOne (l : Launch) (w : wT) (hw : yOk w 55) (σ : Hp) (o : Nat) (a1 : Int32) (K : Int32 → Hp → Prop) (hv : VX0_isOne K σ o a1) : yMet l w xcf 55 yX0_isOne cX0_isOne 2 (some .boolean) 3 [.ref (w.1 o), .int a1] σ (yQi w xcf 55 K) := by
  unfold VX0_isOne at hv
  refine y_start (lv0 := [(0, .ref (w.1 o)), (1, .int a1)]) (by decide +kernel) (own := RX0) rfl hw (Nat.le_of_ble_eq_true rfl) rfl (fun p e s m below meth c A E => ?_)
  obtain ⟨hgo, hv⟩ := hv
  refine y_iload_n E dX0_isOne_0 1 rfl ?_
  refine y_iconst (v := 4) E dX0_isOne_1 (by decide) ?_
  refine y_icmp_eq (tgt := 13) E dX0_isOne_2 (by decide) (fun c1 => ?_) (fun c1 => ?_)
  · replace hv := ite_t hv c1
    refine y_iconst (v := 1) E dX0_isOne_13 (by decide) ?_
    refine y_goto (tgt := 18) E dX0_isOne_14 (by decide) ?_
    exact y_nret E dX0_isOne_18 (by decide) hv
  · replace hv := ite_f hv c1
    refine y_aload_n E dX0_isOne_5 0 rfl ?_
    refine y_iload_n E dX0_isOne_6 1 rfl ?_
    obtain ⟨ci, fs, C9, T9, N9, hcl, hvc⟩ := xthing (w := w) (r := σ o) hgo
    refine y_calli E (y_runSU E (rest := []) (kX5_isOne l w E.2.2.1 σ o a1 _ hv) (y_cwSU 1 E.1.2.2.2.2 wm_83 wm_84 wm_85 wm_86 wm_87 wm_88 (by decide +kernel) (yRm_le (by decide) (by decide))) (Nat.lt_of_lt_of_le hgo.2 (by decide)) hcl hvc rfl rfl (Nat.le_of_ble_eq_true rfl) dX0_isOne_7) (fun v2 u3 hk => ?_)
    clear hv
    have hv := hk
    clear hk
    refine y_if_eq (tgt := 17) E dX0_isOne_10 (by decide) (fun c4 => ?_) (fun c4 => ?_)
    · replace hv := ite_t hv c4
      refine y_iconst (v := 0) E dX0_isOne_17 (by decide) ?_
      exact y_nret E dX0_isOne_18 (by decide) hv
    · replace hv := ite_f hv c4
      refine y_iconst (v := 1) E dX0_isOne_13 (by decide) ?_
      refine y_goto (tgt := 18) E dX0_isOne_14 (by decide) ?_
      exact y_nret E dX0_isOne_18 (by decide) hv
theorem dX10_blown_0 : decode cX10_blown 0 = .ok (.iload_n 1, 1) := by decide +kernel
theorem dX10_blown_1 : decode cX10_blown 1 = .ok (.iconst 4, 1) := by decide +kernel
theorem dX10_blown_2 : decode cX10_blown 2 = .ok (.if_icmp .ne 7, 3) := by decide +kernel
theorem dX10_blown_5 : decode cX10_blown 5 = .ok (.iload_n 2, 1) := by decide +kernel
theorem dX10_blown_6 : decode cX10_blown 6 = .ok (.goto 4, 3) := by decide +kernel
theorem dX10_blown_9 : decode cX10_blown 9 = .ok (.iload_n 1, 1) := by decide +kernel
theorem dX10_blown_10 : decode cX10_blown 10 = .ok (.ireturn, 1) := by decide +kernel
set_option maxRecDepth 100000 in
set_option maxHeartbeats 4000000 in
theorem kX10_blown (l : Launch) (w : wT) (hw : yOk w 55) (σ : Hp) (o : Nat) (a1 : Int32) (a2 : Int32) (K : Int32 → Hp → Prop) (hv : VX10_blown K σ o a1 a2) : yMet l w xcf 55 yX10_blown cX10_blown 3 (some .int) 1 [.ref (w.1 o), .int a1, .int a2] σ (yQi w xcf 55 K) := by
  unfold VX10_blown at hv
  refine y_start (lv0 := [(0, .ref (w.1 o)), (1, .int a1), (2, .int a2)]) (by decide +kernel) (own := RX10) rfl hw (Nat.le_of_ble_eq_true rfl) rfl (fun p e s m below meth c A E => ?_)
  obtain ⟨hgo, hv⟩ := hv
  refine y_iload_n E dX10_blown_0 1 rfl ?_
  refine y_iconst (v := 4) E dX10_blown_1 (by decide) ?_
  refine y_icmp_ne (tgt := 9) E dX10_blown_2 (by decide) (fun c1 => ?_) (fun c1 => ?_)
  · replace hv := ite_f hv c1
    refine y_iload_n E dX10_blown_9 1 rfl ?_
    exact y_iret E dX10_blown_10 hv
  · replace hv := ite_t hv c1
    refine y_iload_n E dX10_blown_5 2 rfl ?_
    refine y_goto (tgt := 10) E dX10_blown_6 (by decide) ?_
    exact y_iret E dX10_blown_10 hv
theorem dX0_blown_0 : decode cX0_blown 0 = .ok (.iload_n 1, 1) := by decide +kernel
theorem dX0_blown_1 : decode cX0_blown 1 = .ok (.iconst 4, 1) := by decide +kernel
theorem dX0_blown_2 : decode cX0_blown 2 = .ok (.if_icmp .ne 12, 3) := by decide +kernel
theorem dX0_blown_5 : decode cX0_blown 5 = .ok (.aload_n 0, 1) := by decide +kernel
theorem dX0_blown_6 : decode cX0_blown 6 = .ok (.iload_n 1, 1) := by decide +kernel
theorem dX0_blown_7 : decode cX0_blown 7 = .ok (.iload_n 2, 1) := by decide +kernel
theorem dX0_blown_8 : decode cX0_blown 8 = .ok (.invokespecial 13, 3) := by decide +kernel
theorem dX0_blown_11 : decode cX0_blown 11 = .ok (.goto 8, 3) := by decide +kernel
theorem dX0_blown_14 : decode cX0_blown 14 = .ok (.iload_n 1, 1) := by decide +kernel
theorem dX0_blown_15 : decode cX0_blown 15 = .ok (.iconst 2, 1) := by decide +kernel
theorem dX0_blown_16 : decode cX0_blown 16 = .ok (.iadd, 1) := by decide +kernel
theorem dX0_blown_17 : decode cX0_blown 17 = .ok (.iconst 4, 1) := by decide +kernel
theorem dX0_blown_18 : decode cX0_blown 18 = .ok (.irem, 1) := by decide +kernel
theorem dX0_blown_19 : decode cX0_blown 19 = .ok (.ireturn, 1) := by decide +kernel
set_option maxRecDepth 100000 in
set_option maxHeartbeats 4000000 in
theorem kX0_blown (l : Launch) (w : wT) (hw : yOk w 55) (σ : Hp) (o : Nat) (a1 : Int32) (a2 : Int32) (K : Int32 → Hp → Prop) (hv : VX0_blown K σ o a1 a2) : yMet l w xcf 55 yX0_blown cX0_blown 3 (some .int) 2 [.ref (w.1 o), .int a1, .int a2] σ (yQi w xcf 55 K) := by
  unfold VX0_blown at hv
  refine y_start (lv0 := [(0, .ref (w.1 o)), (1, .int a1), (2, .int a2)]) (by decide +kernel) (own := RX0) rfl hw (Nat.le_of_ble_eq_true rfl) rfl (fun p e s m below meth c A E => ?_)
  obtain ⟨hgo, hv⟩ := hv
  refine y_iload_n E dX0_blown_0 1 rfl ?_
  refine y_iconst (v := 4) E dX0_blown_1 (by decide) ?_
  refine y_icmp_ne (tgt := 14) E dX0_blown_2 (by decide) (fun c1 => ?_) (fun c1 => ?_)
  · replace hv := ite_f hv c1
    refine y_iload_n E dX0_blown_14 1 rfl ?_
    refine y_iconst (v := 2) E dX0_blown_15 (by decide) ?_
    refine y_iadd E dX0_blown_16 ?_
    refine y_iconst (v := 4) E dX0_blown_17 (by decide) ?_
    refine y_irem E dX0_blown_18 (by decide) ?_
    exact y_iret E dX0_blown_19 hv
  · replace hv := ite_t hv c1
    refine y_aload_n E dX0_blown_5 0 rfl ?_
    refine y_iload_n E dX0_blown_6 1 rfl ?_
    refine y_iload_n E dX0_blown_7 2 rfl ?_
    obtain ⟨ci, fs, C9, T9, N9, hcl, hvc⟩ := xthing (w := w) (r := σ o) hgo
    refine y_calli E (y_runSI E (rest := []) (k := 2) (owner := RX10) (x0 := ⟨RX5, "blown", "(II)I"⟩) (kX10_blown l w E.2.2.1 σ o a1 a2 _ hv) wm_89 wm_90 wm_85 wm_91 wm_92 wm_93 wm_94 rfl (by decide) (by decide +kernel) (yRm_le (by decide) (by decide)) (Nat.lt_of_lt_of_le hgo.2 (by decide)) hcl hvc rfl rfl (Nat.le_of_ble_eq_true rfl) dX0_blown_8) (fun v2 u3 hv => ?_)
    refine y_goto (tgt := 19) E dX0_blown_11 (by decide) ?_
    exact y_iret E dX0_blown_19 hv
theorem dX2_isOne_0 : decode cX2_isOne 0 = .ok (.iload_n 1, 1) := by decide +kernel
theorem dX2_isOne_1 : decode cX2_isOne 1 = .ok (.iconst 5, 1) := by decide +kernel
theorem dX2_isOne_2 : decode cX2_isOne 2 = .ok (.if_icmp .eq 11, 3) := by decide +kernel
theorem dX2_isOne_5 : decode cX2_isOne 5 = .ok (.aload_n 0, 1) := by decide +kernel
theorem dX2_isOne_6 : decode cX2_isOne 6 = .ok (.iload_n 1, 1) := by decide +kernel
theorem dX2_isOne_7 : decode cX2_isOne 7 = .ok (.invokespecial 9, 3) := by decide +kernel
theorem dX2_isOne_10 : decode cX2_isOne 10 = .ok (.ifCond .eq 7, 3) := by decide +kernel
theorem dX2_isOne_13 : decode cX2_isOne 13 = .ok (.iconst 1, 1) := by decide +kernel
theorem dX2_isOne_14 : decode cX2_isOne 14 = .ok (.goto 4, 3) := by decide +kernel
theorem dX2_isOne_17 : decode cX2_isOne 17 = .ok (.iconst 0, 1) := by decide +kernel
theorem dX2_isOne_18 : decode cX2_isOne 18 = .ok (.ireturn, 1) := by decide +kernel
set_option maxRecDepth 100000 in
set_option maxHeartbeats 4000000 in
theorem kX2_isOne (l : Launch) (w : wT) (hw : yOk w 55) (σ : Hp) (o : Nat) (a1 : Int32) (K : Int32 → Hp → Prop) (hv : VX2_isOne K σ o a1) : yMet l w xcf 55 yX2_isOne cX2_isOne 2 (some .boolean) 2 [.ref (w.1 o), .int a1] σ (yQi w xcf 55 K) := by
  unfold VX2_isOne at hv
  refine y_start (lv0 := [(0, .ref (w.1 o)), (1, .int a1)]) (by decide +kernel) (own := RX2) rfl hw (Nat.le_of_ble_eq_true rfl) rfl (fun p e s m below meth c A E => ?_)
  obtain ⟨hgo, hv⟩ := hv
  refine y_iload_n E dX2_isOne_0 1 rfl ?_
  refine y_iconst (v := 5) E dX2_isOne_1 (by decide) ?_
  refine y_icmp_eq (tgt := 13) E dX2_isOne_2 (by decide) (fun c1 => ?_) (fun c1 => ?_)
  · replace hv := ite_t hv c1
    refine y_iconst (v := 1) E dX2_isOne_13 (by decide) ?_
    refine y_goto (tgt := 18) E dX2_isOne_14 (by decide) ?_
    exact y_nret E dX2_isOne_18 (by decide) hv
  · replace hv := ite_f hv c1
    refine y_aload_n E dX2_isOne_5 0 rfl ?_
    refine y_iload_n E dX2_isOne_6 1 rfl ?_
    obtain ⟨ci, fs, C9, T9, N9, hcl, hvc⟩ := xthing (w := w) (r := σ o) hgo
    refine y_calli E (y_runSU E (rest := []) (kX10_isOne l w E.2.2.1 σ o a1 _ hv) (y_cwSU 1 E.1.2.2.2.2 wm_125 wm_126 wm_127 wm_128 wm_93 wm_129 (by decide +kernel) (yRm_le (by decide) (by decide))) (Nat.lt_of_lt_of_le hgo.2 (by decide)) hcl hvc rfl rfl (Nat.le_of_ble_eq_true rfl) dX2_isOne_7) (fun v2 u3 hk => ?_)
    clear hv
    have hv := hk
    clear hk
    refine y_if_eq (tgt := 17) E dX2_isOne_10 (by decide) (fun c4 => ?_) (fun c4 => ?_)
    · replace hv := ite_t hv c4
      refine y_iconst (v := 0) E dX2_isOne_17 (by decide) ?_
      exact y_nret E dX2_isOne_18 (by decide) hv
    · replace hv := ite_f hv c4
      refine y_iconst (v := 1) E dX2_isOne_13 (by decide) ?_
      refine y_goto (tgt := 18) E dX2_isOne_14 (by decide) ?_
      exact y_nret E dX2_isOne_18 (by decide) hv
theorem dX2_blown_0 : decode cX2_blown 0 = .ok (.iload_n 2, 1) := by decide +kernel
theorem dX2_blown_1 : decode cX2_blown 1 = .ok (.iconst 4, 1) := by decide +kernel
theorem dX2_blown_2 : decode cX2_blown 2 = .ok (.if_icmp .ne 12, 3) := by decide +kernel
theorem dX2_blown_5 : decode cX2_blown 5 = .ok (.aload_n 0, 1) := by decide +kernel
theorem dX2_blown_6 : decode cX2_blown 6 = .ok (.iload_n 1, 1) := by decide +kernel
theorem dX2_blown_7 : decode cX2_blown 7 = .ok (.iload_n 2, 1) := by decide +kernel
theorem dX2_blown_8 : decode cX2_blown 8 = .ok (.invokespecial 13, 3) := by decide +kernel
theorem dX2_blown_11 : decode cX2_blown 11 = .ok (.goto 4, 3) := by decide +kernel
theorem dX2_blown_14 : decode cX2_blown 14 = .ok (.iload_n 2, 1) := by decide +kernel
theorem dX2_blown_15 : decode cX2_blown 15 = .ok (.ireturn, 1) := by decide +kernel
set_option maxRecDepth 100000 in
set_option maxHeartbeats 4000000 in
theorem kX2_blown (l : Launch) (w : wT) (hw : yOk w 55) (σ : Hp) (o : Nat) (a1 : Int32) (a2 : Int32) (K : Int32 → Hp → Prop) (hv : VX2_blown K σ o a1 a2) : yMet l w xcf 55 yX2_blown cX2_blown 3 (some .int) 2 [.ref (w.1 o), .int a1, .int a2] σ (yQi w xcf 55 K) := by
  unfold VX2_blown at hv
  refine y_start (lv0 := [(0, .ref (w.1 o)), (1, .int a1), (2, .int a2)]) (by decide +kernel) (own := RX2) rfl hw (Nat.le_of_ble_eq_true rfl) rfl (fun p e s m below meth c A E => ?_)
  obtain ⟨hgo, hv⟩ := hv
  refine y_iload_n E dX2_blown_0 2 rfl ?_
  refine y_iconst (v := 4) E dX2_blown_1 (by decide) ?_
  refine y_icmp_ne (tgt := 14) E dX2_blown_2 (by decide) (fun c1 => ?_) (fun c1 => ?_)
  · replace hv := ite_f hv c1
    refine y_iload_n E dX2_blown_14 2 rfl ?_
    exact y_iret E dX2_blown_15 hv
  · replace hv := ite_t hv c1
    refine y_aload_n E dX2_blown_5 0 rfl ?_
    refine y_iload_n E dX2_blown_6 1 rfl ?_
    refine y_iload_n E dX2_blown_7 2 rfl ?_
    obtain ⟨ci, fs, C9, T9, N9, hcl, hvc⟩ := xthing (w := w) (r := σ o) hgo
    refine y_calli E (y_runSU E (rest := []) (kX10_blown l w E.2.2.1 σ o a1 a2 _ hv) (y_cwSU 2 E.1.2.2.2.2 wm_130 wm_131 wm_127 wm_92 wm_93 wm_94 (by decide +kernel) (yRm_le (by decide) (by decide))) (Nat.lt_of_lt_of_le hgo.2 (by decide)) hcl hvc rfl rfl (Nat.le_of_ble_eq_true rfl) dX2_blown_8) (fun v2 u3 hk => ?_)
    clear hv
    have hv := hk
    clear hk
    refine y_goto (tgt := 15) E dX2_blown_11 (by decide) ?_
    exact y_iret E dX2_blown_15 hv
theorem dX5_touching_0 : decode cX5_touching 0 = .ok (.iload_n 1, 1) := by decide +kernel
theorem dX5_touching_1 : decode cX5_touching 1 = .ok (.iconst 1, 1) := by decide +kernel
theorem dX5_touching_2 : decode cX5_touching 2 = .ok (.iadd, 1) := by decide +kernel
theorem dX5_touching_3 : decode cX5_touching 3 = .ok (.iconst 4, 1) := by decide +kernel
theorem dX5_touching_4 : decode cX5_touching 4 = .ok (.irem, 1) := by decide +kernel
theorem dX5_touching_5 : decode cX5_touching 5 = .ok (.ireturn, 1) := by decide +kernel
set_option maxRecDepth 100000 in
set_option maxHeartbeats 4000000 in
theorem kX5_touching (l : Launch) (w : wT) (hw : yOk w 55) (σ : Hp) (o : Nat) (a1 : Int32) (K : Int32 → Hp → Prop) (hv : VX5_touching K σ o a1) : yMet l w xcf 55 yX5_touching cX5_touching 2 (some .int) 1 [.ref (w.1 o), .int a1] σ (yQi w xcf 55 K) := by
  unfold VX5_touching at hv
  refine y_start (lv0 := [(0, .ref (w.1 o)), (1, .int a1)]) (by decide +kernel) (own := RX5) rfl hw (Nat.le_of_ble_eq_true rfl) rfl (fun p e s m below meth c A E => ?_)
  obtain ⟨hgo, hv⟩ := hv
  refine y_iload_n E dX5_touching_0 1 rfl ?_
  refine y_iconst (v := 1) E dX5_touching_1 (by decide) ?_
  refine y_iadd E dX5_touching_2 ?_
  refine y_iconst (v := 4) E dX5_touching_3 (by decide) ?_
  refine y_irem E dX5_touching_4 (by decide) ?_
  exact y_iret E dX5_touching_5 hv
theorem dX7_isOne_0 : decode cX7_isOne 0 = .ok (.iload_n 1, 1) := by decide +kernel
theorem dX7_isOne_1 : decode cX7_isOne 1 = .ok (.iconst 1, 1) := by decide +kernel
theorem dX7_isOne_2 : decode cX7_isOne 2 = .ok (.if_icmp .eq 11, 3) := by decide +kernel
theorem dX7_isOne_5 : decode cX7_isOne 5 = .ok (.aload_n 0, 1) := by decide +kernel
theorem dX7_isOne_6 : decode cX7_isOne 6 = .ok (.iload_n 1, 1) := by decide +kernel
theorem dX7_isOne_7 : decode cX7_isOne 7 = .ok (.invokespecial 9, 3) := by decide +kernel
theorem dX7_isOne_10 : decode cX7_isOne 10 = .ok (.ifCond .eq 7, 3) := by decide +kernel
theorem dX7_isOne_13 : decode cX7_isOne 13 = .ok (.iconst 1, 1) := by decide +kernel
theorem dX7_isOne_14 : decode cX7_isOne 14 = .ok (.goto 4, 3) := by decide +kernel
theorem dX7_isOne_17 : decode cX7_isOne 17 = .ok (.iconst 0, 1) := by decide +kernel
theorem dX7_isOne_18 : decode cX7_isOne 18 = .ok (.ireturn, 1) := by decide +kernel
set_option maxRecDepth 100000 in
set_option maxHeartbeats 4000000 in
theorem kX7_isOne (l : Launch) (w : wT) (hw : yOk w 55) (σ : Hp) (o : Nat) (a1 : Int32) (K : Int32 → Hp → Prop) (hv : VX7_isOne K σ o a1) : yMet l w xcf 55 yX7_isOne cX7_isOne 2 (some .boolean) 2 [.ref (w.1 o), .int a1] σ (yQi w xcf 55 K) := by
  unfold VX7_isOne at hv
  refine y_start (lv0 := [(0, .ref (w.1 o)), (1, .int a1)]) (by decide +kernel) (own := RX7) rfl hw (Nat.le_of_ble_eq_true rfl) rfl (fun p e s m below meth c A E => ?_)
  obtain ⟨hgo, hv⟩ := hv
  refine y_iload_n E dX7_isOne_0 1 rfl ?_
  refine y_iconst (v := 1) E dX7_isOne_1 (by decide) ?_
  refine y_icmp_eq (tgt := 13) E dX7_isOne_2 (by decide) (fun c1 => ?_) (fun c1 => ?_)
  · replace hv := ite_t hv c1
    refine y_iconst (v := 1) E dX7_isOne_13 (by decide) ?_
    refine y_goto (tgt := 18) E dX7_isOne_14 (by decide) ?_
    exact y_nret E dX7_isOne_18 (by decide) hv
  · replace hv := ite_f hv c1
    refine y_aload_n E dX7_isOne_5 0 rfl ?_
    refine y_iload_n E dX7_isOne_6 1 rfl ?_
    obtain ⟨ci, fs, C9, T9, N9, hcl, hvc⟩ := xthing (w := w) (r := σ o) hgo
    refine y_calli E (y_runSU E (rest := []) (kX10_isOne l w E.2.2.1 σ o a1 _ hv) (y_cwSU 1 E.1.2.2.2.2 wm_233 wm_126 wm_234 wm_128 wm_93 wm_129 (by decide +kernel) (yRm_le (by decide) (by decide))) (Nat.lt_of_lt_of_le hgo.2 (by decide)) hcl hvc rfl rfl (Nat.le_of_ble_eq_true rfl) dX7_isOne_7) (fun v2 u3 hk => ?_)
    clear hv
    have hv := hk
    clear hk
    refine y_if_eq (tgt := 17) E dX7_isOne_10 (by decide) (fun c4 => ?_) (fun c4 => ?_)
    · replace hv := ite_t hv c4
      refine y_iconst (v := 0) E dX7_isOne_17 (by decide) ?_
      exact y_nret E dX7_isOne_18 (by decide) hv
    · replace hv := ite_f hv c4
      refine y_iconst (v := 1) E dX7_isOne_13 (by decide) ?_
      refine y_goto (tgt := 18) E dX7_isOne_14 (by decide) ?_
      exact y_nret E dX7_isOne_18 (by decide) hv
theorem dX7_touching_0 : decode cX7_touching 0 = .ok (.iconst 4, 1) := by decide +kernel
theorem dX7_touching_1 : decode cX7_touching 1 = .ok (.ireturn, 1) := by decide +kernel
set_option maxRecDepth 100000 in
set_option maxHeartbeats 4000000 in
theorem kX7_touching (l : Launch) (w : wT) (hw : yOk w 55) (σ : Hp) (o : Nat) (a1 : Int32) (K : Int32 → Hp → Prop) (hv : VX7_touching K σ o a1) : yMet l w xcf 55 yX7_touching cX7_touching 2 (some .int) 1 [.ref (w.1 o), .int a1] σ (yQi w xcf 55 K) := by
  unfold VX7_touching at hv
  refine y_start (lv0 := [(0, .ref (w.1 o)), (1, .int a1)]) (by decide +kernel) (own := RX7) rfl hw (Nat.le_of_ble_eq_true rfl) rfl (fun p e s m below meth c A E => ?_)
  obtain ⟨hgo, hv⟩ := hv
  refine y_iconst (v := 4) E dX7_touching_0 (by decide) ?_
  exact y_iret E dX7_touching_1 hv
theorem dX8_isOne_0 : decode cX8_isOne 0 = .ok (.iload_n 1, 1) := by decide +kernel
theorem dX8_isOne_1 : decode cX8_isOne 1 = .ok (.iconst 3, 1) := by decide +kernel
theorem dX8_isOne_2 : decode cX8_isOne 2 = .ok (.if_icmp .eq 11, 3) := by decide +kernel
theorem dX8_isOne_5 : decode cX8_isOne 5 = .ok (.aload_n 0, 1) := by decide +kernel
theorem dX8_isOne_6 : decode cX8_isOne 6 = .ok (.iload_n 1, 1) := by decide +kernel
theorem dX8_isOne_7 : decode cX8_isOne 7 = .ok (.invokespecial 7, 3) := by decide +kernel
theorem dX8_isOne_10 : decode cX8_isOne 10 = .ok (.ifCond .eq 7, 3) := by decide +kernel
theorem dX8_isOne_13 : decode cX8_isOne 13 = .ok (.iconst 1, 1) := by decide +kernel
theorem dX8_isOne_14 : decode cX8_isOne 14 = .ok (.goto 4, 3) := by decide +kernel
theorem dX8_isOne_17 : decode cX8_isOne 17 = .ok (.iconst 0, 1) := by decide +kernel
theorem dX8_isOne_18 : decode cX8_isOne 18 = .ok (.ireturn, 1) := by decide +kernel
set_option maxRecDepth 100000 in
set_option maxHeartbeats 4000000 in
theorem kX8_isOne (l : Launch) (w : wT) (hw : yOk w 55) (σ : Hp) (o : Nat) (a1 : Int32) (K : Int32 → Hp → Prop) (hv : VX8_isOne K σ o a1) : yMet l w xcf 55 yX8_isOne cX8_isOne 2 (some .boolean) 3 [.ref (w.1 o), .int a1] σ (yQi w xcf 55 K) := by
  unfold VX8_isOne at hv
  refine y_start (lv0 := [(0, .ref (w.1 o)), (1, .int a1)]) (by decide +kernel) (own := RX8) rfl hw (Nat.le_of_ble_eq_true rfl) rfl (fun p e s m below meth c A E => ?_)
  obtain ⟨hgo, hv⟩ := hv
  refine y_iload_n E dX8_isOne_0 1 rfl ?_
  refine y_iconst (v := 3) E dX8_isOne_1 (by decide) ?_
  refine y_icmp_eq (tgt := 13) E dX8_isOne_2 (by decide) (fun c1 => ?_) (fun c1 => ?_)
  · replace hv := ite_t hv c1
    refine y_iconst (v := 1) E dX8_isOne_13 (by decide) ?_
    refine y_goto (tgt := 18) E dX8_isOne_14 (by decide) ?_
    exact y_nret E dX8_isOne_18 (by decide) hv
  · replace hv := ite_f hv c1
    refine y_aload_n E dX8_isOne_5 0 rfl ?_
    refine y_iload_n E dX8_isOne_6 1 rfl ?_
    obtain ⟨ci, fs, C9, T9, N9, hcl, hvc⟩ := xthing (w := w) (r := σ o) hgo
    refine y_calli E (y_runSU E (rest := []) (kX7_isOne l w E.2.2.1 σ o a1 _ hv) (y_cwSU 1 E.1.2.2.2.2 wm_235 wm_236 wm_237 wm_238 wm_239 wm_240 (by decide +kernel) (yRm_le (by decide) (by decide))) (Nat.lt_of_lt_of_le hgo.2 (by decide)) hcl hvc rfl rfl (Nat.le_of_ble_eq_true rfl) dX8_isOne_7) (fun v2 u3 hk => ?_)
    clear hv
    have hv := hk
    clear hk
    refine y_if_eq (tgt := 17) E dX8_isOne_10 (by decide) (fun c4 => ?_) (fun c4 => ?_)
    · replace hv := ite_t hv c4
      refine y_iconst (v := 0) E dX8_isOne_17 (by decide) ?_
      exact y_nret E dX8_isOne_18 (by decide) hv
    · replace hv := ite_f hv c4
      refine y_iconst (v := 1) E dX8_isOne_13 (by decide) ?_
      refine y_goto (tgt := 18) E dX8_isOne_14 (by decide) ?_
      exact y_nret E dX8_isOne_18 (by decide) hv
theorem dX8_moves_0 : decode cX8_moves 0 = .ok (.iload_n 1, 1) := by decide +kernel
theorem dX8_moves_1 : decode cX8_moves 1 = .ok (.iload_n 2, 1) := by decide +kernel
theorem dX8_moves_2 : decode cX8_moves 2 = .ok (.iconst 3, 1) := by decide +kernel
theorem dX8_moves_3 : decode cX8_moves 3 = .ok (.invokestatic 11, 3) := by decide +kernel
theorem dX8_moves_6 : decode cX8_moves 6 = .ok (.iconst 1, 1) := by decide +kernel
theorem dX8_moves_7 : decode cX8_moves 7 = .ok (.iadd, 1) := by decide +kernel
theorem dX8_moves_8 : decode cX8_moves 8 = .ok (.irem, 1) := by decide +kernel
theorem dX8_moves_9 : decode cX8_moves 9 = .ok (.ifCond .ne 7, 3) := by decide +kernel
theorem dX8_moves_12 : decode cX8_moves 12 = .ok (.iconst 1, 1) := by decide +kernel
theorem dX8_moves_13 : decode cX8_moves 13 = .ok (.goto 4, 3) := by decide +kernel
theorem dX8_moves_16 : decode cX8_moves 16 = .ok (.iconst 0, 1) := by decide +kernel
theorem dX8_moves_17 : decode cX8_moves 17 = .ok (.ireturn, 1) := by decide +kernel
set_option maxRecDepth 100000 in
set_option maxHeartbeats 4000000 in
theorem kX8_moves (l : Launch) (w : wT) (hw : yOk w 55) (σ : Hp) (o : Nat) (a1 : Int32) (a2 : Int32) (K : Int32 → Hp → Prop) (hv : VX8_moves K σ o a1 a2) : yMet l w xcf 55 yX8_moves cX8_moves 3 (some .boolean) 2 [.ref (w.1 o), .int a1, .int a2] σ (yQi w xcf 55 K) := by
  unfold VX8_moves at hv
  refine y_start (lv0 := [(0, .ref (w.1 o)), (1, .int a1), (2, .int a2)]) (by decide +kernel) (own := RX8) rfl hw (Nat.le_of_ble_eq_true rfl) rfl (fun p e s m below meth c A E => ?_)
  obtain ⟨hgo, hv⟩ := hv
  refine y_iload_n E dX8_moves_0 1 rfl ?_
  refine y_iload_n E dX8_moves_1 2 rfl ?_
  refine y_iconst (v := 3) E dX8_moves_2 (by decide) ?_
  refine y_calli E (y_runS E (rest := [.int a1]) (kJ9_floorMod_7cf53 l w E.2.2.1 σ a2 3 _ hv) (y_cwF 2 E.1.2.2.2.2 wm_241 wm_242 wm_243 wm_244 (by decide +kernel) (yRm_le (by decide) (by decide))) rfl rfl (Nat.le_of_ble_eq_true rfl) dX8_moves_3) (fun v1 u2 hk => ?_)
  clear hv
  have hv := hk
  clear hk
  refine y_iconst (v := 1) E dX8_moves_6 (by decide) ?_
  refine y_iadd E dX8_moves_7 ?_
  obtain ⟨hz, hv⟩ := hv
  refine y_irem E dX8_moves_8 hz ?_
  refine y_if_ne (tgt := 16) E dX8_moves_9 (by decide) (fun c3 => ?_) (fun c3 => ?_)
  · replace hv := ite_f hv c3
    refine y_iconst (v := 0) E dX8_moves_16 (by decide) ?_
    exact y_nret E dX8_moves_17 (by decide) hv
  · replace hv := ite_t hv c3
    refine y_iconst (v := 1) E dX8_moves_12 (by decide) ?_
    refine y_goto (tgt := 17) E dX8_moves_13 (by decide) ?_
    exact y_nret E dX8_moves_17 (by decide) hv
theorem dX10_touching_0 : decode cX10_touching 0 = .ok (.iload_n 1, 1) := by decide +kernel
theorem dX10_touching_1 : decode cX10_touching 1 = .ok (.iconst 2, 1) := by decide +kernel
theorem dX10_touching_2 : decode cX10_touching 2 = .ok (.iadd, 1) := by decide +kernel
theorem dX10_touching_3 : decode cX10_touching 3 = .ok (.iconst 4, 1) := by decide +kernel
theorem dX10_touching_4 : decode cX10_touching 4 = .ok (.irem, 1) := by decide +kernel
theorem dX10_touching_5 : decode cX10_touching 5 = .ok (.ireturn, 1) := by decide +kernel
set_option maxRecDepth 100000 in
set_option maxHeartbeats 4000000 in
theorem kX10_touching (l : Launch) (w : wT) (hw : yOk w 55) (σ : Hp) (o : Nat) (a1 : Int32) (K : Int32 → Hp → Prop) (hv : VX10_touching K σ o a1) : yMet l w xcf 55 yX10_touching cX10_touching 2 (some .int) 1 [.ref (w.1 o), .int a1] σ (yQi w xcf 55 K) := by
  unfold VX10_touching at hv
  refine y_start (lv0 := [(0, .ref (w.1 o)), (1, .int a1)]) (by decide +kernel) (own := RX10) rfl hw (Nat.le_of_ble_eq_true rfl) rfl (fun p e s m below meth c A E => ?_)
  obtain ⟨hgo, hv⟩ := hv
  refine y_iload_n E dX10_touching_0 1 rfl ?_
  refine y_iconst (v := 2) E dX10_touching_1 (by decide) ?_
  refine y_iadd E dX10_touching_2 ?_
  refine y_iconst (v := 4) E dX10_touching_3 (by decide) ?_
  refine y_irem E dX10_touching_4 (by decide) ?_
  exact y_iret E dX10_touching_5 hv
theorem dX10_moves_0 : decode cX10_moves 0 = .ok (.iconst 1, 1) := by decide +kernel
theorem dX10_moves_1 : decode cX10_moves 1 = .ok (.ireturn, 1) := by decide +kernel
set_option maxRecDepth 100000 in
set_option maxHeartbeats 4000000 in
theorem kX10_moves (l : Launch) (w : wT) (hw : yOk w 55) (σ : Hp) (o : Nat) (a1 : Int32) (a2 : Int32) (K : Int32 → Hp → Prop) (hv : VX10_moves K σ o a1 a2) : yMet l w xcf 55 yX10_moves cX10_moves 3 (some .boolean) 1 [.ref (w.1 o), .int a1, .int a2] σ (yQi w xcf 55 K) := by
  unfold VX10_moves at hv
  refine y_start (lv0 := [(0, .ref (w.1 o)), (1, .int a1), (2, .int a2)]) (by decide +kernel) (own := RX10) rfl hw (Nat.le_of_ble_eq_true rfl) rfl (fun p e s m below meth c A E => ?_)
  obtain ⟨hgo, hv⟩ := hv
  refine y_iconst (v := 1) E dX10_moves_0 (by decide) ?_
  exact y_nret E dX10_moves_1 (by decide) hv
set_option maxHeartbeats 4000000 in
theorem rP_blown {p : Program} {l : Launch} {e : Env} {d' : Nat} {s : State} {m : MethodId} {args : Array Value} {below : List Frame} {meth : Method} {c : Code} {w : wT} {A : Nat → Prop} {nL : Nat} {σ : Hp} {pc : Nat} {lv : List (Nat × Value)} {rest : List Value} {cc : ByteArray} {own : String} {r : Option FieldType} {index o : Nat} {a1 a2 : Int32} {K : Int32 → Hp → Prop} (E : YE p m meth c cc nL s args own r w 55 A) (hdd : 2 + 1 ≤ d') (hv : VP_blown K σ o a1 a2) (hlink : Cond.methodLink own index yX10_blown ∈ wG) (hr : (rest.map fun v => v.category).sum ≤ 8) (hd : decode cc pc = .ok (.invokevirtual index, 3)) : YR p l e (yRm d') s m args below meth c w xcf 55 A nL σ pc lv (.int a2 :: .int a1 ::  .ref (w.1 o) :: rest) rest (#[.ref (w.1 o), .int a1, .int a2]) (yQi w xcf 55 K) := by
  unfold VP_blown at hv
  by_cases h0 : o = 12
  · subst h0
    rw [if_pos rfl] at hv
    exact y_runU E (rest := rest) (kX10_blown l w E.2.2.1 σ 12 a1 a2 _ hv) (y_cwU (C := RX10) (owner := RX10) (x0 := yX10_blown) 2 E.1.2.2.2.2 hlink wm_131 wm_1061 wm_92 wm_93 wm_94 rfl (by decide +kernel) (yRm_le (by omega) (by decide))) (by decide) (xc_t0 (by decide) (by decide)) rfl rfl rfl hr hd
  rw [if_neg h0] at hv
  by_cases h1 : o = 13
  · subst h1
    rw [if_pos rfl] at hv
    exact y_runU E (rest := rest) (kX10_blown l w E.2.2.1 σ 13 a1 a2 _ hv) (y_cwU (C := RX7) (owner := RX10) (x0 := yX10_blown) 2 E.1.2.2.2.2 hlink wm_131 wm_1062 wm_92 wm_93 wm_94 rfl (by decide +kernel) (yRm_le (by omega) (by decide))) (by decide) (xc_t1 (by decide) (by decide)) rfl rfl rfl hr hd
  rw [if_neg h1] at hv
  by_cases h2 : o = 14
  · subst h2
    rw [if_pos rfl] at hv
    exact y_runU E (rest := rest) (kX10_blown l w E.2.2.1 σ 14 a1 a2 _ hv) (y_cwU (C := RX5) (owner := RX10) (x0 := yX10_blown) 2 E.1.2.2.2.2 hlink wm_131 wm_1063 wm_92 wm_93 wm_94 rfl (by decide +kernel) (yRm_le (by omega) (by decide))) (by decide) (xc_t2 (by decide) (by decide)) rfl rfl rfl hr hd
  rw [if_neg h2] at hv
  by_cases h3 : o = 15
  · subst h3
    rw [if_pos rfl] at hv
    exact y_runU E (rest := rest) (kX10_blown l w E.2.2.1 σ 15 a1 a2 _ hv) (y_cwU (C := RX8) (owner := RX10) (x0 := yX10_blown) 2 E.1.2.2.2.2 hlink wm_131 wm_1064 wm_92 wm_93 wm_94 rfl (by decide +kernel) (yRm_le (by omega) (by decide))) (by decide) (xc_t3 (by decide) (by decide)) rfl rfl rfl hr hd
  rw [if_neg h3] at hv
  by_cases h4 : o = 16
  · subst h4
    rw [if_pos rfl] at hv
    exact y_runU E (rest := rest) (kX0_blown l w E.2.2.1 σ 16 a1 a2 _ hv) (y_cwO (C := RX0) (owner := RX10) (x0 := yX10_blown) 2 E.1.2.2.2.2 hlink wm_131 wm_92 wm_1065 wm_1066 wm_733 wm_1067 wm_94 (by decide +kernel) (yRm_le (by omega) (by decide))) (by decide) (xc_t4 (by decide) (by decide)) rfl rfl rfl hr hd
  rw [if_neg h4] at hv
  by_cases h5 : o = 17
  · subst h5
    rw [if_pos rfl] at hv
    exact y_runU E (rest := rest) (kX2_blown l w E.2.2.1 σ 17 a1 a2 _ hv) (y_cwO (C := RX2) (owner := RX10) (x0 := yX10_blown) 2 E.1.2.2.2.2 hlink wm_131 wm_92 wm_1068 wm_1069 wm_738 wm_1070 wm_94 (by decide +kernel) (yRm_le (by omega) (by decide))) (by decide) (xc_t5 (by decide) (by decide)) rfl rfl rfl hr hd
  rw [if_neg h5] at hv
  exact hv.elim
set_option maxHeartbeats 4000000 in
theorem rP_moves {p : Program} {l : Launch} {e : Env} {d' : Nat} {s : State} {m : MethodId} {args : Array Value} {below : List Frame} {meth : Method} {c : Code} {w : wT} {A : Nat → Prop} {nL : Nat} {σ : Hp} {pc : Nat} {lv : List (Nat × Value)} {rest : List Value} {cc : ByteArray} {own : String} {r : Option FieldType} {index o : Nat} {a1 a2 : Int32} {K : Int32 → Hp → Prop} (E : YE p m meth c cc nL s args own r w 55 A) (hdd : 2 + 1 ≤ d') (hv : VP_moves K σ o a1 a2) (hlink : Cond.methodLink own index yX10_moves ∈ wG) (hr : (rest.map fun v => v.category).sum ≤ 8) (hd : decode cc pc = .ok (.invokevirtual index, 3)) : YR p l e (yRm d') s m args below meth c w xcf 55 A nL σ pc lv (.int a2 :: .int a1 ::  .ref (w.1 o) :: rest) rest (#[.ref (w.1 o), .int a1, .int a2]) (yQi w xcf 55 K) := by
  unfold VP_moves at hv
  by_cases h0 : o = 12
  · subst h0
    rw [if_pos rfl] at hv
    exact y_runU E (rest := rest) (kX10_moves l w E.2.2.1 σ 12 a1 a2 _ hv) (y_cwU (C := RX10) (owner := RX10) (x0 := yX10_moves) 2 E.1.2.2.2.2 hlink wm_1071 wm_1072 wm_1073 wm_93 wm_1074 rfl (by decide +kernel) (yRm_le (by omega) (by decide))) (by decide) (xc_t0 (by decide) (by decide)) rfl rfl rfl hr hd
  rw [if_neg h0] at hv
  by_cases h1 : o = 13
  · subst h1
    rw [if_pos rfl] at hv
    exact y_runU E (rest := rest) (kX10_moves l w E.2.2.1 σ 13 a1 a2 _ hv) (y_cwU (C := RX7) (owner := RX10) (x0 := yX10_moves) 2 E.1.2.2.2.2 hlink wm_1071 wm_1075 wm_1073 wm_93 wm_1074 rfl (by decide +kernel) (yRm_le (by omega) (by decide))) (by decide) (xc_t1 (by decide) (by decide)) rfl rfl rfl hr hd
  rw [if_neg h1] at hv
  by_cases h2 : o = 14
  · subst h2
    rw [if_pos rfl] at hv
    exact y_runU E (rest := rest) (kX10_moves l w E.2.2.1 σ 14 a1 a2 _ hv) (y_cwU (C := RX5) (owner := RX10) (x0 := yX10_moves) 2 E.1.2.2.2.2 hlink wm_1071 wm_1076 wm_1073 wm_93 wm_1074 rfl (by decide +kernel) (yRm_le (by omega) (by decide))) (by decide) (xc_t2 (by decide) (by decide)) rfl rfl rfl hr hd
  rw [if_neg h2] at hv
  by_cases h3 : o = 15
  · subst h3
    rw [if_pos rfl] at hv
    exact y_runU E (rest := rest) (kX8_moves l w E.2.2.1 σ 15 a1 a2 _ hv) (y_cwO (C := RX8) (owner := RX10) (x0 := yX10_moves) 2 E.1.2.2.2.2 hlink wm_1071 wm_1073 wm_1077 wm_1078 wm_728 wm_1079 wm_1074 (by decide +kernel) (yRm_le (by omega) (by decide))) (by decide) (xc_t3 (by decide) (by decide)) rfl rfl rfl hr hd
  rw [if_neg h3] at hv
  by_cases h4 : o = 16
  · subst h4
    rw [if_pos rfl] at hv
    exact y_runU E (rest := rest) (kX10_moves l w E.2.2.1 σ 16 a1 a2 _ hv) (y_cwU (C := RX0) (owner := RX10) (x0 := yX10_moves) 2 E.1.2.2.2.2 hlink wm_1071 wm_1080 wm_1073 wm_93 wm_1074 rfl (by decide +kernel) (yRm_le (by omega) (by decide))) (by decide) (xc_t4 (by decide) (by decide)) rfl rfl rfl hr hd
  rw [if_neg h4] at hv
  by_cases h5 : o = 17
  · subst h5
    rw [if_pos rfl] at hv
    exact y_runU E (rest := rest) (kX10_moves l w E.2.2.1 σ 17 a1 a2 _ hv) (y_cwU (C := RX2) (owner := RX10) (x0 := yX10_moves) 2 E.1.2.2.2.2 hlink wm_1071 wm_1081 wm_1073 wm_93 wm_1074 rfl (by decide +kernel) (yRm_le (by omega) (by decide))) (by decide) (xc_t5 (by decide) (by decide)) rfl rfl rfl hr hd
  rw [if_neg h5] at hv
  exact hv.elim
set_option maxHeartbeats 4000000 in
theorem rP_touching {p : Program} {l : Launch} {e : Env} {d' : Nat} {s : State} {m : MethodId} {args : Array Value} {below : List Frame} {meth : Method} {c : Code} {w : wT} {A : Nat → Prop} {nL : Nat} {σ : Hp} {pc : Nat} {lv : List (Nat × Value)} {rest : List Value} {cc : ByteArray} {own : String} {r : Option FieldType} {index o : Nat} {a1 : Int32} {K : Int32 → Hp → Prop} (E : YE p m meth c cc nL s args own r w 55 A) (hdd : 1 + 1 ≤ d') (hv : VP_touching K σ o a1) (hlink : Cond.methodLink own index yX10_touching ∈ wG) (hr : (rest.map fun v => v.category).sum ≤ 8) (hd : decode cc pc = .ok (.invokevirtual index, 3)) : YR p l e (yRm d') s m args below meth c w xcf 55 A nL σ pc lv (.int a1 ::  .ref (w.1 o) :: rest) rest (#[.ref (w.1 o), .int a1]) (yQi w xcf 55 K) := by
  unfold VP_touching at hv
  by_cases h0 : o = 12
  · subst h0
    rw [if_pos rfl] at hv
    exact y_runU E (rest := rest) (kX10_touching l w E.2.2.1 σ 12 a1 _ hv) (y_cwU (C := RX10) (owner := RX10) (x0 := yX10_touching) 1 E.1.2.2.2.2 hlink wm_1082 wm_1083 wm_1084 wm_93 wm_1085 rfl (by decide +kernel) (yRm_le (by omega) (by decide))) (by decide) (xc_t0 (by decide) (by decide)) rfl rfl rfl hr hd
  rw [if_neg h0] at hv
  by_cases h1 : o = 13
  · subst h1
    rw [if_pos rfl] at hv
    exact y_runU E (rest := rest) (kX7_touching l w E.2.2.1 σ 13 a1 _ hv) (y_cwO (C := RX7) (owner := RX10) (x0 := yX10_touching) 1 E.1.2.2.2.2 hlink wm_1082 wm_1084 wm_1086 wm_1087 wm_239 wm_1088 wm_1085 (by decide +kernel) (yRm_le (by omega) (by decide))) (by decide) (xc_t1 (by decide) (by decide)) rfl rfl rfl hr hd
  rw [if_neg h1] at hv
  by_cases h2 : o = 14
  · subst h2
    rw [if_pos rfl] at hv
    exact y_runU E (rest := rest) (kX5_touching l w E.2.2.1 σ 14 a1 _ hv) (y_cwO (C := RX5) (owner := RX10) (x0 := yX10_touching) 1 E.1.2.2.2.2 hlink wm_1082 wm_1084 wm_1089 wm_1090 wm_87 wm_1091 wm_1085 (by decide +kernel) (yRm_le (by omega) (by decide))) (by decide) (xc_t2 (by decide) (by decide)) rfl rfl rfl hr hd
  rw [if_neg h2] at hv
  by_cases h3 : o = 15
  · subst h3
    rw [if_pos rfl] at hv
    exact y_runU E (rest := rest) (kX7_touching l w E.2.2.1 σ 15 a1 _ hv) (y_cwO (C := RX8) (owner := RX10) (x0 := yX10_touching) 1 E.1.2.2.2.2 hlink wm_1082 wm_1084 wm_1092 wm_1087 wm_239 wm_1088 wm_1085 (by decide +kernel) (yRm_le (by omega) (by decide))) (by decide) (xc_t3 (by decide) (by decide)) rfl rfl rfl hr hd
  rw [if_neg h3] at hv
  by_cases h4 : o = 16
  · subst h4
    rw [if_pos rfl] at hv
    exact y_runU E (rest := rest) (kX5_touching l w E.2.2.1 σ 16 a1 _ hv) (y_cwO (C := RX0) (owner := RX10) (x0 := yX10_touching) 1 E.1.2.2.2.2 hlink wm_1082 wm_1084 wm_1093 wm_1090 wm_87 wm_1091 wm_1085 (by decide +kernel) (yRm_le (by omega) (by decide))) (by decide) (xc_t4 (by decide) (by decide)) rfl rfl rfl hr hd
  rw [if_neg h4] at hv
  by_cases h5 : o = 17
  · subst h5
    rw [if_pos rfl] at hv
    exact y_runU E (rest := rest) (kX10_touching l w E.2.2.1 σ 17 a1 _ hv) (y_cwU (C := RX2) (owner := RX10) (x0 := yX10_touching) 1 E.1.2.2.2.2 hlink wm_1082 wm_1094 wm_1084 wm_93 wm_1085 rfl (by decide +kernel) (yRm_le (by omega) (by decide))) (by decide) (xc_t5 (by decide) (by decide)) rfl rfl rfl hr hd
  rw [if_neg h5] at hv
  exact hv.elim
set_option maxHeartbeats 4000000 in
theorem rP_isOne {p : Program} {l : Launch} {e : Env} {d' : Nat} {s : State} {m : MethodId} {args : Array Value} {below : List Frame} {meth : Method} {c : Code} {w : wT} {A : Nat → Prop} {nL : Nat} {σ : Hp} {pc : Nat} {lv : List (Nat × Value)} {rest : List Value} {cc : ByteArray} {own : String} {r : Option FieldType} {index o : Nat} {a1 : Int32} {K : Int32 → Hp → Prop} (E : YE p m meth c cc nL s args own r w 55 A) (hdd : 3 + 1 ≤ d') (hv : VP_isOne K σ o a1) (hlink : Cond.methodLink own index yX10_isOne ∈ wG) (hr : (rest.map fun v => v.category).sum ≤ 8) (hd : decode cc pc = .ok (.invokevirtual index, 3)) : YR p l e (yRm d') s m args below meth c w xcf 55 A nL σ pc lv (.int a1 ::  .ref (w.1 o) :: rest) rest (#[.ref (w.1 o), .int a1]) (yQi w xcf 55 K) := by
  unfold VP_isOne at hv
  by_cases h0 : o = 12
  · subst h0
    rw [if_pos rfl] at hv
    exact y_runU E (rest := rest) (kX10_isOne l w E.2.2.1 σ 12 a1 _ hv) (y_cwU (C := RX10) (owner := RX10) (x0 := yX10_isOne) 1 E.1.2.2.2.2 hlink wm_126 wm_1095 wm_128 wm_93 wm_129 rfl (by decide +kernel) (yRm_le (by omega) (by decide))) (by decide) (xc_t0 (by decide) (by decide)) rfl rfl rfl hr hd
  rw [if_neg h0] at hv
  by_cases h1 : o = 13
  · subst h1
    rw [if_pos rfl] at hv
    exact y_runU E (rest := rest) (kX7_isOne l w E.2.2.1 σ 13 a1 _ hv) (y_cwO (C := RX7) (owner := RX10) (x0 := yX10_isOne) 1 E.1.2.2.2.2 hlink wm_126 wm_128 wm_1096 wm_238 wm_239 wm_240 wm_129 (by decide +kernel) (yRm_le (by omega) (by decide))) (by decide) (xc_t1 (by decide) (by decide)) rfl rfl rfl hr hd
  rw [if_neg h1] at hv
  by_cases h2 : o = 14
  · subst h2
    rw [if_pos rfl] at hv
    exact y_runU E (rest := rest) (kX5_isOne l w E.2.2.1 σ 14 a1 _ hv) (y_cwO (C := RX5) (owner := RX10) (x0 := yX10_isOne) 1 E.1.2.2.2.2 hlink wm_126 wm_128 wm_1097 wm_86 wm_87 wm_88 wm_129 (by decide +kernel) (yRm_le (by omega) (by decide))) (by decide) (xc_t2 (by decide) (by decide)) rfl rfl rfl hr hd
  rw [if_neg h2] at hv
  by_cases h3 : o = 15
  · subst h3
    rw [if_pos rfl] at hv
    exact y_runU E (rest := rest) (kX8_isOne l w E.2.2.1 σ 15 a1 _ hv) (y_cwO (C := RX8) (owner := RX10) (x0 := yX10_isOne) 1 E.1.2.2.2.2 hlink wm_126 wm_128 wm_1098 wm_1099 wm_728 wm_1100 wm_129 (by decide +kernel) (yRm_le (by omega) (by decide))) (by decide) (xc_t3 (by decide) (by decide)) rfl rfl rfl hr hd
  rw [if_neg h3] at hv
  by_cases h4 : o = 16
  · subst h4
    rw [if_pos rfl] at hv
    exact y_runU E (rest := rest) (kX0_isOne l w E.2.2.1 σ 16 a1 _ hv) (y_cwO (C := RX0) (owner := RX10) (x0 := yX10_isOne) 1 E.1.2.2.2.2 hlink wm_126 wm_128 wm_1101 wm_1102 wm_733 wm_1103 wm_129 (by decide +kernel) (yRm_le (by omega) (by decide))) (by decide) (xc_t4 (by decide) (by decide)) rfl rfl rfl hr hd
  rw [if_neg h4] at hv
  by_cases h5 : o = 17
  · subst h5
    rw [if_pos rfl] at hv
    exact y_runU E (rest := rest) (kX2_isOne l w E.2.2.1 σ 17 a1 _ hv) (y_cwO (C := RX2) (owner := RX10) (x0 := yX10_isOne) 1 E.1.2.2.2.2 hlink wm_126 wm_128 wm_1104 wm_1105 wm_738 wm_1106 wm_129 (by decide +kernel) (yRm_le (by omega) (by decide))) (by decide) (xc_t5 (by decide) (by decide)) rfl rfl rfl hr hd
  rw [if_neg h5] at hv
  exact hv.elim
end
section
theorem dX11_has_0 : decode cX11_has 0 = .ok (.iload_n 0, 1) := by decide +kernel
theorem dX11_has_1 : decode cX11_has 1 = .ok (.iload_n 1, 1) := by decide +kernel
theorem dX11_has_2 : decode cX11_has 2 = .ok (.ishr, 1) := by decide +kernel
theorem dX11_has_3 : decode cX11_has 3 = .ok (.iconst 1, 1) := by decide +kernel
theorem dX11_has_4 : decode cX11_has 4 = .ok (.iand, 1) := by decide +kernel
theorem dX11_has_5 : decode cX11_has 5 = .ok (.iconst 1, 1) := by decide +kernel
theorem dX11_has_6 : decode cX11_has 6 = .ok (.if_icmp .ne 7, 3) := by decide +kernel
theorem dX11_has_9 : decode cX11_has 9 = .ok (.iconst 1, 1) := by decide +kernel
theorem dX11_has_10 : decode cX11_has 10 = .ok (.goto 4, 3) := by decide +kernel
theorem dX11_has_13 : decode cX11_has 13 = .ok (.iconst 0, 1) := by decide +kernel
theorem dX11_has_14 : decode cX11_has 14 = .ok (.ireturn, 1) := by decide +kernel
set_option maxRecDepth 100000 in
set_option maxHeartbeats 4000000 in
theorem kX11_has (l : Launch) (w : wT) (hw : yOk w 55) (σ : Hp) (a1 : Int32) (a2 : Int32) (K : Int32 → Hp → Prop) (hv : VX11_has K σ a1 a2) : yMet l w xcf 55 yX11_has cX11_has 2 (some .boolean) 1 [.int a1, .int a2] σ (yQi w xcf 55 K) := by
  unfold VX11_has at hv
  refine y_start (lv0 := [(0, .int a1), (1, .int a2)]) (by decide +kernel) (own := RX11) rfl hw (Nat.le_of_ble_eq_true rfl) rfl (fun p e s m below meth c A E => ?_)
  refine y_iload_n E dX11_has_0 0 rfl ?_
  refine y_iload_n E dX11_has_1 1 rfl ?_
  refine y_ishr E dX11_has_2 ?_
  refine y_iconst (v := 1) E dX11_has_3 (by decide) ?_
  refine y_iand E dX11_has_4 ?_
  refine y_iconst (v := 1) E dX11_has_5 (by decide) ?_
  refine y_icmp_ne (tgt := 13) E dX11_has_6 (by decide) (fun c1 => ?_) (fun c1 => ?_)
  · replace hv := ite_f hv c1
    refine y_iconst (v := 0) E dX11_has_13 (by decide) ?_
    exact y_nret E dX11_has_14 (by decide) hv
  · replace hv := ite_t hv c1
    refine y_iconst (v := 1) E dX11_has_9 (by decide) ?_
    refine y_goto (tgt := 14) E dX11_has_10 (by decide) ?_
    exact y_nret E dX11_has_14 (by decide) hv
theorem dX3_beyond_0 : decode cX3_beyond 0 = .ok (.iload_n 1, 1) := by decide +kernel
theorem dX3_beyond_1 : decode cX3_beyond 1 = .ok (.bipush 6, 2) := by decide +kernel
theorem dX3_beyond_3 : decode cX3_beyond 3 = .ok (.irem, 1) := by decide +kernel
theorem dX3_beyond_4 : decode cX3_beyond 4 = .ok (.iload_n 2, 1) := by decide +kernel
theorem dX3_beyond_5 : decode cX3_beyond 5 = .ok (.iconst 1, 1) := by decide +kernel
theorem dX3_beyond_6 : decode cX3_beyond 6 = .ok (.if_icmp .ne 7, 3) := by decide +kernel
theorem dX3_beyond_9 : decode cX3_beyond 9 = .ok (.iconst 1, 1) := by decide +kernel
theorem dX3_beyond_10 : decode cX3_beyond 10 = .ok (.goto 13, 3) := by decide +kernel
theorem dX3_beyond_13 : decode cX3_beyond 13 = .ok (.iload_n 2, 1) := by decide +kernel
theorem dX3_beyond_14 : decode cX3_beyond 14 = .ok (.iconst 3, 1) := by decide +kernel
theorem dX3_beyond_15 : decode cX3_beyond 15 = .ok (.if_icmp .ne 7, 3) := by decide +kernel
theorem dX3_beyond_18 : decode cX3_beyond 18 = .ok (.iconst (-1), 1) := by decide +kernel
theorem dX3_beyond_19 : decode cX3_beyond 19 = .ok (.goto 4, 3) := by decide +kernel
theorem dX3_beyond_22 : decode cX3_beyond 22 = .ok (.iconst 0, 1) := by decide +kernel
theorem dX3_beyond_23 : decode cX3_beyond 23 = .ok (.iadd, 1) := by decide +kernel
theorem dX3_beyond_24 : decode cX3_beyond 24 = .ok (.istore_n 3, 1) := by decide +kernel
theorem dX3_beyond_25 : decode cX3_beyond 25 = .ok (.iload_n 1, 1) := by decide +kernel
theorem dX3_beyond_26 : decode cX3_beyond 26 = .ok (.bipush 6, 2) := by decide +kernel
theorem dX3_beyond_28 : decode cX3_beyond 28 = .ok (.idiv, 1) := by decide +kernel
theorem dX3_beyond_29 : decode cX3_beyond 29 = .ok (.iload_n 2, 1) := by decide +kernel
theorem dX3_beyond_30 : decode cX3_beyond 30 = .ok (.iconst 2, 1) := by decide +kernel
theorem dX3_beyond_31 : decode cX3_beyond 31 = .ok (.if_icmp .ne 7, 3) := by decide +kernel
theorem dX3_beyond_34 : decode cX3_beyond 34 = .ok (.iconst 1, 1) := by decide +kernel
theorem dX3_beyond_35 : decode cX3_beyond 35 = .ok (.goto 12, 3) := by decide +kernel
theorem dX3_beyond_38 : decode cX3_beyond 38 = .ok (.iload_n 2, 1) := by decide +kernel
theorem dX3_beyond_39 : decode cX3_beyond 39 = .ok (.ifCond .ne 7, 3) := by decide +kernel
theorem dX3_beyond_42 : decode cX3_beyond 42 = .ok (.iconst (-1), 1) := by decide +kernel
theorem dX3_beyond_43 : decode cX3_beyond 43 = .ok (.goto 4, 3) := by decide +kernel
theorem dX3_beyond_46 : decode cX3_beyond 46 = .ok (.iconst 0, 1) := by decide +kernel
theorem dX3_beyond_47 : decode cX3_beyond 47 = .ok (.iadd, 1) := by decide +kernel
theorem dX3_beyond_48 : decode cX3_beyond 48 = .ok (.istore 4, 2) := by decide +kernel
theorem dX3_beyond_50 : decode cX3_beyond 50 = .ok (.iload_n 3, 1) := by decide +kernel
theorem dX3_beyond_51 : decode cX3_beyond 51 = .ok (.ifCond .lt 20, 3) := by decide +kernel
theorem dX3_beyond_54 : decode cX3_beyond 54 = .ok (.iload_n 3, 1) := by decide +kernel
theorem dX3_beyond_55 : decode cX3_beyond 55 = .ok (.bipush 6, 2) := by decide +kernel
theorem dX3_beyond_57 : decode cX3_beyond 57 = .ok (.if_icmp .ge 14, 3) := by decide +kernel
theorem dX3_beyond_60 : decode cX3_beyond 60 = .ok (.iload 4, 2) := by decide +kernel
theorem dX3_beyond_62 : decode cX3_beyond 62 = .ok (.ifCond .lt 9, 3) := by decide +kernel
theorem dX3_beyond_65 : decode cX3_beyond 65 = .ok (.iload 4, 2) := by decide +kernel
theorem dX3_beyond_67 : decode cX3_beyond 67 = .ok (.iconst 5, 1) := by decide +kernel
theorem dX3_beyond_68 : decode cX3_beyond 68 = .ok (.if_icmp .lt 5, 3) := by decide +kernel
theorem dX3_beyond_71 : decode cX3_beyond 71 = .ok (.iconst (-1), 1) := by decide +kernel
theorem dX3_beyond_72 : decode cX3_beyond 72 = .ok (.ireturn, 1) := by decide +kernel
theorem dX3_beyond_73 : decode cX3_beyond 73 = .ok (.bipush 6, 2) := by decide +kernel
theorem dX3_beyond_75 : decode cX3_beyond 75 = .ok (.iload 4, 2) := by decide +kernel
theorem dX3_beyond_77 : decode cX3_beyond 77 = .ok (.imul, 1) := by decide +kernel
theorem dX3_beyond_78 : decode cX3_beyond 78 = .ok (.iload_n 3, 1) := by decide +kernel
theorem dX3_beyond_79 : decode cX3_beyond 79 = .ok (.iadd, 1) := by decide +kernel
theorem dX3_beyond_80 : decode cX3_beyond 80 = .ok (.istore 5, 2) := by decide +kernel
theorem dX3_beyond_82 : decode cX3_beyond 82 = .ok (.aload_n 0, 1) := by decide +kernel
theorem dX3_beyond_83 : decode cX3_beyond 83 = .ok (.getfield 24, 3) := by decide +kernel
theorem dX3_beyond_86 : decode cX3_beyond 86 = .ok (.iload 5, 2) := by decide +kernel
theorem dX3_beyond_88 : decode cX3_beyond 88 = .ok (.invokestatic 49, 3) := by decide +kernel
theorem dX3_beyond_91 : decode cX3_beyond 91 = .ok (.ifCond .eq 7, 3) := by decide +kernel
theorem dX3_beyond_94 : decode cX3_beyond 94 = .ok (.iconst (-1), 1) := by decide +kernel
theorem dX3_beyond_95 : decode cX3_beyond 95 = .ok (.goto 5, 3) := by decide +kernel
theorem dX3_beyond_98 : decode cX3_beyond 98 = .ok (.iload 5, 2) := by decide +kernel
theorem dX3_beyond_100 : decode cX3_beyond 100 = .ok (.ireturn, 1) := by decide +kernel
set_option maxRecDepth 100000 in
set_option maxHeartbeats 4000000 in
theorem kX3_beyond (l : Launch) (w : wT) (hw : yOk w 55) (σ : Hp) (o : Nat) (a1 : Int32) (a2 : Int32) (K : Int32 → Hp → Prop) (hv : VX3_beyond K σ o a1 a2) : yMet l w xcf 55 yX3_beyond cX3_beyond 6 (some .int) 2 [.ref (w.1 o), .int a1, .int a2] σ (yQi w xcf 55 K) := by
  unfold VX3_beyond at hv
  refine y_start (lv0 := [(0, .ref (w.1 o)), (1, .int a1), (2, .int a2)]) (by decide +kernel) (own := RX3) rfl hw (Nat.le_of_ble_eq_true rfl) rfl (fun p e s m below meth c A E => ?_)
  obtain ⟨hgo, hv⟩ := hv
  have hb47 : ∀ (σ : Hp) (l3 : Int32) (s0 : Int32) (s1 : Int32), VX3_beyond_b47 K o σ l3 s0 s1 → YY p l e (yRm 2) s m [.ref (w.1 o), .int a1, .int a2].toArray below meth c w xcf 55 A (MQ below (yQi w xcf 55 K A) [.ref (w.1 o), .int a1, .int a2].toArray s 0 0 A) 6 σ 47 [(0, .ref (w.1 o)), (3, .int l3)] [.int s0, .int s1] := by
    intro σ l3 s0 s1 hv
    unfold VX3_beyond_b47 at hv
    refine y_iadd E dX3_beyond_47 ?_
    refine y_nmi (fun x6 hx6 => ?_)
    replace hv := hv x6 hx6
    refine y_istore (lv' := [(4, .int x6), (0, .ref (w.1 o)), (3, .int l3)]) E dX3_beyond_48 (by decide) rfl ?_
    refine y_iload_n E dX3_beyond_50 2 rfl ?_
    refine y_if_lt (tgt := 71) E dX3_beyond_51 (by decide) (fun c7 => ?_) (fun c7 => ?_)
    · replace hv := ite_t hv c7
      refine y_iconst (v := (-1)) E dX3_beyond_71 (by decide) ?_
      exact y_iret E dX3_beyond_72 hv
    · replace hv := ite_f hv c7
      refine y_iload_n E dX3_beyond_54 2 rfl ?_
      refine y_bipush (v := 6) E dX3_beyond_55 (by decide) ?_
      refine y_icmp_ge (tgt := 71) E dX3_beyond_57 (by decide) (fun c8 => ?_) (fun c8 => ?_)
      · replace hv := ite_t hv c8
        refine y_iconst (v := (-1)) E dX3_beyond_71 (by decide) ?_
        exact y_iret E dX3_beyond_72 hv
      · replace hv := ite_f hv c8
        refine y_iload E dX3_beyond_60 0 rfl ?_
        refine y_if_lt (tgt := 71) E dX3_beyond_62 (by decide) (fun c9 => ?_) (fun c9 => ?_)
        · replace hv := ite_t hv c9
          refine y_iconst (v := (-1)) E dX3_beyond_71 (by decide) ?_
          exact y_iret E dX3_beyond_72 hv
        · replace hv := ite_f hv c9
          refine y_iload E dX3_beyond_65 0 rfl ?_
          refine y_iconst (v := 5) E dX3_beyond_67 (by decide) ?_
          refine y_icmp_lt (tgt := 73) E dX3_beyond_68 (by decide) (fun c10 => ?_) (fun c10 => ?_)
          · replace hv := ite_t hv c10
            refine y_bipush (v := 6) E dX3_beyond_73 (by decide) ?_
            refine y_iload E dX3_beyond_75 0 rfl ?_
            refine y_imul E dX3_beyond_77 ?_
            refine y_iload_n E dX3_beyond_78 2 rfl ?_
            refine y_iadd E dX3_beyond_79 ?_
            refine y_nmi (fun x11 hx11 => ?_)
            replace hv := hv x11 hx11
            refine y_istore (lv' := [(5, .int x11), (4, .int x6), (0, .ref (w.1 o)), (3, .int l3)]) E dX3_beyond_80 (by decide) rfl ?_
            refine y_aload_n E dX3_beyond_82 2 rfl ?_
            refine gf_X3_0 E hgo.1 hgo.2 wm_132 dX3_beyond_83 ?_
            refine y_iload E dX3_beyond_86 0 rfl ?_
            refine y_calli E (y_runSN E (rest := []) (kX11_has l w E.2.2.1 σ (σ o 0) x11 _ hv) (y_cwSN (own := RX3) (host := RX11) 2 E.1.2.2.2.2 (E.2.1.2.1.1 _ (List.mem_of_getElem? (i := 14) rfl)) wm_115 wm_116 wm_117 (by decide +kernel) (yRm_le (by decide) (by decide))) rfl rfl (Nat.le_of_ble_eq_true rfl) dX3_beyond_88) (fun v12 u13 hk => ?_)
            clear hv
            have hv := hk
            clear hk
            refine y_if_eq (tgt := 98) E dX3_beyond_91 (by decide) (fun c14 => ?_) (fun c14 => ?_)
            · replace hv := ite_t hv c14
              refine y_iload E dX3_beyond_98 0 rfl ?_
              exact y_iret E dX3_beyond_100 hv
            · replace hv := ite_f hv c14
              refine y_iconst (v := (-1)) E dX3_beyond_94 (by decide) ?_
              refine y_goto (tgt := 100) E dX3_beyond_95 (by decide) ?_
              exact y_iret E dX3_beyond_100 hv
          · replace hv := ite_f hv c10
            refine y_iconst (v := (-1)) E dX3_beyond_71 (by decide) ?_
            exact y_iret E dX3_beyond_72 hv
  have hb23 : ∀ (σ : Hp) (l1 : Int32) (l2 : Int32) (s0 : Int32) (s1 : Int32), VX3_beyond_b23 K o σ l1 l2 s0 s1 → YY p l e (yRm 2) s m [.ref (w.1 o), .int a1, .int a2].toArray below meth c w xcf 55 A (MQ below (yQi w xcf 55 K A) [.ref (w.1 o), .int a1, .int a2].toArray s 0 0 A) 6 σ 23 [(0, .ref (w.1 o)), (1, .int l1), (2, .int l2)] [.int s0, .int s1] := by
    intro σ l1 l2 s0 s1 hv
    unfold VX3_beyond_b23 at hv
    refine y_iadd E dX3_beyond_23 ?_
    refine y_nmi (fun x3 hx3 => ?_)
    replace hv := hv x3 hx3
    refine y_istore_n (lv' := [(3, .int x3), (0, .ref (w.1 o)), (1, .int l1), (2, .int l2)]) E dX3_beyond_24 (by decide) rfl ?_
    refine y_iload_n E dX3_beyond_25 2 rfl ?_
    refine y_bipush (v := 6) E dX3_beyond_26 (by decide) ?_
    refine y_idiv E dX3_beyond_28 (by decide) ?_
    refine y_iload_n E dX3_beyond_29 3 rfl ?_
    refine y_iconst (v := 2) E dX3_beyond_30 (by decide) ?_
    refine y_icmp_ne (tgt := 38) E dX3_beyond_31 (by decide) (fun c4 => ?_) (fun c4 => ?_)
    · replace hv := ite_f hv c4
      refine y_iload_n E dX3_beyond_38 3 rfl ?_
      refine y_if_ne (tgt := 46) E dX3_beyond_39 (by decide) (fun c5 => ?_) (fun c5 => ?_)
      · replace hv := ite_f hv c5
        refine y_iconst (v := 0) E dX3_beyond_46 (by decide) ?_
        refine y_lv (lv' := [(0, .ref (w.1 o)), (3, .int x3)]) [1, 0] rfl ?_
        exact hb47 σ x3 0 (l1 / 6) hv
      · replace hv := ite_t hv c5
        refine y_iconst (v := (-1)) E dX3_beyond_42 (by decide) ?_
        refine y_goto (tgt := 47) E dX3_beyond_43 (by decide) ?_
        refine y_lv (lv' := [(0, .ref (w.1 o)), (3, .int x3)]) [1, 0] rfl ?_
        exact hb47 σ x3 (-1) (l1 / 6) hv
    · replace hv := ite_t hv c4
      refine y_iconst (v := 1) E dX3_beyond_34 (by decide) ?_
      refine y_goto (tgt := 47) E dX3_beyond_35 (by decide) ?_
      refine y_lv (lv' := [(0, .ref (w.1 o)), (3, .int x3)]) [1, 0] rfl ?_
      exact hb47 σ x3 1 (l1 / 6) hv
  refine y_iload_n E dX3_beyond_0 1 rfl ?_
  refine y_bipush (v := 6) E dX3_beyond_1 (by decide) ?_
  refine y_irem E dX3_beyond_3 (by decide) ?_
  refine y_iload_n E dX3_beyond_4 2 rfl ?_
  refine y_iconst (v := 1) E dX3_beyond_5 (by decide) ?_
  refine y_icmp_ne (tgt := 13) E dX3_beyond_6 (by decide) (fun c1 => ?_) (fun c1 => ?_)
  · replace hv := ite_f hv c1
    refine y_iload_n E dX3_beyond_13 2 rfl ?_
    refine y_iconst (v := 3) E dX3_beyond_14 (by decide) ?_
    refine y_icmp_ne (tgt := 22) E dX3_beyond_15 (by decide) (fun c2 => ?_) (fun c2 => ?_)
    · replace hv := ite_f hv c2
      refine y_iconst (v := 0) E dX3_beyond_22 (by decide) ?_
      exact hb23 σ a1 a2 0 (jrem a1 6) hv
    · replace hv := ite_t hv c2
      refine y_iconst (v := (-1)) E dX3_beyond_18 (by decide) ?_
      refine y_goto (tgt := 23) E dX3_beyond_19 (by decide) ?_
      exact hb23 σ a1 a2 (-1) (jrem a1 6) hv
  · replace hv := ite_t hv c1
    refine y_iconst (v := 1) E dX3_beyond_9 (by decide) ?_
    refine y_goto (tgt := 23) E dX3_beyond_10 (by decide) ?_
    exact hb23 σ a1 a2 1 (jrem a1 6) hv
theorem dX9_joined_0 : decode cX9_joined 0 = .ok (.iload_n 0, 1) := by decide +kernel
theorem dX9_joined_1 : decode cX9_joined 1 = .ok (.tableswitch 87 (-14) (-9) #[73, 62, 51, 47, 43, 39], 39) := by decide +kernel
theorem dX9_joined_40 : decode cX9_joined 40 = .ok (.iload_n 1, 1) := by decide +kernel
theorem dX9_joined_41 : decode cX9_joined 41 = .ok (.iload_n 2, 1) := by decide +kernel
theorem dX9_joined_42 : decode cX9_joined 42 = .ok (.iadd, 1) := by decide +kernel
theorem dX9_joined_43 : decode cX9_joined 43 = .ok (.ireturn, 1) := by decide +kernel
theorem dX9_joined_44 : decode cX9_joined 44 = .ok (.iload_n 1, 1) := by decide +kernel
theorem dX9_joined_45 : decode cX9_joined 45 = .ok (.iload_n 2, 1) := by decide +kernel
theorem dX9_joined_46 : decode cX9_joined 46 = .ok (.isub, 1) := by decide +kernel
theorem dX9_joined_47 : decode cX9_joined 47 = .ok (.ireturn, 1) := by decide +kernel
theorem dX9_joined_48 : decode cX9_joined 48 = .ok (.iload_n 1, 1) := by decide +kernel
theorem dX9_joined_49 : decode cX9_joined 49 = .ok (.iload_n 2, 1) := by decide +kernel
theorem dX9_joined_50 : decode cX9_joined 50 = .ok (.imul, 1) := by decide +kernel
theorem dX9_joined_51 : decode cX9_joined 51 = .ok (.ireturn, 1) := by decide +kernel
theorem dX9_joined_52 : decode cX9_joined 52 = .ok (.iload_n 1, 1) := by decide +kernel
theorem dX9_joined_53 : decode cX9_joined 53 = .ok (.iload_n 2, 1) := by decide +kernel
theorem dX9_joined_54 : decode cX9_joined 54 = .ok (.if_icmp .ge 7, 3) := by decide +kernel
theorem dX9_joined_57 : decode cX9_joined 57 = .ok (.iconst 1, 1) := by decide +kernel
theorem dX9_joined_58 : decode cX9_joined 58 = .ok (.goto 4, 3) := by decide +kernel
theorem dX9_joined_61 : decode cX9_joined 61 = .ok (.iconst 0, 1) := by decide +kernel
theorem dX9_joined_62 : decode cX9_joined 62 = .ok (.ireturn, 1) := by decide +kernel
theorem dX9_joined_63 : decode cX9_joined 63 = .ok (.iload_n 1, 1) := by decide +kernel
theorem dX9_joined_64 : decode cX9_joined 64 = .ok (.iload_n 2, 1) := by decide +kernel
theorem dX9_joined_65 : decode cX9_joined 65 = .ok (.if_icmp .ne 7, 3) := by decide +kernel
theorem dX9_joined_68 : decode cX9_joined 68 = .ok (.iconst 1, 1) := by decide +kernel
theorem dX9_joined_69 : decode cX9_joined 69 = .ok (.goto 4, 3) := by decide +kernel
theorem dX9_joined_72 : decode cX9_joined 72 = .ok (.iconst 0, 1) := by decide +kernel
theorem dX9_joined_73 : decode cX9_joined 73 = .ok (.ireturn, 1) := by decide +kernel
theorem dX9_joined_74 : decode cX9_joined 74 = .ok (.iload_n 1, 1) := by decide +kernel
theorem dX9_joined_75 : decode cX9_joined 75 = .ok (.ifCond .eq 11, 3) := by decide +kernel
theorem dX9_joined_78 : decode cX9_joined 78 = .ok (.iload_n 2, 1) := by decide +kernel
theorem dX9_joined_79 : decode cX9_joined 79 = .ok (.ifCond .eq 7, 3) := by decide +kernel
theorem dX9_joined_82 : decode cX9_joined 82 = .ok (.iconst 1, 1) := by decide +kernel
theorem dX9_joined_83 : decode cX9_joined 83 = .ok (.goto 4, 3) := by decide +kernel
theorem dX9_joined_86 : decode cX9_joined 86 = .ok (.iconst 0, 1) := by decide +kernel
theorem dX9_joined_87 : decode cX9_joined 87 = .ok (.ireturn, 1) := by decide +kernel
theorem dX9_joined_88 : decode cX9_joined 88 = .ok (.iload_n 1, 1) := by decide +kernel
theorem dX9_joined_89 : decode cX9_joined 89 = .ok (.ifCond .ne 7, 3) := by decide +kernel
theorem dX9_joined_92 : decode cX9_joined 92 = .ok (.iload_n 2, 1) := by decide +kernel
theorem dX9_joined_93 : decode cX9_joined 93 = .ok (.ifCond .eq 7, 3) := by decide +kernel
theorem dX9_joined_96 : decode cX9_joined 96 = .ok (.iconst 1, 1) := by decide +kernel
theorem dX9_joined_97 : decode cX9_joined 97 = .ok (.goto 4, 3) := by decide +kernel
theorem dX9_joined_100 : decode cX9_joined 100 = .ok (.iconst 0, 1) := by decide +kernel
theorem dX9_joined_101 : decode cX9_joined 101 = .ok (.ireturn, 1) := by decide +kernel
set_option maxRecDepth 100000 in
set_option maxHeartbeats 4000000 in
theorem kX9_joined (l : Launch) (w : wT) (hw : yOk w 55) (σ : Hp) (a1 : Int32) (a2 : Int32) (a3 : Int32) (K : Int32 → Hp → Prop) (hv : VX9_joined K σ a1 a2 a3) : yMet l w xcf 55 yX9_joined cX9_joined 3 (some .int) 1 [.int a1, .int a2, .int a3] σ (yQi w xcf 55 K) := by
  unfold VX9_joined at hv
  refine y_start (lv0 := [(0, .int a1), (1, .int a2), (2, .int a3)]) (by decide +kernel) (own := RX9) rfl hw (Nat.le_of_ble_eq_true rfl) rfl (fun p e s m below meth c A E => ?_)
  refine y_iload_n E dX9_joined_0 0 rfl ?_
  by_cases c1 : a1 = (-14)
  · replace hv := ite_t hv c1
    refine y_table1 (tgt := 74) (off := 73) (j := 0) E dX9_joined_1 (i32_eq (z := -14) (by decide) c1) (by decide) rfl (by decide) ?_
    refine y_iload_n E dX9_joined_74 1 rfl ?_
    refine y_if_eq (tgt := 86) E dX9_joined_75 (by decide) (fun c2 => ?_) (fun c2 => ?_)
    · replace hv := ite_t hv c2
      refine y_iconst (v := 0) E dX9_joined_86 (by decide) ?_
      exact y_iret E dX9_joined_87 hv
    · replace hv := ite_f hv c2
      refine y_iload_n E dX9_joined_78 2 rfl ?_
      refine y_if_eq (tgt := 86) E dX9_joined_79 (by decide) (fun c3 => ?_) (fun c3 => ?_)
      · replace hv := ite_t hv c3
        refine y_iconst (v := 0) E dX9_joined_86 (by decide) ?_
        exact y_iret E dX9_joined_87 hv
      · replace hv := ite_f hv c3
        refine y_iconst (v := 1) E dX9_joined_82 (by decide) ?_
        refine y_goto (tgt := 87) E dX9_joined_83 (by decide) ?_
        exact y_iret E dX9_joined_87 hv
  · replace hv := ite_f hv c1
    by_cases c4 : a1 = (-13)
    · replace hv := ite_t hv c4
      refine y_table1 (tgt := 63) (off := 62) (j := 1) E dX9_joined_1 (i32_eq (z := -13) (by decide) c4) (by decide) rfl (by decide) ?_
      refine y_iload_n E dX9_joined_63 1 rfl ?_
      refine y_iload_n E dX9_joined_64 2 rfl ?_
      refine y_icmp_ne (tgt := 72) E dX9_joined_65 (by decide) (fun c5 => ?_) (fun c5 => ?_)
      · replace hv := ite_f hv c5
        refine y_iconst (v := 0) E dX9_joined_72 (by decide) ?_
        exact y_iret E dX9_joined_73 hv
      · replace hv := ite_t hv c5
        refine y_iconst (v := 1) E dX9_joined_68 (by decide) ?_
        refine y_goto (tgt := 73) E dX9_joined_69 (by decide) ?_
        exact y_iret E dX9_joined_73 hv
    · replace hv := ite_f hv c4
      by_cases c6 : a1 = (-12)
      · replace hv := ite_t hv c6
        refine y_table1 (tgt := 52) (off := 51) (j := 2) E dX9_joined_1 (i32_eq (z := -12) (by decide) c6) (by decide) rfl (by decide) ?_
        refine y_iload_n E dX9_joined_52 1 rfl ?_
        refine y_iload_n E dX9_joined_53 2 rfl ?_
        refine y_icmp_ge (tgt := 61) E dX9_joined_54 (by decide) (fun c7 => ?_) (fun c7 => ?_)
        · replace hv := ite_t hv c7
          refine y_iconst (v := 0) E dX9_joined_61 (by decide) ?_
          exact y_iret E dX9_joined_62 hv
        · replace hv := ite_f hv c7
          refine y_iconst (v := 1) E dX9_joined_57 (by decide) ?_
          refine y_goto (tgt := 62) E dX9_joined_58 (by decide) ?_
          exact y_iret E dX9_joined_62 hv
      · replace hv := ite_f hv c6
        by_cases c8 : a1 = (-11)
        · replace hv := ite_t hv c8
          refine y_table1 (tgt := 48) (off := 47) (j := 3) E dX9_joined_1 (i32_eq (z := -11) (by decide) c8) (by decide) rfl (by decide) ?_
          refine y_iload_n E dX9_joined_48 1 rfl ?_
          refine y_iload_n E dX9_joined_49 2 rfl ?_
          refine y_imul E dX9_joined_50 ?_
          exact y_iret E dX9_joined_51 hv
        · replace hv := ite_f hv c8
          by_cases c9 : a1 = (-10)
          · replace hv := ite_t hv c9
            refine y_table1 (tgt := 44) (off := 43) (j := 4) E dX9_joined_1 (i32_eq (z := -10) (by decide) c9) (by decide) rfl (by decide) ?_
            refine y_iload_n E dX9_joined_44 1 rfl ?_
            refine y_iload_n E dX9_joined_45 2 rfl ?_
            refine y_isub E dX9_joined_46 ?_
            exact y_iret E dX9_joined_47 hv
          · replace hv := ite_f hv c9
            by_cases c10 : a1 = (-9)
            · replace hv := ite_t hv c10
              refine y_table1 (tgt := 40) (off := 39) (j := 5) E dX9_joined_1 (i32_eq (z := -9) (by decide) c10) (by decide) rfl (by decide) ?_
              refine y_iload_n E dX9_joined_40 1 rfl ?_
              refine y_iload_n E dX9_joined_41 2 rfl ?_
              refine y_iadd E dX9_joined_42 ?_
              exact y_iret E dX9_joined_43 hv
            · replace hv := ite_f hv c10
              refine y_table0 (tgt := 88) E dX9_joined_1 (by decide) (fun j hj => ?_) (by decide) ?_
              · match j, hj with
                | 0, _ => exact Or.inr (i32_ne (z := -14 + ((0 : Nat) : Int)) (by decide) c1)
                | 1, _ => exact Or.inr (i32_ne (z := -14 + ((1 : Nat) : Int)) (by decide) c4)
                | 2, _ => exact Or.inr (i32_ne (z := -14 + ((2 : Nat) : Int)) (by decide) c6)
                | 3, _ => exact Or.inr (i32_ne (z := -14 + ((3 : Nat) : Int)) (by decide) c8)
                | 4, _ => exact Or.inr (i32_ne (z := -14 + ((4 : Nat) : Int)) (by decide) c9)
                | 5, _ => exact Or.inr (i32_ne (z := -14 + ((5 : Nat) : Int)) (by decide) c10)
                | j + 6, hj => exact absurd hj (by simp)
              · refine y_iload_n E dX9_joined_88 1 rfl ?_
                refine y_if_ne (tgt := 96) E dX9_joined_89 (by decide) (fun c11 => ?_) (fun c11 => ?_)
                · replace hv := ite_f hv c11
                  refine y_iconst (v := 1) E dX9_joined_96 (by decide) ?_
                  refine y_goto (tgt := 101) E dX9_joined_97 (by decide) ?_
                  exact y_iret E dX9_joined_101 hv
                · replace hv := ite_t hv c11
                  refine y_iload_n E dX9_joined_92 2 rfl ?_
                  refine y_if_eq (tgt := 100) E dX9_joined_93 (by decide) (fun c12 => ?_) (fun c12 => ?_)
                  · replace hv := ite_t hv c12
                    refine y_iconst (v := 0) E dX9_joined_100 (by decide) ?_
                    exact y_iret E dX9_joined_101 hv
                  · replace hv := ite_f hv c12
                    refine y_iconst (v := 1) E dX9_joined_96 (by decide) ?_
                    refine y_goto (tgt := 101) E dX9_joined_97 (by decide) ?_
                    exact y_iret E dX9_joined_101 hv
theorem dX9_leaf_0 : decode cX9_leaf 0 = .ok (.iload_n 0, 1) := by decide +kernel
theorem dX9_leaf_1 : decode cX9_leaf 1 = .ok (.tableswitch 58 (-6) (-1) #[55, 53, 51, 46, 41, 39], 39) := by decide +kernel
theorem dX9_leaf_40 : decode cX9_leaf 40 = .ok (.iload_n 1, 1) := by decide +kernel
theorem dX9_leaf_41 : decode cX9_leaf 41 = .ok (.ireturn, 1) := by decide +kernel
theorem dX9_leaf_42 : decode cX9_leaf 42 = .ok (.iload_n 1, 1) := by decide +kernel
theorem dX9_leaf_43 : decode cX9_leaf 43 = .ok (.bipush 6, 2) := by decide +kernel
theorem dX9_leaf_45 : decode cX9_leaf 45 = .ok (.irem, 1) := by decide +kernel
theorem dX9_leaf_46 : decode cX9_leaf 46 = .ok (.ireturn, 1) := by decide +kernel
theorem dX9_leaf_47 : decode cX9_leaf 47 = .ok (.iload_n 1, 1) := by decide +kernel
theorem dX9_leaf_48 : decode cX9_leaf 48 = .ok (.bipush 6, 2) := by decide +kernel
theorem dX9_leaf_50 : decode cX9_leaf 50 = .ok (.idiv, 1) := by decide +kernel
theorem dX9_leaf_51 : decode cX9_leaf 51 = .ok (.ireturn, 1) := by decide +kernel
theorem dX9_leaf_52 : decode cX9_leaf 52 = .ok (.iload_n 2, 1) := by decide +kernel
theorem dX9_leaf_53 : decode cX9_leaf 53 = .ok (.ireturn, 1) := by decide +kernel
theorem dX9_leaf_54 : decode cX9_leaf 54 = .ok (.iload_n 3, 1) := by decide +kernel
theorem dX9_leaf_55 : decode cX9_leaf 55 = .ok (.ireturn, 1) := by decide +kernel
theorem dX9_leaf_56 : decode cX9_leaf 56 = .ok (.iload 4, 2) := by decide +kernel
theorem dX9_leaf_58 : decode cX9_leaf 58 = .ok (.ireturn, 1) := by decide +kernel
theorem dX9_leaf_59 : decode cX9_leaf 59 = .ok (.iload_n 0, 1) := by decide +kernel
theorem dX9_leaf_60 : decode cX9_leaf 60 = .ok (.ireturn, 1) := by decide +kernel
set_option maxRecDepth 100000 in
set_option maxHeartbeats 4000000 in
theorem kX9_leaf (l : Launch) (w : wT) (hw : yOk w 55) (σ : Hp) (a1 : Int32) (a2 : Int32) (a3 : Int32) (a4 : Int32) (a5 : Int32) (K : Int32 → Hp → Prop) (hv : VX9_leaf K σ a1 a2 a3 a4 a5) : yMet l w xcf 55 yX9_leaf cX9_leaf 5 (some .int) 1 [.int a1, .int a2, .int a3, .int a4, .int a5] σ (yQi w xcf 55 K) := by
  unfold VX9_leaf at hv
  refine y_start (lv0 := [(0, .int a1), (1, .int a2), (2, .int a3), (3, .int a4), (4, .int a5)]) (by decide +kernel) (own := RX9) rfl hw (Nat.le_of_ble_eq_true rfl) rfl (fun p e s m below meth c A E => ?_)
  refine y_iload_n E dX9_leaf_0 0 rfl ?_
  by_cases c1 : a1 = (-6)
  · replace hv := ite_t hv c1
    refine y_table1 (tgt := 56) (off := 55) (j := 0) E dX9_leaf_1 (i32_eq (z := -6) (by decide) c1) (by decide) rfl (by decide) ?_
    refine y_iload E dX9_leaf_56 4 rfl ?_
    exact y_iret E dX9_leaf_58 hv
  · replace hv := ite_f hv c1
    by_cases c2 : a1 = (-5)
    · replace hv := ite_t hv c2
      refine y_table1 (tgt := 54) (off := 53) (j := 1) E dX9_leaf_1 (i32_eq (z := -5) (by decide) c2) (by decide) rfl (by decide) ?_
      refine y_iload_n E dX9_leaf_54 3 rfl ?_
      exact y_iret E dX9_leaf_55 hv
    · replace hv := ite_f hv c2
      by_cases c3 : a1 = (-4)
      · replace hv := ite_t hv c3
        refine y_table1 (tgt := 52) (off := 51) (j := 2) E dX9_leaf_1 (i32_eq (z := -4) (by decide) c3) (by decide) rfl (by decide) ?_
        refine y_iload_n E dX9_leaf_52 2 rfl ?_
        exact y_iret E dX9_leaf_53 hv
      · replace hv := ite_f hv c3
        by_cases c4 : a1 = (-3)
        · replace hv := ite_t hv c4
          refine y_table1 (tgt := 47) (off := 46) (j := 3) E dX9_leaf_1 (i32_eq (z := -3) (by decide) c4) (by decide) rfl (by decide) ?_
          refine y_iload_n E dX9_leaf_47 1 rfl ?_
          refine y_bipush (v := 6) E dX9_leaf_48 (by decide) ?_
          refine y_idiv E dX9_leaf_50 (by decide) ?_
          exact y_iret E dX9_leaf_51 hv
        · replace hv := ite_f hv c4
          by_cases c5 : a1 = (-2)
          · replace hv := ite_t hv c5
            refine y_table1 (tgt := 42) (off := 41) (j := 4) E dX9_leaf_1 (i32_eq (z := -2) (by decide) c5) (by decide) rfl (by decide) ?_
            refine y_iload_n E dX9_leaf_42 1 rfl ?_
            refine y_bipush (v := 6) E dX9_leaf_43 (by decide) ?_
            refine y_irem E dX9_leaf_45 (by decide) ?_
            exact y_iret E dX9_leaf_46 hv
          · replace hv := ite_f hv c5
            by_cases c6 : a1 = (-1)
            · replace hv := ite_t hv c6
              refine y_table1 (tgt := 40) (off := 39) (j := 5) E dX9_leaf_1 (i32_eq (z := -1) (by decide) c6) (by decide) rfl (by decide) ?_
              refine y_iload_n E dX9_leaf_40 1 rfl ?_
              exact y_iret E dX9_leaf_41 hv
            · replace hv := ite_f hv c6
              refine y_table0 (tgt := 59) E dX9_leaf_1 (by decide) (fun j hj => ?_) (by decide) ?_
              · match j, hj with
                | 0, _ => exact Or.inr (i32_ne (z := -6 + ((0 : Nat) : Int)) (by decide) c1)
                | 1, _ => exact Or.inr (i32_ne (z := -6 + ((1 : Nat) : Int)) (by decide) c2)
                | 2, _ => exact Or.inr (i32_ne (z := -6 + ((2 : Nat) : Int)) (by decide) c3)
                | 3, _ => exact Or.inr (i32_ne (z := -6 + ((3 : Nat) : Int)) (by decide) c4)
                | 4, _ => exact Or.inr (i32_ne (z := -6 + ((4 : Nat) : Int)) (by decide) c5)
                | 5, _ => exact Or.inr (i32_ne (z := -6 + ((5 : Nat) : Int)) (by decide) c6)
                | j + 6, hj => exact absurd hj (by simp)
              · refine y_iload_n E dX9_leaf_59 0 rfl ?_
                exact y_iret E dX9_leaf_60 hv
theorem dX9_says_0 : decode cX9_says 0 = .ok (.iconst 0, 1) := by decide +kernel
theorem dX9_says_1 : decode cX9_says 1 = .ok (.istore 6, 2) := by decide +kernel
theorem dX9_says_3 : decode cX9_says 3 = .ok (.aload_n 0, 1) := by decide +kernel
theorem dX9_says_4 : decode cX9_says 4 = .ok (.getfield 15, 3) := by decide +kernel
theorem dX9_says_7 : decode cX9_says 7 = .ok (.iload_n 1, 1) := by decide +kernel
theorem dX9_says_8 : decode cX9_says 8 = .ok (.iaload, 1) := by decide +kernel
theorem dX9_says_9 : decode cX9_says 9 = .ok (.istore 7, 2) := by decide +kernel
theorem dX9_says_11 : decode cX9_says 11 = .ok (.iload 7, 2) := by decide +kernel
theorem dX9_says_13 : decode cX9_says 13 = .ok (.aload_n 0, 1) := by decide +kernel
theorem dX9_says_14 : decode cX9_says 14 = .ok (.getfield 15, 3) := by decide +kernel
theorem dX9_says_17 : decode cX9_says 17 = .ok (.iload_n 1, 1) := by decide +kernel
theorem dX9_says_18 : decode cX9_says 18 = .ok (.iconst 1, 1) := by decide +kernel
theorem dX9_says_19 : decode cX9_says 19 = .ok (.iadd, 1) := by decide +kernel
theorem dX9_says_20 : decode cX9_says 20 = .ok (.iaload, 1) := by decide +kernel
theorem dX9_says_21 : decode cX9_says 21 = .ok (.if_icmp .ge 157, 3) := by decide +kernel
theorem dX9_says_24 : decode cX9_says 24 = .ok (.aload_n 0, 1) := by decide +kernel
theorem dX9_says_25 : decode cX9_says 25 = .ok (.getfield 9, 3) := by decide +kernel
theorem dX9_says_28 : decode cX9_says 28 = .ok (.iload 7, 2) := by decide +kernel
theorem dX9_says_30 : decode cX9_says 30 = .ok (.iaload, 1) := by decide +kernel
theorem dX9_says_31 : decode cX9_says 31 = .ok (.istore 8, 2) := by decide +kernel
theorem dX9_says_33 : decode cX9_says 33 = .ok (.iload 8, 2) := by decide +kernel
theorem dX9_says_35 : decode cX9_says 35 = .ok (.bipush (-6), 2) := by decide +kernel
theorem dX9_says_37 : decode cX9_says 37 = .ok (.if_icmp .lt 35, 3) := by decide +kernel
theorem dX9_says_40 : decode cX9_says 40 = .ok (.iload 6, 2) := by decide +kernel
theorem dX9_says_42 : decode cX9_says 42 = .ok (.sipush 160, 3) := by decide +kernel
theorem dX9_says_45 : decode cX9_says 45 = .ok (.if_icmp .ge 27, 3) := by decide +kernel
theorem dX9_says_48 : decode cX9_says 48 = .ok (.aload_n 0, 1) := by decide +kernel
theorem dX9_says_49 : decode cX9_says 49 = .ok (.getfield 18, 3) := by decide +kernel
theorem dX9_says_52 : decode cX9_says 52 = .ok (.iload 6, 2) := by decide +kernel
theorem dX9_says_54 : decode cX9_says 54 = .ok (.iload 8, 2) := by decide +kernel
theorem dX9_says_56 : decode cX9_says 56 = .ok (.iload_n 2, 1) := by decide +kernel
theorem dX9_says_57 : decode cX9_says 57 = .ok (.iload_n 3, 1) := by decide +kernel
theorem dX9_says_58 : decode cX9_says 58 = .ok (.iload 4, 2) := by decide +kernel
theorem dX9_says_60 : decode cX9_says 60 = .ok (.iload 5, 2) := by decide +kernel
theorem dX9_says_62 : decode cX9_says 62 = .ok (.invokestatic 38, 3) := by decide +kernel
theorem dX9_says_65 : decode cX9_says 65 = .ok (.iastore, 1) := by decide +kernel
theorem dX9_says_66 : decode cX9_says 66 = .ok (.iinc 6 1, 3) := by decide +kernel
theorem dX9_says_69 : decode cX9_says 69 = .ok (.goto 103, 3) := by decide +kernel
theorem dX9_says_72 : decode cX9_says 72 = .ok (.iload 8, 2) := by decide +kernel
theorem dX9_says_74 : decode cX9_says 74 = .ok (.bipush (-8), 2) := by decide +kernel
theorem dX9_says_76 : decode cX9_says 76 = .ok (.if_icmp .lt 57, 3) := by decide +kernel
theorem dX9_says_79 : decode cX9_says 79 = .ok (.iload 6, 2) := by decide +kernel
theorem dX9_says_81 : decode cX9_says 81 = .ok (.ifCond .le 52, 3) := by decide +kernel
theorem dX9_says_84 : decode cX9_says 84 = .ok (.aload_n 0, 1) := by decide +kernel
theorem dX9_says_85 : decode cX9_says 85 = .ok (.getfield 18, 3) := by decide +kernel
theorem dX9_says_88 : decode cX9_says 88 = .ok (.iload 6, 2) := by decide +kernel
theorem dX9_says_90 : decode cX9_says 90 = .ok (.iconst 1, 1) := by decide +kernel
theorem dX9_says_91 : decode cX9_says 91 = .ok (.isub, 1) := by decide +kernel
theorem dX9_says_92 : decode cX9_says 92 = .ok (.iload 8, 2) := by decide +kernel
theorem dX9_says_94 : decode cX9_says 94 = .ok (.bipush (-8), 2) := by decide +kernel
theorem dX9_says_96 : decode cX9_says 96 = .ok (.if_icmp .ne 16, 3) := by decide +kernel
theorem dX9_says_99 : decode cX9_says 99 = .ok (.aload_n 0, 1) := by decide +kernel
theorem dX9_says_100 : decode cX9_says 100 = .ok (.getfield 18, 3) := by decide +kernel
theorem dX9_says_103 : decode cX9_says 103 = .ok (.iload 6, 2) := by decide +kernel
theorem dX9_says_105 : decode cX9_says 105 = .ok (.iconst 1, 1) := by decide +kernel
theorem dX9_says_106 : decode cX9_says 106 = .ok (.isub, 1) := by decide +kernel
theorem dX9_says_107 : decode cX9_says 107 = .ok (.iaload, 1) := by decide +kernel
theorem dX9_says_108 : decode cX9_says 108 = .ok (.ineg, 1) := by decide +kernel
theorem dX9_says_109 : decode cX9_says 109 = .ok (.goto 20, 3) := by decide +kernel
theorem dX9_says_112 : decode cX9_says 112 = .ok (.aload_n 0, 1) := by decide +kernel
theorem dX9_says_113 : decode cX9_says 113 = .ok (.getfield 18, 3) := by decide +kernel
theorem dX9_says_116 : decode cX9_says 116 = .ok (.iload 6, 2) := by decide +kernel
theorem dX9_says_118 : decode cX9_says 118 = .ok (.iconst 1, 1) := by decide +kernel
theorem dX9_says_119 : decode cX9_says 119 = .ok (.isub, 1) := by decide +kernel
theorem dX9_says_120 : decode cX9_says 120 = .ok (.iaload, 1) := by decide +kernel
theorem dX9_says_121 : decode cX9_says 121 = .ok (.ifCond .ne 7, 3) := by decide +kernel
theorem dX9_says_124 : decode cX9_says 124 = .ok (.iconst 1, 1) := by decide +kernel
theorem dX9_says_125 : decode cX9_says 125 = .ok (.goto 4, 3) := by decide +kernel
theorem dX9_says_128 : decode cX9_says 128 = .ok (.iconst 0, 1) := by decide +kernel
theorem dX9_says_129 : decode cX9_says 129 = .ok (.iastore, 1) := by decide +kernel
theorem dX9_says_130 : decode cX9_says 130 = .ok (.goto 42, 3) := by decide +kernel
theorem dX9_says_133 : decode cX9_says 133 = .ok (.iload 6, 2) := by decide +kernel
theorem dX9_says_135 : decode cX9_says 135 = .ok (.iconst 1, 1) := by decide +kernel
theorem dX9_says_136 : decode cX9_says 136 = .ok (.if_icmp .le 36, 3) := by decide +kernel
theorem dX9_says_139 : decode cX9_says 139 = .ok (.iinc 6 (-1), 3) := by decide +kernel
theorem dX9_says_142 : decode cX9_says 142 = .ok (.aload_n 0, 1) := by decide +kernel
theorem dX9_says_143 : decode cX9_says 143 = .ok (.getfield 18, 3) := by decide +kernel
theorem dX9_says_146 : decode cX9_says 146 = .ok (.iload 6, 2) := by decide +kernel
theorem dX9_says_148 : decode cX9_says 148 = .ok (.iconst 1, 1) := by decide +kernel
theorem dX9_says_149 : decode cX9_says 149 = .ok (.isub, 1) := by decide +kernel
theorem dX9_says_150 : decode cX9_says 150 = .ok (.iload 8, 2) := by decide +kernel
theorem dX9_says_152 : decode cX9_says 152 = .ok (.aload_n 0, 1) := by decide +kernel
theorem dX9_says_153 : decode cX9_says 153 = .ok (.getfield 18, 3) := by decide +kernel
theorem dX9_says_156 : decode cX9_says 156 = .ok (.iload 6, 2) := by decide +kernel
theorem dX9_says_158 : decode cX9_says 158 = .ok (.iconst 1, 1) := by decide +kernel
theorem dX9_says_159 : decode cX9_says 159 = .ok (.isub, 1) := by decide +kernel
theorem dX9_says_160 : decode cX9_says 160 = .ok (.iaload, 1) := by decide +kernel
theorem dX9_says_161 : decode cX9_says 161 = .ok (.aload_n 0, 1) := by decide +kernel
theorem dX9_says_162 : decode cX9_says 162 = .ok (.getfield 18, 3) := by decide +kernel
theorem dX9_says_165 : decode cX9_says 165 = .ok (.iload 6, 2) := by decide +kernel
theorem dX9_says_167 : decode cX9_says 167 = .ok (.iaload, 1) := by decide +kernel
theorem dX9_says_168 : decode cX9_says 168 = .ok (.invokestatic 42, 3) := by decide +kernel
theorem dX9_says_171 : decode cX9_says 171 = .ok (.iastore, 1) := by decide +kernel
theorem dX9_says_172 : decode cX9_says 172 = .ok (.iinc 7 1, 3) := by decide +kernel
theorem dX9_says_175 : decode cX9_says 175 = .ok (.goto (-164), 3) := by decide +kernel
theorem dX9_says_178 : decode cX9_says 178 = .ok (.iload_n 1, 1) := by decide +kernel
theorem dX9_says_179 : decode cX9_says 179 = .ok (.ifCond .ne 7, 3) := by decide +kernel
theorem dX9_says_182 : decode cX9_says 182 = .ok (.iconst 4, 1) := by decide +kernel
theorem dX9_says_183 : decode cX9_says 183 = .ok (.goto 15, 3) := by decide +kernel
theorem dX9_says_186 : decode cX9_says 186 = .ok (.iload_n 1, 1) := by decide +kernel
theorem dX9_says_187 : decode cX9_says 187 = .ok (.iconst 1, 1) := by decide +kernel
theorem dX9_says_188 : decode cX9_says 188 = .ok (.if_icmp .ne 8, 3) := by decide +kernel
theorem dX9_says_191 : decode cX9_says 191 = .ok (.bipush 99, 2) := by decide +kernel
theorem dX9_says_193 : decode cX9_says 193 = .ok (.goto 5, 3) := by decide +kernel
theorem dX9_says_196 : decode cX9_says 196 = .ok (.bipush 9, 2) := by decide +kernel
theorem dX9_says_198 : decode cX9_says 198 = .ok (.istore 7, 2) := by decide +kernel
theorem dX9_says_200 : decode cX9_says 200 = .ok (.iconst 0, 1) := by decide +kernel
theorem dX9_says_201 : decode cX9_says 201 = .ok (.iload 7, 2) := by decide +kernel
theorem dX9_says_203 : decode cX9_says 203 = .ok (.aload_n 0, 1) := by decide +kernel
theorem dX9_says_204 : decode cX9_says 204 = .ok (.getfield 18, 3) := by decide +kernel
theorem dX9_says_207 : decode cX9_says 207 = .ok (.iconst 0, 1) := by decide +kernel
theorem dX9_says_208 : decode cX9_says 208 = .ok (.iaload, 1) := by decide +kernel
theorem dX9_says_209 : decode cX9_says 209 = .ok (.invokestatic 46, 3) := by decide +kernel
theorem dX9_says_212 : decode cX9_says 212 = .ok (.invokestatic 52, 3) := by decide +kernel
theorem dX9_says_215 : decode cX9_says 215 = .ok (.ireturn, 1) := by decide +kernel
set_option maxRecDepth 100000 in
set_option maxHeartbeats 4000000 in
theorem kX9_says (l : Launch) (w : wT) (hw : yOk w 55) (σ : Hp) (o : Nat) (a1 : Int32) (a2 : Int32) (a3 : Int32) (a4 : Int32) (a5 : Int32) (K : Int32 → Hp → Prop) (hv : VX9_says K σ o a1 a2 a3 a4 a5) : yMet l w xcf 55 yX9_says cX9_says 9 (some .int) 2 [.ref (w.1 o), .int a1, .int a2, .int a3, .int a4, .int a5] σ (yQi w xcf 55 K) := by
  unfold VX9_says at hv
  refine y_start (lv0 := [(0, .ref (w.1 o)), (1, .int a1), (2, .int a2), (3, .int a3), (4, .int a4), (5, .int a5)]) (by decide +kernel) (own := RX9) rfl hw (Nat.le_of_ble_eq_true rfl) rfl (fun p e s m below meth c A E => ?_)
  obtain ⟨hgo, hv⟩ := hv
  have hb198 : ∀ (σ : Hp) (s0 : Int32), VX9_says_b198 K o σ s0 → YY p l e (yRm 2) s m [.ref (w.1 o), .int a1, .int a2, .int a3, .int a4, .int a5].toArray below meth c w xcf 55 A (MQ below (yQi w xcf 55 K A) [.ref (w.1 o), .int a1, .int a2, .int a3, .int a4, .int a5].toArray s 0 0 A) 9 σ 198 [(0, .ref (w.1 o))] [.int s0] := by
    intro σ s0 hv
    unfold VX9_says_b198 at hv
    refine y_istore (lv' := [(7, .int s0), (0, .ref (w.1 o))]) E dX9_says_198 (by decide) rfl ?_
    refine y_iconst (v := 0) E dX9_says_200 (by decide) ?_
    refine y_iload E dX9_says_201 0 rfl ?_
    refine y_aload_n E dX9_says_203 1 rfl ?_
    refine gf_X9_2 E hgo.1 hgo.2 wm_252 dX9_says_204 ?_
    refine y_iconst (v := 0) E dX9_says_207 (by decide) ?_
    refine y_ialdc (j := 0) E (Nat.lt_of_lt_of_le (show 37 < 38 by decide) (by decide)) (xc_stack (by decide) (by decide)) (by decide) (by decide) dX9_says_208 ?_
    refine y_mmin E wm_256 wm_257 wm_243 wm_258 (by decide) (Nat.le_of_ble_eq_true rfl) dX9_says_209 ?_
    refine y_mmax E wm_259 wm_260 wm_243 wm_261 (by decide) (Nat.le_of_ble_eq_true rfl) dX9_says_212 ?_
    exact y_iret E dX9_says_215 hv
  have hL11 : ∀ (n11 : Nat) (σ : Hp) (l1 : Int32) (l2 : Int32) (l3 : Int32) (l4 : Int32) (l5 : Int32) (l6 : Int32) (l7 : Int32), VX9_says_L11 K o n11 σ l1 l2 l3 l4 l5 l6 l7 → YY p l e (yRm 2) s m [.ref (w.1 o), .int a1, .int a2, .int a3, .int a4, .int a5].toArray below meth c w xcf 55 A (MQ below (yQi w xcf 55 K A) [.ref (w.1 o), .int a1, .int a2, .int a3, .int a4, .int a5].toArray s 0 0 A) 9 σ 11 [(0, .ref (w.1 o)), (1, .int l1), (2, .int l2), (3, .int l3), (4, .int l4), (5, .int l5), (6, .int l6), (7, .int l7)] [] := by
    intro n11
    induction n11 with
    | zero => exact fun _ _ _ _ _ _ _ _ hv => (by unfold VX9_says_L11 at hv; exact hv.elim)
    | succ n11 ih11 =>
      have hb133 : ∀ (σ : Hp) (l1 : Int32) (l2 : Int32) (l3 : Int32) (l4 : Int32) (l5 : Int32) (l6 : Int32) (l7 : Int32) (l8 : Int32), VX9_says_b133 K (VX9_says_L11 K o n11) o σ l1 l2 l3 l4 l5 l6 l7 l8 → YY p l e (yRm 2) s m [.ref (w.1 o), .int a1, .int a2, .int a3, .int a4, .int a5].toArray below meth c w xcf 55 A (MQ below (yQi w xcf 55 K A) [.ref (w.1 o), .int a1, .int a2, .int a3, .int a4, .int a5].toArray s 0 0 A) 9 σ 133 [(0, .ref (w.1 o)), (1, .int l1), (2, .int l2), (3, .int l3), (4, .int l4), (5, .int l5), (6, .int l6), (7, .int l7), (8, .int l8)] [] := by
        intro σ l1 l2 l3 l4 l5 l6 l7 l8 hv
        unfold VX9_says_b133 at hv
        refine y_iload E dX9_says_133 6 rfl ?_
        refine y_iconst (v := 1) E dX9_says_135 (by decide) ?_
        refine y_icmp_le (tgt := 172) E dX9_says_136 (by decide) (fun c26 => ?_) (fun c26 => ?_)
        · replace hv := ite_t hv c26
          obtain ⟨x27, hx27⟩ : ∃ z : Int32, z = l7 + 1 := ⟨_, rfl⟩
          replace hv := hv x27 hx27
          refine y_iinc (v := x27) (lv' := [(7, .int x27), (0, .ref (w.1 o)), (1, .int l1), (2, .int l2), (3, .int l3), (4, .int l4), (5, .int l5), (6, .int l6), (8, .int l8)]) E dX9_says_172 7 rfl (by rw [hx27]; rfl) (by decide) rfl ?_
          refine y_goto (tgt := 11) E dX9_says_175 (by decide) ?_
          refine y_lv (lv' := [(0, .ref (w.1 o)), (1, .int l1), (2, .int l2), (3, .int l3), (4, .int l4), (5, .int l5), (6, .int l6), (7, .int x27)]) [1, 2, 3, 4, 5, 6, 7, 0] rfl ?_
          exact ih11 σ l1 l2 l3 l4 l5 l6 x27 hv
        · replace hv := ite_f hv c26
          obtain ⟨x28, hx28⟩ : ∃ z : Int32, z = l6 + (-1) := ⟨_, rfl⟩
          replace hv := hv x28 hx28
          refine y_iinc (v := x28) (lv' := [(6, .int x28), (0, .ref (w.1 o)), (1, .int l1), (2, .int l2), (3, .int l3), (4, .int l4), (5, .int l5), (7, .int l7), (8, .int l8)]) E dX9_says_139 6 rfl (by rw [hx28]; rfl) (by decide) rfl ?_
          refine y_aload_n E dX9_says_142 1 rfl ?_
          refine gf_X9_2 E hgo.1 hgo.2 wm_252 dX9_says_143 ?_
          refine y_iload E dX9_says_146 0 rfl ?_
          refine y_iconst (v := 1) E dX9_says_148 (by decide) ?_
          refine y_isub E dX9_says_149 ?_
          refine y_iload E dX9_says_150 8 rfl ?_
          refine y_aload_n E dX9_says_152 1 rfl ?_
          refine gf_X9_2 E hgo.1 hgo.2 wm_252 dX9_says_153 ?_
          refine y_iload E dX9_says_156 0 rfl ?_
          refine y_iconst (v := 1) E dX9_says_158 (by decide) ?_
          refine y_isub E dX9_says_159 ?_
          obtain ⟨hi, hv⟩ := hv
          refine y_iald E (Nat.lt_of_lt_of_le (show 37 < 38 by decide) (by decide)) (xc_stack (by decide) (by decide)) hi dX9_says_160 ?_
          refine y_aload_n E dX9_says_161 1 rfl ?_
          refine gf_X9_2 E hgo.1 hgo.2 wm_252 dX9_says_162 ?_
          refine y_iload E dX9_says_165 0 rfl ?_
          obtain ⟨hi, hv⟩ := hv
          refine y_iald E (Nat.lt_of_lt_of_le (show 37 < 38 by decide) (by decide)) (xc_stack (by decide) (by decide)) hi dX9_says_167 ?_
          refine y_calli E (y_runS E (rest := [.int (x28 - 1), .ref (w.1 37)]) (kX9_joined l w E.2.2.1 σ l8 (σ 37 (x28 - 1).toNatClampNeg) (σ 37 x28.toNatClampNeg) _ hv) (y_cwS 3 E.1.2.2.2.2 wm_262 wm_263 wm_113 wm_264 (by decide +kernel) (yRm_le (by decide) (by decide))) rfl rfl (Nat.le_of_ble_eq_true rfl) dX9_says_168) (fun v29 u30 hk => ?_)
          clear hv
          have hv := hk
          clear hk
          obtain ⟨hi, hv⟩ := hv
          refine y_iast E (Nat.lt_of_lt_of_le (show 37 < 38 by decide) (by decide)) (fun _ => xc_stack (by decide) (by decide)) hi dX9_says_171 ?_
          refine y_nmH (fun u31 hu31 => ?_)
          replace hv := hv u31 hu31
          obtain ⟨x32, hx32⟩ : ∃ z : Int32, z = l7 + 1 := ⟨_, rfl⟩
          replace hv := hv x32 hx32
          refine y_iinc (v := x32) (lv' := [(7, .int x32), (6, .int x28), (0, .ref (w.1 o)), (1, .int l1), (2, .int l2), (3, .int l3), (4, .int l4), (5, .int l5), (8, .int l8)]) E dX9_says_172 7 rfl (by rw [hx32]; rfl) (by decide) rfl ?_
          refine y_goto (tgt := 11) E dX9_says_175 (by decide) ?_
          refine y_lv (lv' := [(0, .ref (w.1 o)), (1, .int l1), (2, .int l2), (3, .int l3), (4, .int l4), (5, .int l5), (6, .int x28), (7, .int x32)]) [2, 3, 4, 5, 6, 7, 1, 0] rfl ?_
          exact ih11 u31 l1 l2 l3 l4 l5 x28 x32 hv
      have hb72 : ∀ (σ : Hp) (l1 : Int32) (l2 : Int32) (l3 : Int32) (l4 : Int32) (l5 : Int32) (l6 : Int32) (l7 : Int32) (l8 : Int32), VX9_says_b72 K (VX9_says_L11 K o n11) o σ l1 l2 l3 l4 l5 l6 l7 l8 → YY p l e (yRm 2) s m [.ref (w.1 o), .int a1, .int a2, .int a3, .int a4, .int a5].toArray below meth c w xcf 55 A (MQ below (yQi w xcf 55 K A) [.ref (w.1 o), .int a1, .int a2, .int a3, .int a4, .int a5].toArray s 0 0 A) 9 σ 72 [(0, .ref (w.1 o)), (1, .int l1), (2, .int l2), (3, .int l3), (4, .int l4), (5, .int l5), (6, .int l6), (7, .int l7), (8, .int l8)] [] := by
        intro σ l1 l2 l3 l4 l5 l6 l7 l8 hv
        unfold VX9_says_b72 at hv
        refine y_iload E dX9_says_72 8 rfl ?_
        refine y_bipush (v := (-8)) E dX9_says_74 (by decide) ?_
        refine y_icmp_lt (tgt := 133) E dX9_says_76 (by decide) (fun c16 => ?_) (fun c16 => ?_)
        · replace hv := ite_t hv c16
          exact hb133 σ l1 l2 l3 l4 l5 l6 l7 l8 hv
        · replace hv := ite_f hv c16
          refine y_iload E dX9_says_79 6 rfl ?_
          refine y_if_le (tgt := 133) E dX9_says_81 (by decide) (fun c17 => ?_) (fun c17 => ?_)
          · replace hv := ite_t hv c17
            exact hb133 σ l1 l2 l3 l4 l5 l6 l7 l8 hv
          · replace hv := ite_f hv c17
            refine y_aload_n E dX9_says_84 0 rfl ?_
            refine gf_X9_2 E hgo.1 hgo.2 wm_252 dX9_says_85 ?_
            refine y_iload E dX9_says_88 6 rfl ?_
            refine y_iconst (v := 1) E dX9_says_90 (by decide) ?_
            refine y_isub E dX9_says_91 ?_
            refine y_iload E dX9_says_92 8 rfl ?_
            refine y_bipush (v := (-8)) E dX9_says_94 (by decide) ?_
            refine y_icmp_ne (tgt := 112) E dX9_says_96 (by decide) (fun c18 => ?_) (fun c18 => ?_)
            · replace hv := ite_f hv c18
              refine y_aload_n E dX9_says_112 0 rfl ?_
              refine gf_X9_2 E hgo.1 hgo.2 wm_252 dX9_says_113 ?_
              refine y_iload E dX9_says_116 6 rfl ?_
              refine y_iconst (v := 1) E dX9_says_118 (by decide) ?_
              refine y_isub E dX9_says_119 ?_
              obtain ⟨hi, hv⟩ := hv
              refine y_iald E (Nat.lt_of_lt_of_le (show 37 < 38 by decide) (by decide)) (xc_stack (by decide) (by decide)) hi dX9_says_120 ?_
              refine y_if_ne (tgt := 128) E dX9_says_121 (by decide) (fun c19 => ?_) (fun c19 => ?_)
              · replace hv := ite_f hv c19
                refine y_iconst (v := 0) E dX9_says_128 (by decide) ?_
                obtain ⟨hi, hv⟩ := hv
                refine y_iast E (Nat.lt_of_lt_of_le (show 37 < 38 by decide) (by decide)) (fun _ => xc_stack (by decide) (by decide)) hi dX9_says_129 ?_
                refine y_nmH (fun u20 hu20 => ?_)
                replace hv := hv u20 hu20
                refine y_goto (tgt := 172) E dX9_says_130 (by decide) ?_
                obtain ⟨x21, hx21⟩ : ∃ z : Int32, z = l7 + 1 := ⟨_, rfl⟩
                replace hv := hv x21 hx21
                refine y_iinc (v := x21) (lv' := [(7, .int x21), (0, .ref (w.1 o)), (1, .int l1), (2, .int l2), (3, .int l3), (4, .int l4), (5, .int l5), (6, .int l6), (8, .int l8)]) E dX9_says_172 7 rfl (by rw [hx21]; rfl) (by decide) rfl ?_
                refine y_goto (tgt := 11) E dX9_says_175 (by decide) ?_
                refine y_lv (lv' := [(0, .ref (w.1 o)), (1, .int l1), (2, .int l2), (3, .int l3), (4, .int l4), (5, .int l5), (6, .int l6), (7, .int x21)]) [1, 2, 3, 4, 5, 6, 7, 0] rfl ?_
                exact ih11 u20 l1 l2 l3 l4 l5 l6 x21 hv
              · replace hv := ite_t hv c19
                refine y_iconst (v := 1) E dX9_says_124 (by decide) ?_
                refine y_goto (tgt := 129) E dX9_says_125 (by decide) ?_
                obtain ⟨hi, hv⟩ := hv
                refine y_iast E (Nat.lt_of_lt_of_le (show 37 < 38 by decide) (by decide)) (fun _ => xc_stack (by decide) (by decide)) hi dX9_says_129 ?_
                refine y_nmH (fun u22 hu22 => ?_)
                replace hv := hv u22 hu22
                refine y_goto (tgt := 172) E dX9_says_130 (by decide) ?_
                obtain ⟨x23, hx23⟩ : ∃ z : Int32, z = l7 + 1 := ⟨_, rfl⟩
                replace hv := hv x23 hx23
                refine y_iinc (v := x23) (lv' := [(7, .int x23), (0, .ref (w.1 o)), (1, .int l1), (2, .int l2), (3, .int l3), (4, .int l4), (5, .int l5), (6, .int l6), (8, .int l8)]) E dX9_says_172 7 rfl (by rw [hx23]; rfl) (by decide) rfl ?_
                refine y_goto (tgt := 11) E dX9_says_175 (by decide) ?_
                refine y_lv (lv' := [(0, .ref (w.1 o)), (1, .int l1), (2, .int l2), (3, .int l3), (4, .int l4), (5, .int l5), (6, .int l6), (7, .int x23)]) [1, 2, 3, 4, 5, 6, 7, 0] rfl ?_
                exact ih11 u22 l1 l2 l3 l4 l5 l6 x23 hv
            · replace hv := ite_t hv c18
              refine y_aload_n E dX9_says_99 0 rfl ?_
              refine gf_X9_2 E hgo.1 hgo.2 wm_252 dX9_says_100 ?_
              refine y_iload E dX9_says_103 6 rfl ?_
              refine y_iconst (v := 1) E dX9_says_105 (by decide) ?_
              refine y_isub E dX9_says_106 ?_
              obtain ⟨hi, hv⟩ := hv
              refine y_iald E (Nat.lt_of_lt_of_le (show 37 < 38 by decide) (by decide)) (xc_stack (by decide) (by decide)) hi dX9_says_107 ?_
              refine y_ineg E dX9_says_108 ?_
              refine y_goto (tgt := 129) E dX9_says_109 (by decide) ?_
              obtain ⟨hi, hv⟩ := hv
              refine y_iast E (Nat.lt_of_lt_of_le (show 37 < 38 by decide) (by decide)) (fun _ => xc_stack (by decide) (by decide)) hi dX9_says_129 ?_
              refine y_nmH (fun u24 hu24 => ?_)
              replace hv := hv u24 hu24
              refine y_goto (tgt := 172) E dX9_says_130 (by decide) ?_
              obtain ⟨x25, hx25⟩ : ∃ z : Int32, z = l7 + 1 := ⟨_, rfl⟩
              replace hv := hv x25 hx25
              refine y_iinc (v := x25) (lv' := [(7, .int x25), (0, .ref (w.1 o)), (1, .int l1), (2, .int l2), (3, .int l3), (4, .int l4), (5, .int l5), (6, .int l6), (8, .int l8)]) E dX9_says_172 7 rfl (by rw [hx25]; rfl) (by decide) rfl ?_
              refine y_goto (tgt := 11) E dX9_says_175 (by decide) ?_
              refine y_lv (lv' := [(0, .ref (w.1 o)), (1, .int l1), (2, .int l2), (3, .int l3), (4, .int l4), (5, .int l5), (6, .int l6), (7, .int x25)]) [1, 2, 3, 4, 5, 6, 7, 0] rfl ?_
              exact ih11 u24 l1 l2 l3 l4 l5 l6 x25 hv
      intro σ l1 l2 l3 l4 l5 l6 l7 hv
      unfold VX9_says_L11 at hv
      refine y_iload E dX9_says_11 7 rfl ?_
      refine y_aload_n E dX9_says_13 0 rfl ?_
      obtain ⟨x3, hx3⟩ : ∃ z : Nat, z = 31 + 1 * (o - 19) := ⟨_, rfl⟩
      replace hv := hv x3 hx3
      have hgx3 : 31 ≤ x3 ∧ x3 < 37 := by omega
      refine gf_X9_1 (q := x3) E hgo.1 hgo.2 hx3.symm wm_248 dX9_says_14 ?_
      refine y_iload_n E dX9_says_17 1 rfl ?_
      refine y_iconst (v := 1) E dX9_says_18 (by decide) ?_
      refine y_iadd E dX9_says_19 ?_
      obtain ⟨hi, hv⟩ := hv
      refine y_iald E (Nat.lt_of_lt_of_le hgx3.2 (by decide)) (xc_starts hgx3.1 hgx3.2) hi dX9_says_20 ?_
      refine y_icmp_ge (tgt := 178) E dX9_says_21 (by decide) (fun c4 => ?_) (fun c4 => ?_)
      · replace hv := ite_t hv c4
        refine y_iload_n E dX9_says_178 1 rfl ?_
        refine y_if_ne (tgt := 186) E dX9_says_179 (by decide) (fun c5 => ?_) (fun c5 => ?_)
        · replace hv := ite_f hv c5
          refine y_iload_n E dX9_says_186 1 rfl ?_
          refine y_iconst (v := 1) E dX9_says_187 (by decide) ?_
          refine y_icmp_ne (tgt := 196) E dX9_says_188 (by decide) (fun c6 => ?_) (fun c6 => ?_)
          · replace hv := ite_f hv c6
            refine y_bipush (v := 9) E dX9_says_196 (by decide) ?_
            refine y_lv (lv' := [(0, .ref (w.1 o))]) [0] rfl ?_
            exact hb198 σ 9 hv
          · replace hv := ite_t hv c6
            refine y_bipush (v := 99) E dX9_says_191 (by decide) ?_
            refine y_goto (tgt := 198) E dX9_says_193 (by decide) ?_
            refine y_lv (lv' := [(0, .ref (w.1 o))]) [0] rfl ?_
            exact hb198 σ 99 hv
        · replace hv := ite_t hv c5
          refine y_iconst (v := 4) E dX9_says_182 (by decide) ?_
          refine y_goto (tgt := 198) E dX9_says_183 (by decide) ?_
          refine y_lv (lv' := [(0, .ref (w.1 o))]) [0] rfl ?_
          exact hb198 σ 4 hv
      · replace hv := ite_f hv c4
        refine y_aload_n E dX9_says_24 0 rfl ?_
        obtain ⟨x7, hx7⟩ : ∃ z : Nat, z = 25 + 1 * (o - 19) := ⟨_, rfl⟩
        replace hv := hv x7 hx7
        have hgx7 : 25 ≤ x7 ∧ x7 < 31 := by omega
        refine gf_X9_0 (q := x7) E hgo.1 hgo.2 hx7.symm wm_247 dX9_says_25 ?_
        refine y_iload E dX9_says_28 7 rfl ?_
        obtain ⟨hi, hv⟩ := hv
        refine y_iald E (Nat.lt_of_lt_of_le hgx7.2 (by decide)) (xc_codes hgx7.1 hgx7.2) hi dX9_says_30 ?_
        refine y_nmi (fun x8 hx8 => ?_)
        replace hv := hv x8 hx8
        refine y_istore (lv' := [(8, .int x8), (0, .ref (w.1 o)), (1, .int l1), (2, .int l2), (3, .int l3), (4, .int l4), (5, .int l5), (6, .int l6), (7, .int l7)]) E dX9_says_31 (by decide) rfl ?_
        refine y_iload E dX9_says_33 0 rfl ?_
        refine y_bipush (v := (-6)) E dX9_says_35 (by decide) ?_
        refine y_icmp_lt (tgt := 72) E dX9_says_37 (by decide) (fun c9 => ?_) (fun c9 => ?_)
        · replace hv := ite_t hv c9
          refine y_lv (lv' := [(0, .ref (w.1 o)), (1, .int l1), (2, .int l2), (3, .int l3), (4, .int l4), (5, .int l5), (6, .int l6), (7, .int l7), (8, .int x8)]) [1, 2, 3, 4, 5, 6, 7, 8, 0] rfl ?_
          exact hb72 σ l1 l2 l3 l4 l5 l6 l7 x8 hv
        · replace hv := ite_f hv c9
          refine y_iload E dX9_says_40 7 rfl ?_
          refine y_sipush (v := 160) E dX9_says_42 (by decide) ?_
          refine y_icmp_ge (tgt := 72) E dX9_says_45 (by decide) (fun c10 => ?_) (fun c10 => ?_)
          · replace hv := ite_t hv c10
            refine y_lv (lv' := [(0, .ref (w.1 o)), (1, .int l1), (2, .int l2), (3, .int l3), (4, .int l4), (5, .int l5), (6, .int l6), (7, .int l7), (8, .int x8)]) [1, 2, 3, 4, 5, 6, 7, 8, 0] rfl ?_
            exact hb72 σ l1 l2 l3 l4 l5 l6 l7 x8 hv
          · replace hv := ite_f hv c10
            refine y_aload_n E dX9_says_48 1 rfl ?_
            refine gf_X9_2 E hgo.1 hgo.2 wm_252 dX9_says_49 ?_
            refine y_iload E dX9_says_52 7 rfl ?_
            refine y_iload E dX9_says_54 0 rfl ?_
            refine y_iload_n E dX9_says_56 3 rfl ?_
            refine y_iload_n E dX9_says_57 4 rfl ?_
            refine y_iload E dX9_says_58 5 rfl ?_
            refine y_iload E dX9_says_60 6 rfl ?_
            refine y_calli E (y_runS E (rest := [.int l6, .ref (w.1 37)]) (kX9_leaf l w E.2.2.1 σ x8 l2 l3 l4 l5 _ hv) (y_cwS 5 E.1.2.2.2.2 wm_253 wm_254 wm_113 wm_255 (by decide +kernel) (yRm_le (by decide) (by decide))) rfl rfl (Nat.le_of_ble_eq_true rfl) dX9_says_62) (fun v11 u12 hk => ?_)
            clear hv
            have hv := hk
            clear hk
            obtain ⟨hi, hv⟩ := hv
            refine y_iast E (Nat.lt_of_lt_of_le (show 37 < 38 by decide) (by decide)) (fun _ => xc_stack (by decide) (by decide)) hi dX9_says_65 ?_
            refine y_nmH (fun u13 hu13 => ?_)
            replace hv := hv u13 hu13
            obtain ⟨x14, hx14⟩ : ∃ z : Int32, z = l6 + 1 := ⟨_, rfl⟩
            replace hv := hv x14 hx14
            refine y_iinc (v := x14) (lv' := [(6, .int x14), (8, .int x8), (0, .ref (w.1 o)), (1, .int l1), (2, .int l2), (3, .int l3), (4, .int l4), (5, .int l5), (7, .int l7)]) E dX9_says_66 7 rfl (by rw [hx14]; rfl) (by decide) rfl ?_
            refine y_goto (tgt := 172) E dX9_says_69 (by decide) ?_
            obtain ⟨x15, hx15⟩ : ∃ z : Int32, z = l7 + 1 := ⟨_, rfl⟩
            replace hv := hv x15 hx15
            refine y_iinc (v := x15) (lv' := [(7, .int x15), (6, .int x14), (8, .int x8), (0, .ref (w.1 o)), (1, .int l1), (2, .int l2), (3, .int l3), (4, .int l4), (5, .int l5)]) E dX9_says_172 8 rfl (by rw [hx15]; rfl) (by decide) rfl ?_
            refine y_goto (tgt := 11) E dX9_says_175 (by decide) ?_
            refine y_lv (lv' := [(0, .ref (w.1 o)), (1, .int l1), (2, .int l2), (3, .int l3), (4, .int l4), (5, .int l5), (6, .int x14), (7, .int x15)]) [3, 4, 5, 6, 7, 8, 1, 0] rfl ?_
            exact ih11 u13 l1 l2 l3 l4 l5 x14 x15 hv
  refine y_iconst (v := 0) E dX9_says_0 (by decide) ?_
  refine y_istore (lv' := [(6, .int 0), (0, .ref (w.1 o)), (1, .int a1), (2, .int a2), (3, .int a3), (4, .int a4), (5, .int a5)]) E dX9_says_1 (by decide) rfl ?_
  refine y_aload_n E dX9_says_3 1 rfl ?_
  obtain ⟨x1, hx1⟩ : ∃ z : Nat, z = 31 + 1 * (o - 19) := ⟨_, rfl⟩
  replace hv := hv x1 hx1
  have hgx1 : 31 ≤ x1 ∧ x1 < 37 := by omega
  refine gf_X9_1 (q := x1) E hgo.1 hgo.2 hx1.symm wm_248 dX9_says_4 ?_
  refine y_iload_n E dX9_says_7 2 rfl ?_
  obtain ⟨hi, hv⟩ := hv
  refine y_iald E (Nat.lt_of_lt_of_le hgx1.2 (by decide)) (xc_starts hgx1.1 hgx1.2) hi dX9_says_8 ?_
  refine y_nmi (fun x2 hx2 => ?_)
  replace hv := hv x2 hx2
  refine y_istore (lv' := [(7, .int x2), (6, .int 0), (0, .ref (w.1 o)), (1, .int a1), (2, .int a2), (3, .int a3), (4, .int a4), (5, .int a5)]) E dX9_says_9 (by decide) rfl ?_
  refine y_lv (lv' := [(0, .ref (w.1 o)), (1, .int a1), (2, .int a2), (3, .int a3), (4, .int a4), (5, .int a5), (6, .int 0), (7, .int x2)]) [2, 3, 4, 5, 6, 7, 1, 0] rfl ?_
  obtain ⟨n0, hv⟩ := hv
  exact hL11 n0 σ a1 a2 a3 a4 a5 0 x2 hv
theorem dX1_pass_0 : decode cX1_pass 0 = .ok (.aload_n 0, 1) := by decide +kernel
theorem dX1_pass_1 : decode cX1_pass 1 = .ok (.getfield 9, 3) := by decide +kernel
theorem dX1_pass_4 : decode cX1_pass 4 = .ok (.ifnull 17, 3) := by decide +kernel
theorem dX1_pass_7 : decode cX1_pass 7 = .ok (.aload_n 0, 1) := by decide +kernel
theorem dX1_pass_8 : decode cX1_pass 8 = .ok (.getfield 19, 3) := by decide +kernel
theorem dX1_pass_11 : decode cX1_pass 11 = .ok (.ifnull 10, 3) := by decide +kernel
theorem dX1_pass_14 : decode cX1_pass 14 = .ok (.aload_n 0, 1) := by decide +kernel
theorem dX1_pass_15 : decode cX1_pass 15 = .ok (.getfield 23, 3) := by decide +kernel
theorem dX1_pass_18 : decode cX1_pass 18 = .ok (.ifnonnull 4, 3) := by decide +kernel
theorem dX1_pass_22 : decode cX1_pass 22 = .ok (.aload_n 0, 1) := by decide +kernel
theorem dX1_pass_23 : decode cX1_pass 23 = .ok (.getfield 27, 3) := by decide +kernel
theorem dX1_pass_26 : decode cX1_pass 26 = .ok (.aload_n 0, 1) := by decide +kernel
theorem dX1_pass_27 : decode cX1_pass 27 = .ok (.getfield 31, 3) := by decide +kernel
theorem dX1_pass_30 : decode cX1_pass 30 = .ok (.invokestatic 34, 3) := by decide +kernel
theorem dX1_pass_33 : decode cX1_pass 33 = .ok (.ifCond .eq 9, 3) := by decide +kernel
theorem dX1_pass_36 : decode cX1_pass 36 = .ok (.aload_n 0, 1) := by decide +kernel
theorem dX1_pass_37 : decode cX1_pass 37 = .ok (.iconst 4, 1) := by decide +kernel
theorem dX1_pass_38 : decode cX1_pass 38 = .ok (.putfield 38, 3) := by decide +kernel
theorem dX1_pass_41 : decode cX1_pass 41 = .ok (.return_, 1) := by decide +kernel
theorem dX1_pass_42 : decode cX1_pass 42 = .ok (.aload_n 0, 1) := by decide +kernel
theorem dX1_pass_43 : decode cX1_pass 43 = .ok (.getfield 9, 3) := by decide +kernel
theorem dX1_pass_46 : decode cX1_pass 46 = .ok (.getfield 41, 3) := by decide +kernel
theorem dX1_pass_49 : decode cX1_pass 49 = .ok (.aload_n 0, 1) := by decide +kernel
theorem dX1_pass_50 : decode cX1_pass 50 = .ok (.getfield 31, 3) := by decide +kernel
theorem dX1_pass_53 : decode cX1_pass 53 = .ok (.invokestatic 34, 3) := by decide +kernel
theorem dX1_pass_56 : decode cX1_pass 56 = .ok (.ifCond .eq 39, 3) := by decide +kernel
theorem dX1_pass_59 : decode cX1_pass 59 = .ok (.aload_n 0, 1) := by decide +kernel
theorem dX1_pass_60 : decode cX1_pass 60 = .ok (.aload_n 0, 1) := by decide +kernel
theorem dX1_pass_61 : decode cX1_pass 61 = .ok (.getfield 23, 3) := by decide +kernel
theorem dX1_pass_64 : decode cX1_pass 64 = .ok (.aload_n 0, 1) := by decide +kernel
theorem dX1_pass_65 : decode cX1_pass 65 = .ok (.getfield 19, 3) := by decide +kernel
theorem dX1_pass_68 : decode cX1_pass 68 = .ok (.iconst 0, 1) := by decide +kernel
theorem dX1_pass_69 : decode cX1_pass 69 = .ok (.aload_n 0, 1) := by decide +kernel
theorem dX1_pass_70 : decode cX1_pass 70 = .ok (.getfield 31, 3) := by decide +kernel
theorem dX1_pass_73 : decode cX1_pass 73 = .ok (.iload_n 1, 1) := by decide +kernel
theorem dX1_pass_74 : decode cX1_pass 74 = .ok (.aload_n 0, 1) := by decide +kernel
theorem dX1_pass_75 : decode cX1_pass 75 = .ok (.getfield 46, 3) := by decide +kernel
theorem dX1_pass_78 : decode cX1_pass 78 = .ok (.aload_n 0, 1) := by decide +kernel
theorem dX1_pass_79 : decode cX1_pass 79 = .ok (.getfield 49, 3) := by decide +kernel
theorem dX1_pass_82 : decode cX1_pass 82 = .ok (.invokevirtual 52, 3) := by decide +kernel
theorem dX1_pass_85 : decode cX1_pass 85 = .ok (.aload_n 0, 1) := by decide +kernel
theorem dX1_pass_86 : decode cX1_pass 86 = .ok (.getfield 38, 3) := by decide +kernel
theorem dX1_pass_89 : decode cX1_pass 89 = .ok (.invokevirtual 58, 3) := by decide +kernel
theorem dX1_pass_92 : decode cX1_pass 92 = .ok (.putfield 38, 3) := by decide +kernel
theorem dX1_pass_95 : decode cX1_pass 95 = .ok (.aload_n 0, 1) := by decide +kernel
theorem dX1_pass_96 : decode cX1_pass 96 = .ok (.getfield 38, 3) := by decide +kernel
theorem dX1_pass_99 : decode cX1_pass 99 = .ok (.iconst 4, 1) := by decide +kernel
theorem dX1_pass_100 : decode cX1_pass 100 = .ok (.if_icmp .eq 18, 3) := by decide +kernel
theorem dX1_pass_103 : decode cX1_pass 103 = .ok (.aload_n 0, 1) := by decide +kernel
theorem dX1_pass_104 : decode cX1_pass 104 = .ok (.getfield 23, 3) := by decide +kernel
theorem dX1_pass_107 : decode cX1_pass 107 = .ok (.iload_n 1, 1) := by decide +kernel
theorem dX1_pass_108 : decode cX1_pass 108 = .ok (.aload_n 0, 1) := by decide +kernel
theorem dX1_pass_109 : decode cX1_pass 109 = .ok (.getfield 49, 3) := by decide +kernel
theorem dX1_pass_112 : decode cX1_pass 112 = .ok (.invokevirtual 64, 3) := by decide +kernel
theorem dX1_pass_115 : decode cX1_pass 115 = .ok (.ifCond .ne 4, 3) := by decide +kernel
theorem dX1_pass_118 : decode cX1_pass 118 = .ok (.return_, 1) := by decide +kernel
theorem dX1_pass_119 : decode cX1_pass 119 = .ok (.aload_n 0, 1) := by decide +kernel
theorem dX1_pass_120 : decode cX1_pass 120 = .ok (.getfield 9, 3) := by decide +kernel
theorem dX1_pass_123 : decode cX1_pass 123 = .ok (.aload_n 0, 1) := by decide +kernel
theorem dX1_pass_124 : decode cX1_pass 124 = .ok (.getfield 31, 3) := by decide +kernel
theorem dX1_pass_127 : decode cX1_pass 127 = .ok (.aload_n 0, 1) := by decide +kernel
theorem dX1_pass_128 : decode cX1_pass 128 = .ok (.getfield 38, 3) := by decide +kernel
theorem dX1_pass_131 : decode cX1_pass 131 = .ok (.invokevirtual 67, 3) := by decide +kernel
theorem dX1_pass_134 : decode cX1_pass 134 = .ok (.istore_n 2, 1) := by decide +kernel
theorem dX1_pass_135 : decode cX1_pass 135 = .ok (.iload_n 2, 1) := by decide +kernel
theorem dX1_pass_136 : decode cX1_pass 136 = .ok (.ifCond .ge 21, 3) := by decide +kernel
theorem dX1_pass_139 : decode cX1_pass 139 = .ok (.aload_n 0, 1) := by decide +kernel
theorem dX1_pass_140 : decode cX1_pass 140 = .ok (.aload_n 0, 1) := by decide +kernel
theorem dX1_pass_141 : decode cX1_pass 141 = .ok (.getfield 23, 3) := by decide +kernel
theorem dX1_pass_144 : decode cX1_pass 144 = .ok (.aload_n 0, 1) := by decide +kernel
theorem dX1_pass_145 : decode cX1_pass 145 = .ok (.getfield 38, 3) := by decide +kernel
theorem dX1_pass_148 : decode cX1_pass 148 = .ok (.invokevirtual 70, 3) := by decide +kernel
theorem dX1_pass_151 : decode cX1_pass 151 = .ok (.putfield 38, 3) := by decide +kernel
theorem dX1_pass_154 : decode cX1_pass 154 = .ok (.goto 8, 3) := by decide +kernel
theorem dX1_pass_157 : decode cX1_pass 157 = .ok (.aload_n 0, 1) := by decide +kernel
theorem dX1_pass_158 : decode cX1_pass 158 = .ok (.iload_n 2, 1) := by decide +kernel
theorem dX1_pass_159 : decode cX1_pass 159 = .ok (.putfield 31, 3) := by decide +kernel
theorem dX1_pass_162 : decode cX1_pass 162 = .ok (.return_, 1) := by decide +kernel
set_option maxRecDepth 100000 in
set_option maxHeartbeats 4000000 in
theorem kX1_pass (l : Launch) (w : wT) (hw : yOk w 55) (σ : Hp) (a1 : Int32) (K : Hp → Prop) (hv : VX1_pass K σ a1) : yMet l w xcf 55 yX1_pass cX1_pass 3 none 3 [.ref (w.1 49), .int a1] σ (yQv w xcf 55 K) := by
  unfold VX1_pass at hv
  refine y_start (lv0 := [(0, .ref (w.1 49)), (1, .int a1)]) (by decide +kernel) (own := RX1) rfl hw (Nat.le_of_ble_eq_true rfl) rfl (fun p e s m below meth c A E => ?_)
  have hb95 : ∀ (σ : Hp) (l1 : Int32), VX1_pass_b95 K σ l1 → YY p l e (yRm 3) s m [.ref (w.1 49), .int a1].toArray below meth c w xcf 55 A (MQ below (yQv w xcf 55 K A) [.ref (w.1 49), .int a1].toArray s 0 0 A) 3 σ 95 [(0, .ref (w.1 49)), (1, .int l1)] [] := by
    intro σ l1 hv
    unfold VX1_pass_b95 at hv
    refine y_aload_n E dX1_pass_95 0 rfl ?_
    refine gf_X1_7 E (by decide) (by decide) wm_109 dX1_pass_96 ?_
    refine y_iconst (v := 4) E dX1_pass_99 (by decide) ?_
    refine y_icmp_eq (tgt := 118) E dX1_pass_100 (by decide) (fun c17 => ?_) (fun c17 => ?_)
    · replace hv := ite_t hv c17
      exact y_vret E dX1_pass_118 hv
    · replace hv := ite_f hv c17
      refine y_aload_n E dX1_pass_103 0 rfl ?_
      obtain ⟨hnn, hv⟩ := hv
      refine gf_X1_2 E (by decide) (by decide) hnn wm_102 dX1_pass_104 ?_
      refine y_nmr (fun x18 hx18 => ?_)
      obtain ⟨hgx18, hv⟩ := hv x18 hx18
      refine y_iload_n E dX1_pass_107 1 rfl ?_
      refine y_aload_n E dX1_pass_108 0 rfl ?_
      refine gf_X1_5 E (by decide) (by decide) wm_107 dX1_pass_109 ?_
      refine y_calli E (rP_moves E (by decide) hv wm_118 (Nat.le_of_ble_eq_true rfl) dX1_pass_112) (fun v19 u20 hk => ?_)
      clear hv
      have hv := hk
      clear hk
      refine y_if_ne (tgt := 119) E dX1_pass_115 (by decide) (fun c21 => ?_) (fun c21 => ?_)
      · replace hv := ite_f hv c21
        refine y_aload_n E dX1_pass_119 0 rfl ?_
        refine gf_X1_0 E (by decide) (by decide) wm_100 dX1_pass_120 ?_
        refine y_aload_n E dX1_pass_123 0 rfl ?_
        refine gf_X1_6 E (by decide) (by decide) wm_104 dX1_pass_124 ?_
        refine y_aload_n E dX1_pass_127 0 rfl ?_
        refine gf_X1_7 E (by decide) (by decide) wm_109 dX1_pass_128 ?_
        refine y_calli E (y_runV E (rest := []) (kX3_beyond l w E.2.2.1 u20 1 (u20 49 6) (u20 49 7) _ hv) (y_cwV 2 E.1.2.2.2.2 wm_119 wm_121 wm_122 wm_123 wm_124 (by decide +kernel) (yRm_le (by decide) (by decide))) (Nat.lt_of_lt_of_le (show 1 < 3 by decide) (by decide)) (xc_X3 (by decide) (by decide)) rfl rfl rfl (Nat.le_of_ble_eq_true rfl) dX1_pass_131) (fun v22 u23 hk => ?_)
        clear hv
        have hv := hk
        clear hk
        refine y_istore_n (lv' := [(2, .int v22), (0, .ref (w.1 49)), (1, .int l1)]) E dX1_pass_134 (by decide) rfl ?_
        refine y_iload_n E dX1_pass_135 0 rfl ?_
        refine y_if_ge (tgt := 157) E dX1_pass_136 (by decide) (fun c24 => ?_) (fun c24 => ?_)
        · replace hv := ite_t hv c24
          refine y_aload_n E dX1_pass_157 1 rfl ?_
          refine y_iload_n E dX1_pass_158 0 rfl ?_
          refine pf_X1_6 E (by decide) (by decide) wm_104 dX1_pass_159 ?_
          refine y_nmH (fun u25 hu25 => ?_)
          replace hv := hv u25 hu25
          exact y_vret E dX1_pass_162 hv
        · replace hv := ite_f hv c24
          refine y_aload_n E dX1_pass_139 1 rfl ?_
          refine y_aload_n E dX1_pass_140 1 rfl ?_
          obtain ⟨hnn, hv⟩ := hv
          refine gf_X1_2 E (by decide) (by decide) hnn wm_102 dX1_pass_141 ?_
          refine y_nmr (fun x26 hx26 => ?_)
          obtain ⟨hgx26, hv⟩ := hv x26 hx26
          refine y_aload_n E dX1_pass_144 1 rfl ?_
          refine gf_X1_7 E (by decide) (by decide) wm_109 dX1_pass_145 ?_
          refine y_calli E (rP_touching E (by decide) hv wm_120 (Nat.le_of_ble_eq_true rfl) dX1_pass_148) (fun v27 u28 hk => ?_)
          clear hv
          have hv := hk
          clear hk
          refine pf_X1_7 E (by decide) (by decide) wm_109 dX1_pass_151 ?_
          refine y_nmH (fun u29 hu29 => ?_)
          replace hv := hv u29 hu29
          refine y_goto (tgt := 162) E dX1_pass_154 (by decide) ?_
          exact y_vret E dX1_pass_162 hv
      · replace hv := ite_t hv c21
        exact y_vret E dX1_pass_118 hv
  refine y_aload_n E dX1_pass_0 0 rfl ?_
  refine gf_X1_0 E (by decide) (by decide) wm_100 dX1_pass_1 ?_
  refine y_ifnull E dX1_pass_4 ?_
  refine y_aload_n E dX1_pass_7 0 rfl ?_
  obtain ⟨hnn, hv⟩ := hv
  refine gf_X1_1 E (by decide) (by decide) hnn wm_101 dX1_pass_8 ?_
  refine y_nmr (fun x1 hx1 => ?_)
  obtain ⟨hgx1, hv⟩ := hv x1 hx1
  refine y_ifnull E dX1_pass_11 ?_
  refine y_aload_n E dX1_pass_14 0 rfl ?_
  obtain ⟨hnn, hv⟩ := hv
  refine gf_X1_2 E (by decide) (by decide) hnn wm_102 dX1_pass_15 ?_
  refine y_nmr (fun x2 hx2 => ?_)
  obtain ⟨hgx2, hv⟩ := hv x2 hx2
  refine y_ifnonnull (tgt := 22) E dX1_pass_18 (by decide) ?_
  refine y_aload_n E dX1_pass_22 0 rfl ?_
  refine gf_X1_3 E (by decide) (by decide) wm_103 dX1_pass_23 ?_
  refine y_aload_n E dX1_pass_26 0 rfl ?_
  refine gf_X1_6 E (by decide) (by decide) wm_104 dX1_pass_27 ?_
  refine y_calli E (y_runSN E (rest := []) (kX11_has l w E.2.2.1 σ (σ 49 3) (σ 49 6) _ hv) (y_cwSN (own := RX1) (host := RX11) 2 E.1.2.2.2.2 (E.2.1.2.1.1 _ (List.mem_of_getElem? (i := 15) rfl)) wm_115 wm_116 wm_117 (by decide +kernel) (yRm_le (by decide) (by decide))) rfl rfl (Nat.le_of_ble_eq_true rfl) dX1_pass_30) (fun v3 u4 hk => ?_)
  clear hv
  have hv := hk
  clear hk
  refine y_if_eq (tgt := 42) E dX1_pass_33 (by decide) (fun c5 => ?_) (fun c5 => ?_)
  · replace hv := ite_t hv c5
    refine y_aload_n E dX1_pass_42 0 rfl ?_
    refine gf_X1_0 E (by decide) (by decide) wm_100 dX1_pass_43 ?_
    refine gf_X3_2 E (by decide) (by decide) wm_105 dX1_pass_46 ?_
    refine y_aload_n E dX1_pass_49 0 rfl ?_
    refine gf_X1_6 E (by decide) (by decide) wm_104 dX1_pass_50 ?_
    refine y_calli E (y_runSN E (rest := []) (kX11_has l w E.2.2.1 u4 (u4 1 2) (u4 49 6) _ hv) (y_cwSN (own := RX1) (host := RX11) 2 E.1.2.2.2.2 (E.2.1.2.1.1 _ (List.mem_of_getElem? (i := 15) rfl)) wm_115 wm_116 wm_117 (by decide +kernel) (yRm_le (by decide) (by decide))) rfl rfl (Nat.le_of_ble_eq_true rfl) dX1_pass_53) (fun v6 u7 hk => ?_)
    clear hv
    have hv := hk
    clear hk
    refine y_if_eq (tgt := 95) E dX1_pass_56 (by decide) (fun c8 => ?_) (fun c8 => ?_)
    · replace hv := ite_t hv c8
      exact hb95 u7 a1 hv
    · replace hv := ite_f hv c8
      refine y_aload_n E dX1_pass_59 0 rfl ?_
      refine y_aload_n E dX1_pass_60 0 rfl ?_
      obtain ⟨hnn, hv⟩ := hv
      refine gf_X1_2 E (by decide) (by decide) hnn wm_102 dX1_pass_61 ?_
      refine y_nmr (fun x9 hx9 => ?_)
      obtain ⟨hgx9, hv⟩ := hv x9 hx9
      refine y_aload_n E dX1_pass_64 0 rfl ?_
      obtain ⟨hnn, hv⟩ := hv
      refine gf_X1_1 E (by decide) (by decide) hnn wm_101 dX1_pass_65 ?_
      refine y_nmr (fun x10 hx10 => ?_)
      obtain ⟨hgx10, hv⟩ := hv x10 hx10
      refine y_iconst (v := 0) E dX1_pass_68 (by decide) ?_
      refine y_aload_n E dX1_pass_69 0 rfl ?_
      refine gf_X1_6 E (by decide) (by decide) wm_104 dX1_pass_70 ?_
      refine y_iload_n E dX1_pass_73 1 rfl ?_
      refine y_aload_n E dX1_pass_74 0 rfl ?_
      refine gf_X1_4 E (by decide) (by decide) wm_106 dX1_pass_75 ?_
      refine y_aload_n E dX1_pass_78 0 rfl ?_
      refine gf_X1_5 E (by decide) (by decide) wm_107 dX1_pass_79 ?_
      refine y_calli E (y_runV E (rest := [.ref (w.1 x9), .ref (w.1 49)]) (kX9_says l w E.2.2.1 u7 x10 0 (u7 49 6) a1 (u7 49 4) (u7 49 5) _ hv) (y_cwV 5 E.1.2.2.2.2 wm_108 wm_111 wm_112 wm_113 wm_114 (by decide +kernel) (yRm_le (by decide) (by decide))) (Nat.lt_of_lt_of_le hgx10.2 (by decide)) (xc_X9 hgx10.1 hgx10.2) rfl rfl rfl (Nat.le_of_ble_eq_true rfl) dX1_pass_82) (fun v11 u12 hk => ?_)
      clear hv
      have hv := hk
      clear hk
      refine y_aload_n E dX1_pass_85 0 rfl ?_
      refine gf_X1_7 E (by decide) (by decide) wm_109 dX1_pass_86 ?_
      refine y_calli E (rP_blown E (by decide) hv wm_110 (Nat.le_of_ble_eq_true rfl) dX1_pass_89) (fun v13 u14 hk => ?_)
      clear hv
      have hv := hk
      clear hk
      refine pf_X1_7 E (by decide) (by decide) wm_109 dX1_pass_92 ?_
      refine y_nmH (fun u15 hu15 => ?_)
      replace hv := hv u15 hu15
      exact hb95 u15 a1 hv
  · replace hv := ite_f hv c5
    refine y_aload_n E dX1_pass_36 0 rfl ?_
    refine y_iconst (v := 4) E dX1_pass_37 (by decide) ?_
    refine pf_X1_7 E (by decide) (by decide) wm_109 dX1_pass_38 ?_
    refine y_nmH (fun u16 hu16 => ?_)
    replace hv := hv u16 hu16
    exact y_vret E dX1_pass_41 hv
theorem dX1_passAll_0 : decode cX1_passAll 0 = .ok (.iconst 0, 1) := by decide +kernel
theorem dX1_passAll_1 : decode cX1_passAll 1 = .ok (.istore_n 3, 1) := by decide +kernel
theorem dX1_passAll_2 : decode cX1_passAll 2 = .ok (.iload_n 3, 1) := by decide +kernel
theorem dX1_passAll_3 : decode cX1_passAll 3 = .ok (.iload_n 2, 1) := by decide +kernel
theorem dX1_passAll_4 : decode cX1_passAll 4 = .ok (.if_icmp .ge 16, 3) := by decide +kernel
theorem dX1_passAll_7 : decode cX1_passAll 7 = .ok (.aload_n 0, 1) := by decide +kernel
theorem dX1_passAll_8 : decode cX1_passAll 8 = .ok (.iload_n 1, 1) := by decide +kernel
theorem dX1_passAll_9 : decode cX1_passAll 9 = .ok (.iload_n 3, 1) := by decide +kernel
theorem dX1_passAll_10 : decode cX1_passAll 10 = .ok (.iadd, 1) := by decide +kernel
theorem dX1_passAll_11 : decode cX1_passAll 11 = .ok (.invokevirtual 15, 3) := by decide +kernel
theorem dX1_passAll_14 : decode cX1_passAll 14 = .ok (.iinc 3 1, 3) := by decide +kernel
theorem dX1_passAll_17 : decode cX1_passAll 17 = .ok (.goto (-15), 3) := by decide +kernel
theorem dX1_passAll_20 : decode cX1_passAll 20 = .ok (.return_, 1) := by decide +kernel
set_option maxRecDepth 100000 in
set_option maxHeartbeats 4000000 in
theorem kX1_passAll (l : Launch) (w : wT) (hw : yOk w 55) (σ : Hp) (a1 : Int32) (a2 : Int32) (K : Hp → Prop) (hv : VX1_passAll K σ a1 a2) : yMet l w xcf 55 yX1_passAll cX1_passAll 4 none 4 [.ref (w.1 49), .int a1, .int a2] σ (yQv w xcf 55 K) := by
  unfold VX1_passAll at hv
  refine y_start (lv0 := [(0, .ref (w.1 49)), (1, .int a1), (2, .int a2)]) (by decide +kernel) (own := RX1) rfl hw (Nat.le_of_ble_eq_true rfl) rfl (fun p e s m below meth c A E => ?_)
  have hL2 : ∀ (n2 : Nat) (σ : Hp) (l1 : Int32) (l2 : Int32) (l3 : Int32), VX1_passAll_L2 K n2 σ l1 l2 l3 → YY p l e (yRm 4) s m [.ref (w.1 49), .int a1, .int a2].toArray below meth c w xcf 55 A (MQ below (yQv w xcf 55 K A) [.ref (w.1 49), .int a1, .int a2].toArray s 0 0 A) 4 σ 2 [(0, .ref (w.1 49)), (1, .int l1), (2, .int l2), (3, .int l3)] [] := by
    intro n2
    induction n2 with
    | zero => exact fun _ _ _ _ hv => (by unfold VX1_passAll_L2 at hv; exact hv.elim)
    | succ n2 ih2 =>
      intro σ l1 l2 l3 hv
      unfold VX1_passAll_L2 at hv
      refine y_iload_n E dX1_passAll_2 3 rfl ?_
      refine y_iload_n E dX1_passAll_3 2 rfl ?_
      refine y_icmp_ge (tgt := 20) E dX1_passAll_4 (by decide) (fun c1 => ?_) (fun c1 => ?_)
      · replace hv := ite_t hv c1
        exact y_vret E dX1_passAll_20 hv
      · replace hv := ite_f hv c1
        refine y_aload_n E dX1_passAll_7 0 rfl ?_
        refine y_iload_n E dX1_passAll_8 1 rfl ?_
        refine y_iload_n E dX1_passAll_9 3 rfl ?_
        refine y_iadd E dX1_passAll_10 ?_
        refine y_callv E (y_runV E (rest := []) (kX1_pass l w E.2.2.1 σ (l1 + l3) _ hv) (y_cwV 1 E.1.2.2.2.2 wm_95 wm_96 wm_97 wm_98 wm_99 (by decide +kernel) (yRm_le (by decide) (by decide))) (Nat.lt_of_lt_of_le (show 49 < 50 by decide) (by decide)) (xc_X1 (by decide) (by decide)) rfl rfl rfl (Nat.le_of_ble_eq_true rfl) dX1_passAll_11) (fun u3 hk => ?_)
        clear hv
        have hv := hk
        clear hk
        obtain ⟨x4, hx4⟩ : ∃ z : Int32, z = l3 + 1 := ⟨_, rfl⟩
        replace hv := hv x4 hx4
        refine y_iinc (v := x4) (lv' := [(3, .int x4), (0, .ref (w.1 49)), (1, .int l1), (2, .int l2)]) E dX1_passAll_14 3 rfl (by rw [hx4]; rfl) (by decide) rfl ?_
        refine y_goto (tgt := 2) E dX1_passAll_17 (by decide) ?_
        refine y_lv (lv' := [(0, .ref (w.1 49)), (1, .int l1), (2, .int l2), (3, .int x4)]) [1, 2, 3, 0] rfl ?_
        exact ih2 u3 l1 l2 x4 hv
  refine y_iconst (v := 0) E dX1_passAll_0 (by decide) ?_
  refine y_istore_n (lv' := [(3, .int 0), (0, .ref (w.1 49)), (1, .int a1), (2, .int a2)]) E dX1_passAll_1 (by decide) rfl ?_
  refine y_lv (lv' := [(0, .ref (w.1 49)), (1, .int a1), (2, .int a2), (3, .int 0)]) [1, 2, 3, 0] rfl ?_
  obtain ⟨n0, hv⟩ := hv
  exact hL2 n0 σ a1 a2 0 hv
theorem dX3_become_0 : decode cX3_become 0 = .ok (.aload_n 0, 1) := by decide +kernel
theorem dX3_become_1 : decode cX3_become 1 = .ok (.aload_n 1, 1) := by decide +kernel
theorem dX3_become_2 : decode cX3_become 2 = .ok (.getfield 24, 3) := by decide +kernel
theorem dX3_become_5 : decode cX3_become 5 = .ok (.putfield 24, 3) := by decide +kernel
theorem dX3_become_8 : decode cX3_become 8 = .ok (.aload_n 0, 1) := by decide +kernel
theorem dX3_become_9 : decode cX3_become 9 = .ok (.aload_n 1, 1) := by decide +kernel
theorem dX3_become_10 : decode cX3_become 10 = .ok (.getfield 28, 3) := by decide +kernel
theorem dX3_become_13 : decode cX3_become 13 = .ok (.putfield 28, 3) := by decide +kernel
theorem dX3_become_16 : decode cX3_become 16 = .ok (.aload_n 0, 1) := by decide +kernel
theorem dX3_become_17 : decode cX3_become 17 = .ok (.aload_n 1, 1) := by decide +kernel
theorem dX3_become_18 : decode cX3_become 18 = .ok (.getfield 31, 3) := by decide +kernel
theorem dX3_become_21 : decode cX3_become 21 = .ok (.putfield 31, 3) := by decide +kernel
theorem dX3_become_24 : decode cX3_become 24 = .ok (.aload_n 0, 1) := by decide +kernel
theorem dX3_become_25 : decode cX3_become 25 = .ok (.aload_n 1, 1) := by decide +kernel
theorem dX3_become_26 : decode cX3_become 26 = .ok (.getfield 34, 3) := by decide +kernel
theorem dX3_become_29 : decode cX3_become 29 = .ok (.putfield 34, 3) := by decide +kernel
theorem dX3_become_32 : decode cX3_become 32 = .ok (.aload_n 0, 1) := by decide +kernel
theorem dX3_become_33 : decode cX3_become 33 = .ok (.aload_n 1, 1) := by decide +kernel
theorem dX3_become_34 : decode cX3_become 34 = .ok (.getfield 37, 3) := by decide +kernel
theorem dX3_become_37 : decode cX3_become 37 = .ok (.putfield 37, 3) := by decide +kernel
theorem dX3_become_40 : decode cX3_become 40 = .ok (.aload_n 0, 1) := by decide +kernel
theorem dX3_become_41 : decode cX3_become 41 = .ok (.aload_n 1, 1) := by decide +kernel
theorem dX3_become_42 : decode cX3_become 42 = .ok (.getfield 40, 3) := by decide +kernel
theorem dX3_become_45 : decode cX3_become 45 = .ok (.putfield 40, 3) := by decide +kernel
theorem dX3_become_48 : decode cX3_become 48 = .ok (.aload_n 1, 1) := by decide +kernel
theorem dX3_become_49 : decode cX3_become 49 = .ok (.getfield 9, 3) := by decide +kernel
theorem dX3_become_52 : decode cX3_become 52 = .ok (.iconst 0, 1) := by decide +kernel
theorem dX3_become_53 : decode cX3_become 53 = .ok (.aload_n 0, 1) := by decide +kernel
theorem dX3_become_54 : decode cX3_become 54 = .ok (.getfield 9, 3) := by decide +kernel
theorem dX3_become_57 : decode cX3_become 57 = .ok (.iconst 0, 1) := by decide +kernel
theorem dX3_become_58 : decode cX3_become 58 = .ok (.iconst 5, 1) := by decide +kernel
theorem dX3_become_59 : decode cX3_become 59 = .ok (.invokestatic 43, 3) := by decide +kernel
theorem dX3_become_62 : decode cX3_become 62 = .ok (.aload_n 1, 1) := by decide +kernel
theorem dX3_become_63 : decode cX3_become 63 = .ok (.getfield 15, 3) := by decide +kernel
theorem dX3_become_66 : decode cX3_become 66 = .ok (.iconst 0, 1) := by decide +kernel
theorem dX3_become_67 : decode cX3_become 67 = .ok (.aload_n 0, 1) := by decide +kernel
theorem dX3_become_68 : decode cX3_become 68 = .ok (.getfield 15, 3) := by decide +kernel
theorem dX3_become_71 : decode cX3_become 71 = .ok (.iconst 0, 1) := by decide +kernel
theorem dX3_become_72 : decode cX3_become 72 = .ok (.iconst 5, 1) := by decide +kernel
theorem dX3_become_73 : decode cX3_become 73 = .ok (.invokestatic 43, 3) := by decide +kernel
theorem dX3_become_76 : decode cX3_become 76 = .ok (.aload_n 1, 1) := by decide +kernel
theorem dX3_become_77 : decode cX3_become 77 = .ok (.getfield 18, 3) := by decide +kernel
theorem dX3_become_80 : decode cX3_become 80 = .ok (.iconst 0, 1) := by decide +kernel
theorem dX3_become_81 : decode cX3_become 81 = .ok (.aload_n 0, 1) := by decide +kernel
theorem dX3_become_82 : decode cX3_become 82 = .ok (.getfield 18, 3) := by decide +kernel
theorem dX3_become_85 : decode cX3_become 85 = .ok (.iconst 0, 1) := by decide +kernel
theorem dX3_become_86 : decode cX3_become 86 = .ok (.iconst 5, 1) := by decide +kernel
theorem dX3_become_87 : decode cX3_become 87 = .ok (.invokestatic 43, 3) := by decide +kernel
theorem dX3_become_90 : decode cX3_become 90 = .ok (.aload_n 1, 1) := by decide +kernel
theorem dX3_become_91 : decode cX3_become 91 = .ok (.getfield 21, 3) := by decide +kernel
theorem dX3_become_94 : decode cX3_become 94 = .ok (.iconst 0, 1) := by decide +kernel
theorem dX3_become_95 : decode cX3_become 95 = .ok (.aload_n 0, 1) := by decide +kernel
theorem dX3_become_96 : decode cX3_become 96 = .ok (.getfield 21, 3) := by decide +kernel
theorem dX3_become_99 : decode cX3_become 99 = .ok (.iconst 0, 1) := by decide +kernel
theorem dX3_become_100 : decode cX3_become 100 = .ok (.iconst 5, 1) := by decide +kernel
theorem dX3_become_101 : decode cX3_become 101 = .ok (.invokestatic 43, 3) := by decide +kernel
theorem dX3_become_104 : decode cX3_become 104 = .ok (.return_, 1) := by decide +kernel
set_option maxRecDepth 100000 in
set_option maxHeartbeats 4000000 in
theorem kX3_become (l : Launch) (w : wT) (hw : yOk w 55) (σ : Hp) (o : Nat) (a1 : Nat) (K : Hp → Prop) (hv : VX3_become K σ o a1) : yMet l w xcf 55 yX3_become cX3_become 2 none 1 [.ref (w.1 o), .ref (w.1 a1)] σ (yQv w xcf 55 K) := by
  unfold VX3_become at hv
  refine y_start (lv0 := [(0, .ref (w.1 o)), (1, .ref (w.1 a1))]) (by decide +kernel) (own := RX3) rfl hw (Nat.le_of_ble_eq_true rfl) rfl (fun p e s m below meth c A E => ?_)
  obtain ⟨hgo, hv⟩ := hv
  obtain ⟨hga1, hv⟩ := hv
  refine y_aload_n E dX3_become_0 0 rfl ?_
  refine y_aload_n E dX3_become_1 1 rfl ?_
  refine gf_X3_0 E hga1.1 hga1.2 wm_132 dX3_become_2 ?_
  refine pf_X3_0 E hgo.1 hgo.2 wm_132 dX3_become_5 ?_
  refine y_nmH (fun u1 hu1 => ?_)
  replace hv := hv u1 hu1
  refine y_aload_n E dX3_become_8 0 rfl ?_
  refine y_aload_n E dX3_become_9 1 rfl ?_
  refine gf_X3_1 E hga1.1 hga1.2 wm_133 dX3_become_10 ?_
  refine pf_X3_1 E hgo.1 hgo.2 wm_133 dX3_become_13 ?_
  refine y_nmH (fun u2 hu2 => ?_)
  replace hv := hv u2 hu2
  refine y_aload_n E dX3_become_16 0 rfl ?_
  refine y_aload_n E dX3_become_17 1 rfl ?_
  refine gf_X3_2 E hga1.1 hga1.2 wm_134 dX3_become_18 ?_
  refine pf_X3_2 E hgo.1 hgo.2 wm_134 dX3_become_21 ?_
  refine y_nmH (fun u3 hu3 => ?_)
  replace hv := hv u3 hu3
  refine y_aload_n E dX3_become_24 0 rfl ?_
  refine y_aload_n E dX3_become_25 1 rfl ?_
  refine gf_X3_3 E hga1.1 hga1.2 wm_135 dX3_become_26 ?_
  refine pf_X3_3 E hgo.1 hgo.2 wm_135 dX3_become_29 ?_
  refine y_nmH (fun u4 hu4 => ?_)
  replace hv := hv u4 hu4
  refine y_aload_n E dX3_become_32 0 rfl ?_
  refine y_aload_n E dX3_become_33 1 rfl ?_
  refine gf_X3_4 E hga1.1 hga1.2 wm_136 dX3_become_34 ?_
  refine pf_X3_4 E hgo.1 hgo.2 wm_136 dX3_become_37 ?_
  refine y_nmH (fun u5 hu5 => ?_)
  replace hv := hv u5 hu5
  refine y_aload_n E dX3_become_40 0 rfl ?_
  refine y_aload_n E dX3_become_41 1 rfl ?_
  refine gf_X3_5 E hga1.1 hga1.2 wm_137 dX3_become_42 ?_
  refine pf_X3_5 E hgo.1 hgo.2 wm_137 dX3_become_45 ?_
  refine y_nmH (fun u6 hu6 => ?_)
  replace hv := hv u6 hu6
  refine y_aload_n E dX3_become_48 1 rfl ?_
  obtain ⟨x7, hx7⟩ : ∃ z : Nat, z = 3 + 4 * (a1 - 1) := ⟨_, rfl⟩
  replace hv := hv x7 hx7
  have hgx7 : 3 ≤ x7 ∧ x7 < 11 := by omega
  refine gf_X3_6 (q := x7) E hga1.1 hga1.2 hx7.symm wm_138 dX3_become_49 ?_
  refine y_iconst (v := 0) E dX3_become_52 (by decide) ?_
  refine y_aload_n E dX3_become_53 0 rfl ?_
  obtain ⟨x8, hx8⟩ : ∃ z : Nat, z = 3 + 4 * (o - 1) := ⟨_, rfl⟩
  replace hv := hv x8 hx8
  have hgx8 : 3 ≤ x8 ∧ x8 < 11 := by omega
  refine gf_X3_6 (q := x8) E hgo.1 hgo.2 hx8.symm wm_138 dX3_become_54 ?_
  refine y_iconst (v := 0) E dX3_become_57 (by decide) ?_
  refine y_iconst (v := 5) E dX3_become_58 (by decide) ?_
  obtain ⟨h1, h2, h3, h4, h5, hv⟩ := hv
  refine y_copyi E (Nat.lt_of_lt_of_le hgx7.2 (by decide)) (Nat.lt_of_lt_of_le hgx8.2 (by decide)) (xc_harr hgx7.1 hgx7.2) (fun _ => xc_harr hgx8.1 hgx8.2) wm_139 wm_143 wm_144 wm_145 h1 h2 h3 h4 h5 (by decide) (Nat.le_of_ble_eq_true rfl) dX3_become_59 ?_
  refine y_nmH (fun u9 hu9 => ?_)
  replace hv := hv u9 hu9
  refine y_aload_n E dX3_become_62 1 rfl ?_
  obtain ⟨x10, hx10⟩ : ∃ z : Nat, z = 4 + 4 * (a1 - 1) := ⟨_, rfl⟩
  replace hv := hv x10 hx10
  have hgx10 : 3 ≤ x10 ∧ x10 < 11 := by omega
  refine gf_X3_7 (q := x10) E hga1.1 hga1.2 hx10.symm wm_140 dX3_become_63 ?_
  refine y_iconst (v := 0) E dX3_become_66 (by decide) ?_
  refine y_aload_n E dX3_become_67 0 rfl ?_
  obtain ⟨x11, hx11⟩ : ∃ z : Nat, z = 4 + 4 * (o - 1) := ⟨_, rfl⟩
  replace hv := hv x11 hx11
  have hgx11 : 3 ≤ x11 ∧ x11 < 11 := by omega
  refine gf_X3_7 (q := x11) E hgo.1 hgo.2 hx11.symm wm_140 dX3_become_68 ?_
  refine y_iconst (v := 0) E dX3_become_71 (by decide) ?_
  refine y_iconst (v := 5) E dX3_become_72 (by decide) ?_
  obtain ⟨h1, h2, h3, h4, h5, hv⟩ := hv
  refine y_copyi E (Nat.lt_of_lt_of_le hgx10.2 (by decide)) (Nat.lt_of_lt_of_le hgx11.2 (by decide)) (xc_harr hgx10.1 hgx10.2) (fun _ => xc_harr hgx11.1 hgx11.2) wm_139 wm_143 wm_144 wm_145 h1 h2 h3 h4 h5 (by decide) (Nat.le_of_ble_eq_true rfl) dX3_become_73 ?_
  refine y_nmH (fun u12 hu12 => ?_)
  replace hv := hv u12 hu12
  refine y_aload_n E dX3_become_76 1 rfl ?_
  obtain ⟨x13, hx13⟩ : ∃ z : Nat, z = 5 + 4 * (a1 - 1) := ⟨_, rfl⟩
  replace hv := hv x13 hx13
  have hgx13 : 3 ≤ x13 ∧ x13 < 11 := by omega
  refine gf_X3_8 (q := x13) E hga1.1 hga1.2 hx13.symm wm_141 dX3_become_77 ?_
  refine y_iconst (v := 0) E dX3_become_80 (by decide) ?_
  refine y_aload_n E dX3_become_81 0 rfl ?_
  obtain ⟨x14, hx14⟩ : ∃ z : Nat, z = 5 + 4 * (o - 1) := ⟨_, rfl⟩
  replace hv := hv x14 hx14
  have hgx14 : 3 ≤ x14 ∧ x14 < 11 := by omega
  refine gf_X3_8 (q := x14) E hgo.1 hgo.2 hx14.symm wm_141 dX3_become_82 ?_
  refine y_iconst (v := 0) E dX3_become_85 (by decide) ?_
  refine y_iconst (v := 5) E dX3_become_86 (by decide) ?_
  obtain ⟨h1, h2, h3, h4, h5, hv⟩ := hv
  refine y_copyi E (Nat.lt_of_lt_of_le hgx13.2 (by decide)) (Nat.lt_of_lt_of_le hgx14.2 (by decide)) (xc_harr hgx13.1 hgx13.2) (fun _ => xc_harr hgx14.1 hgx14.2) wm_139 wm_143 wm_144 wm_145 h1 h2 h3 h4 h5 (by decide) (Nat.le_of_ble_eq_true rfl) dX3_become_87 ?_
  refine y_nmH (fun u15 hu15 => ?_)
  replace hv := hv u15 hu15
  refine y_aload_n E dX3_become_90 1 rfl ?_
  obtain ⟨x16, hx16⟩ : ∃ z : Nat, z = 6 + 4 * (a1 - 1) := ⟨_, rfl⟩
  replace hv := hv x16 hx16
  have hgx16 : 3 ≤ x16 ∧ x16 < 11 := by omega
  refine gf_X3_9 (q := x16) E hga1.1 hga1.2 hx16.symm wm_142 dX3_become_91 ?_
  refine y_iconst (v := 0) E dX3_become_94 (by decide) ?_
  refine y_aload_n E dX3_become_95 0 rfl ?_
  obtain ⟨x17, hx17⟩ : ∃ z : Nat, z = 6 + 4 * (o - 1) := ⟨_, rfl⟩
  replace hv := hv x17 hx17
  have hgx17 : 3 ≤ x17 ∧ x17 < 11 := by omega
  refine gf_X3_9 (q := x17) E hgo.1 hgo.2 hx17.symm wm_142 dX3_become_96 ?_
  refine y_iconst (v := 0) E dX3_become_99 (by decide) ?_
  refine y_iconst (v := 5) E dX3_become_100 (by decide) ?_
  obtain ⟨h1, h2, h3, h4, h5, hv⟩ := hv
  refine y_copyi E (Nat.lt_of_lt_of_le hgx16.2 (by decide)) (Nat.lt_of_lt_of_le hgx17.2 (by decide)) (xc_harr hgx16.1 hgx16.2) (fun _ => xc_harr hgx17.1 hgx17.2) wm_139 wm_143 wm_144 wm_145 h1 h2 h3 h4 h5 (by decide) (Nat.le_of_ble_eq_true rfl) dX3_become_101 ?_
  refine y_nmH (fun u18 hu18 => ?_)
  replace hv := hv u18 hu18
  exact y_vret E dX3_become_104 hv
theorem dX3_bits_0 : decode cX3_bits 0 = .ok (.iload_n 1, 1) := by decide +kernel
theorem dX3_bits_1 : decode cX3_bits 1 = .ok (.ifCond .ne 10, 3) := by decide +kernel
theorem dX3_bits_4 : decode cX3_bits 4 = .ok (.aload_n 0, 1) := by decide +kernel
theorem dX3_bits_5 : decode cX3_bits 5 = .ok (.getfield 24, 3) := by decide +kernel
theorem dX3_bits_8 : decode cX3_bits 8 = .ok (.goto 19, 3) := by decide +kernel
theorem dX3_bits_11 : decode cX3_bits 11 = .ok (.iload_n 1, 1) := by decide +kernel
theorem dX3_bits_12 : decode cX3_bits 12 = .ok (.iconst 1, 1) := by decide +kernel
theorem dX3_bits_13 : decode cX3_bits 13 = .ok (.if_icmp .ne 10, 3) := by decide +kernel
theorem dX3_bits_16 : decode cX3_bits 16 = .ok (.aload_n 0, 1) := by decide +kernel
theorem dX3_bits_17 : decode cX3_bits 17 = .ok (.getfield 28, 3) := by decide +kernel
theorem dX3_bits_20 : decode cX3_bits 20 = .ok (.goto 7, 3) := by decide +kernel
theorem dX3_bits_23 : decode cX3_bits 23 = .ok (.aload_n 0, 1) := by decide +kernel
theorem dX3_bits_24 : decode cX3_bits 24 = .ok (.getfield 31, 3) := by decide +kernel
theorem dX3_bits_27 : decode cX3_bits 27 = .ok (.ireturn, 1) := by decide +kernel
set_option maxRecDepth 100000 in
set_option maxHeartbeats 4000000 in
theorem kX3_bits (l : Launch) (w : wT) (hw : yOk w 55) (σ : Hp) (o : Nat) (a1 : Int32) (K : Int32 → Hp → Prop) (hv : VX3_bits K σ o a1) : yMet l w xcf 55 yX3_bits cX3_bits 2 (some .int) 1 [.ref (w.1 o), .int a1] σ (yQi w xcf 55 K) := by
  unfold VX3_bits at hv
  refine y_start (lv0 := [(0, .ref (w.1 o)), (1, .int a1)]) (by decide +kernel) (own := RX3) rfl hw (Nat.le_of_ble_eq_true rfl) rfl (fun p e s m below meth c A E => ?_)
  obtain ⟨hgo, hv⟩ := hv
  refine y_iload_n E dX3_bits_0 1 rfl ?_
  refine y_if_ne (tgt := 11) E dX3_bits_1 (by decide) (fun c1 => ?_) (fun c1 => ?_)
  · replace hv := ite_f hv c1
    refine y_iload_n E dX3_bits_11 1 rfl ?_
    refine y_iconst (v := 1) E dX3_bits_12 (by decide) ?_
    refine y_icmp_ne (tgt := 23) E dX3_bits_13 (by decide) (fun c2 => ?_) (fun c2 => ?_)
    · replace hv := ite_f hv c2
      refine y_aload_n E dX3_bits_23 0 rfl ?_
      refine gf_X3_2 E hgo.1 hgo.2 wm_134 dX3_bits_24 ?_
      exact y_iret E dX3_bits_27 hv
    · replace hv := ite_t hv c2
      refine y_aload_n E dX3_bits_16 0 rfl ?_
      refine gf_X3_1 E hgo.1 hgo.2 wm_133 dX3_bits_17 ?_
      refine y_goto (tgt := 27) E dX3_bits_20 (by decide) ?_
      exact y_iret E dX3_bits_27 hv
  · replace hv := ite_t hv c1
    refine y_aload_n E dX3_bits_4 0 rfl ?_
    refine gf_X3_0 E hgo.1 hgo.2 wm_132 dX3_bits_5 ?_
    refine y_goto (tgt := 27) E dX3_bits_8 (by decide) ?_
    exact y_iret E dX3_bits_27 hv
theorem dX3_flip_0 : decode cX3_flip 0 = .ok (.iload_n 1, 1) := by decide +kernel
theorem dX3_flip_1 : decode cX3_flip 1 = .ok (.ifCond .ne 18, 3) := by decide +kernel
theorem dX3_flip_4 : decode cX3_flip 4 = .ok (.aload_n 0, 1) := by decide +kernel
theorem dX3_flip_5 : decode cX3_flip 5 = .ok (.dup, 1) := by decide +kernel
theorem dX3_flip_6 : decode cX3_flip 6 = .ok (.getfield 24, 3) := by decide +kernel
theorem dX3_flip_9 : decode cX3_flip 9 = .ok (.iconst 1, 1) := by decide +kernel
theorem dX3_flip_10 : decode cX3_flip 10 = .ok (.iload_n 2, 1) := by decide +kernel
theorem dX3_flip_11 : decode cX3_flip 11 = .ok (.ishl, 1) := by decide +kernel
theorem dX3_flip_12 : decode cX3_flip 12 = .ok (.ixor, 1) := by decide +kernel
theorem dX3_flip_13 : decode cX3_flip 13 = .ok (.putfield 24, 3) := by decide +kernel
theorem dX3_flip_16 : decode cX3_flip 16 = .ok (.goto 35, 3) := by decide +kernel
theorem dX3_flip_19 : decode cX3_flip 19 = .ok (.iload_n 1, 1) := by decide +kernel
theorem dX3_flip_20 : decode cX3_flip 20 = .ok (.iconst 1, 1) := by decide +kernel
theorem dX3_flip_21 : decode cX3_flip 21 = .ok (.if_icmp .ne 18, 3) := by decide +kernel
theorem dX3_flip_24 : decode cX3_flip 24 = .ok (.aload_n 0, 1) := by decide +kernel
theorem dX3_flip_25 : decode cX3_flip 25 = .ok (.dup, 1) := by decide +kernel
theorem dX3_flip_26 : decode cX3_flip 26 = .ok (.getfield 28, 3) := by decide +kernel
theorem dX3_flip_29 : decode cX3_flip 29 = .ok (.iconst 1, 1) := by decide +kernel
theorem dX3_flip_30 : decode cX3_flip 30 = .ok (.iload_n 2, 1) := by decide +kernel
theorem dX3_flip_31 : decode cX3_flip 31 = .ok (.ishl, 1) := by decide +kernel
theorem dX3_flip_32 : decode cX3_flip 32 = .ok (.ixor, 1) := by decide +kernel
theorem dX3_flip_33 : decode cX3_flip 33 = .ok (.putfield 28, 3) := by decide +kernel
theorem dX3_flip_36 : decode cX3_flip 36 = .ok (.goto 15, 3) := by decide +kernel
theorem dX3_flip_39 : decode cX3_flip 39 = .ok (.aload_n 0, 1) := by decide +kernel
theorem dX3_flip_40 : decode cX3_flip 40 = .ok (.dup, 1) := by decide +kernel
theorem dX3_flip_41 : decode cX3_flip 41 = .ok (.getfield 31, 3) := by decide +kernel
theorem dX3_flip_44 : decode cX3_flip 44 = .ok (.iconst 1, 1) := by decide +kernel
theorem dX3_flip_45 : decode cX3_flip 45 = .ok (.iload_n 2, 1) := by decide +kernel
theorem dX3_flip_46 : decode cX3_flip 46 = .ok (.ishl, 1) := by decide +kernel
theorem dX3_flip_47 : decode cX3_flip 47 = .ok (.ixor, 1) := by decide +kernel
theorem dX3_flip_48 : decode cX3_flip 48 = .ok (.putfield 31, 3) := by decide +kernel
theorem dX3_flip_51 : decode cX3_flip 51 = .ok (.return_, 1) := by decide +kernel
set_option maxRecDepth 100000 in
set_option maxHeartbeats 4000000 in
theorem kX3_flip (l : Launch) (w : wT) (hw : yOk w 55) (σ : Hp) (o : Nat) (a1 : Int32) (a2 : Int32) (K : Hp → Prop) (hv : VX3_flip K σ o a1 a2) : yMet l w xcf 55 yX3_flip cX3_flip 3 none 1 [.ref (w.1 o), .int a1, .int a2] σ (yQv w xcf 55 K) := by
  unfold VX3_flip at hv
  refine y_start (lv0 := [(0, .ref (w.1 o)), (1, .int a1), (2, .int a2)]) (by decide +kernel) (own := RX3) rfl hw (Nat.le_of_ble_eq_true rfl) rfl (fun p e s m below meth c A E => ?_)
  obtain ⟨hgo, hv⟩ := hv
  refine y_iload_n E dX3_flip_0 1 rfl ?_
  refine y_if_ne (tgt := 19) E dX3_flip_1 (by decide) (fun c1 => ?_) (fun c1 => ?_)
  · replace hv := ite_f hv c1
    refine y_iload_n E dX3_flip_19 1 rfl ?_
    refine y_iconst (v := 1) E dX3_flip_20 (by decide) ?_
    refine y_icmp_ne (tgt := 39) E dX3_flip_21 (by decide) (fun c2 => ?_) (fun c2 => ?_)
    · replace hv := ite_f hv c2
      refine y_aload_n E dX3_flip_39 0 rfl ?_
      refine y_dup E dX3_flip_40 rfl ?_
      refine gf_X3_2 E hgo.1 hgo.2 wm_134 dX3_flip_41 ?_
      refine y_iconst (v := 1) E dX3_flip_44 (by decide) ?_
      refine y_iload_n E dX3_flip_45 2 rfl ?_
      refine y_ishl E dX3_flip_46 ?_
      refine y_ixor E dX3_flip_47 ?_
      refine pf_X3_2 E hgo.1 hgo.2 wm_134 dX3_flip_48 ?_
      refine y_nmH (fun u3 hu3 => ?_)
      replace hv := hv u3 hu3
      exact y_vret E dX3_flip_51 hv
    · replace hv := ite_t hv c2
      refine y_aload_n E dX3_flip_24 0 rfl ?_
      refine y_dup E dX3_flip_25 rfl ?_
      refine gf_X3_1 E hgo.1 hgo.2 wm_133 dX3_flip_26 ?_
      refine y_iconst (v := 1) E dX3_flip_29 (by decide) ?_
      refine y_iload_n E dX3_flip_30 2 rfl ?_
      refine y_ishl E dX3_flip_31 ?_
      refine y_ixor E dX3_flip_32 ?_
      refine pf_X3_1 E hgo.1 hgo.2 wm_133 dX3_flip_33 ?_
      refine y_nmH (fun u4 hu4 => ?_)
      replace hv := hv u4 hu4
      refine y_goto (tgt := 51) E dX3_flip_36 (by decide) ?_
      exact y_vret E dX3_flip_51 hv
  · replace hv := ite_t hv c1
    refine y_aload_n E dX3_flip_4 0 rfl ?_
    refine y_dup E dX3_flip_5 rfl ?_
    refine gf_X3_0 E hgo.1 hgo.2 wm_132 dX3_flip_6 ?_
    refine y_iconst (v := 1) E dX3_flip_9 (by decide) ?_
    refine y_iload_n E dX3_flip_10 2 rfl ?_
    refine y_ishl E dX3_flip_11 ?_
    refine y_ixor E dX3_flip_12 ?_
    refine pf_X3_0 E hgo.1 hgo.2 wm_132 dX3_flip_13 ?_
    refine y_nmH (fun u5 hu5 => ?_)
    replace hv := hv u5 hu5
    refine y_goto (tgt := 51) E dX3_flip_16 (by decide) ?_
    exact y_vret E dX3_flip_51 hv
theorem dX4_add_0 : decode cX4_add 0 = .ok (.aload_n 0, 1) := by decide +kernel
theorem dX4_add_1 : decode cX4_add 1 = .ok (.getfield 15, 3) := by decide +kernel
theorem dX4_add_4 : decode cX4_add 4 = .ok (.sipush 160, 3) := by decide +kernel
theorem dX4_add_7 : decode cX4_add 7 = .ok (.if_icmp .ge 24, 3) := by decide +kernel
theorem dX4_add_10 : decode cX4_add 10 = .ok (.aload_n 0, 1) := by decide +kernel
theorem dX4_add_11 : decode cX4_add 11 = .ok (.getfield 9, 3) := by decide +kernel
theorem dX4_add_14 : decode cX4_add 14 = .ok (.aload_n 0, 1) := by decide +kernel
theorem dX4_add_15 : decode cX4_add 15 = .ok (.getfield 15, 3) := by decide +kernel
theorem dX4_add_18 : decode cX4_add 18 = .ok (.iload_n 1, 1) := by decide +kernel
theorem dX4_add_19 : decode cX4_add 19 = .ok (.i2b, 1) := by decide +kernel
theorem dX4_add_20 : decode cX4_add 20 = .ok (.bastore, 1) := by decide +kernel
theorem dX4_add_21 : decode cX4_add 21 = .ok (.aload_n 0, 1) := by decide +kernel
theorem dX4_add_22 : decode cX4_add 22 = .ok (.dup, 1) := by decide +kernel
theorem dX4_add_23 : decode cX4_add 23 = .ok (.getfield 15, 3) := by decide +kernel
theorem dX4_add_26 : decode cX4_add 26 = .ok (.iconst 1, 1) := by decide +kernel
theorem dX4_add_27 : decode cX4_add 27 = .ok (.iadd, 1) := by decide +kernel
theorem dX4_add_28 : decode cX4_add 28 = .ok (.putfield 15, 3) := by decide +kernel
theorem dX4_add_31 : decode cX4_add 31 = .ok (.return_, 1) := by decide +kernel
set_option maxRecDepth 100000 in
set_option maxHeartbeats 4000000 in
theorem kX4_add (l : Launch) (w : wT) (hw : yOk w 55) (σ : Hp) (a1 : Int32) (K : Hp → Prop) (hv : VX4_add K σ a1) : yMet l w xcf 55 yX4_add cX4_add 2 none 1 [.ref (w.1 38), .int a1] σ (yQv w xcf 55 K) := by
  unfold VX4_add at hv
  refine y_start (lv0 := [(0, .ref (w.1 38)), (1, .int a1)]) (by decide +kernel) (own := RX4) rfl hw (Nat.le_of_ble_eq_true rfl) rfl (fun p e s m below meth c A E => ?_)
  refine y_aload_n E dX4_add_0 0 rfl ?_
  refine gf_X4_1 E (by decide) (by decide) wm_146 dX4_add_1 ?_
  refine y_sipush (v := 160) E dX4_add_4 (by decide) ?_
  refine y_icmp_ge (tgt := 31) E dX4_add_7 (by decide) (fun c1 => ?_) (fun c1 => ?_)
  · replace hv := ite_t hv c1
    exact y_vret E dX4_add_31 hv
  · replace hv := ite_f hv c1
    refine y_aload_n E dX4_add_10 0 rfl ?_
    refine gf_X4_0 E (by decide) (by decide) wm_147 dX4_add_11 ?_
    refine y_aload_n E dX4_add_14 0 rfl ?_
    refine gf_X4_1 E (by decide) (by decide) wm_146 dX4_add_15 ?_
    refine y_iload_n E dX4_add_18 1 rfl ?_
    refine y_i2b E dX4_add_19 ?_
    obtain ⟨hi, hv⟩ := hv
    refine y_bast E (Nat.lt_of_lt_of_le (show 39 < 40 by decide) (by decide)) (fun _ => xc_bytes (by decide) (by decide)) hi dX4_add_20 ?_
    refine y_nmH (fun u2 hu2 => ?_)
    replace hv := hv u2 hu2
    refine y_aload_n E dX4_add_21 0 rfl ?_
    refine y_dup E dX4_add_22 rfl ?_
    refine gf_X4_1 E (by decide) (by decide) wm_146 dX4_add_23 ?_
    refine y_iconst (v := 1) E dX4_add_26 (by decide) ?_
    refine y_iadd E dX4_add_27 ?_
    refine pf_X4_1 E (by decide) (by decide) wm_146 dX4_add_28 ?_
    refine y_nmH (fun u3 hu3 => ?_)
    replace hv := hv u3 hu3
    exact y_vret E dX4_add_31 hv
theorem dX4_isDigit_0 : decode cX4_isDigit 0 = .ok (.iload_n 0, 1) := by decide +kernel
theorem dX4_isDigit_1 : decode cX4_isDigit 1 = .ok (.bipush 48, 2) := by decide +kernel
theorem dX4_isDigit_3 : decode cX4_isDigit 3 = .ok (.if_icmp .lt 13, 3) := by decide +kernel
theorem dX4_isDigit_6 : decode cX4_isDigit 6 = .ok (.iload_n 0, 1) := by decide +kernel
theorem dX4_isDigit_7 : decode cX4_isDigit 7 = .ok (.bipush 57, 2) := by decide +kernel
theorem dX4_isDigit_9 : decode cX4_isDigit 9 = .ok (.if_icmp .gt 7, 3) := by decide +kernel
theorem dX4_isDigit_12 : decode cX4_isDigit 12 = .ok (.iconst 1, 1) := by decide +kernel
theorem dX4_isDigit_13 : decode cX4_isDigit 13 = .ok (.goto 4, 3) := by decide +kernel
theorem dX4_isDigit_16 : decode cX4_isDigit 16 = .ok (.iconst 0, 1) := by decide +kernel
theorem dX4_isDigit_17 : decode cX4_isDigit 17 = .ok (.ireturn, 1) := by decide +kernel
set_option maxRecDepth 100000 in
set_option maxHeartbeats 4000000 in
theorem kX4_isDigit (l : Launch) (w : wT) (hw : yOk w 55) (σ : Hp) (a1 : Int32) (K : Int32 → Hp → Prop) (hv : VX4_isDigit K σ a1) : yMet l w xcf 55 yX4_isDigit cX4_isDigit 1 (some .boolean) 1 [.int a1] σ (yQi w xcf 55 K) := by
  unfold VX4_isDigit at hv
  refine y_start (lv0 := [(0, .int a1)]) (by decide +kernel) (own := RX4) rfl hw (Nat.le_of_ble_eq_true rfl) rfl (fun p e s m below meth c A E => ?_)
  refine y_iload_n E dX4_isDigit_0 0 rfl ?_
  refine y_bipush (v := 48) E dX4_isDigit_1 (by decide) ?_
  refine y_icmp_lt (tgt := 16) E dX4_isDigit_3 (by decide) (fun c1 => ?_) (fun c1 => ?_)
  · replace hv := ite_t hv c1
    refine y_iconst (v := 0) E dX4_isDigit_16 (by decide) ?_
    exact y_nret E dX4_isDigit_17 (by decide) hv
  · replace hv := ite_f hv c1
    refine y_iload_n E dX4_isDigit_6 0 rfl ?_
    refine y_bipush (v := 57) E dX4_isDigit_7 (by decide) ?_
    refine y_icmp_gt (tgt := 16) E dX4_isDigit_9 (by decide) (fun c2 => ?_) (fun c2 => ?_)
    · replace hv := ite_t hv c2
      refine y_iconst (v := 0) E dX4_isDigit_16 (by decide) ?_
      exact y_nret E dX4_isDigit_17 (by decide) hv
    · replace hv := ite_f hv c2
      refine y_iconst (v := 1) E dX4_isDigit_12 (by decide) ?_
      refine y_goto (tgt := 17) E dX4_isDigit_13 (by decide) ?_
      exact y_nret E dX4_isDigit_17 (by decide) hv
theorem dX4_goOnNumber_0 : decode cX4_goOnNumber 0 = .ok (.iconst 0, 1) := by decide +kernel
theorem dX4_goOnNumber_1 : decode cX4_goOnNumber 1 = .ok (.istore_n 1, 1) := by decide +kernel
theorem dX4_goOnNumber_2 : decode cX4_goOnNumber 2 = .ok (.aload_n 0, 1) := by decide +kernel
theorem dX4_goOnNumber_3 : decode cX4_goOnNumber 3 = .ok (.getfield 31, 3) := by decide +kernel
theorem dX4_goOnNumber_6 : decode cX4_goOnNumber 6 = .ok (.aload_n 0, 1) := by decide +kernel
theorem dX4_goOnNumber_7 : decode cX4_goOnNumber 7 = .ok (.getfield 15, 3) := by decide +kernel
theorem dX4_goOnNumber_10 : decode cX4_goOnNumber 10 = .ok (.if_icmp .ge 49, 3) := by decide +kernel
theorem dX4_goOnNumber_13 : decode cX4_goOnNumber 13 = .ok (.aload_n 0, 1) := by decide +kernel
theorem dX4_goOnNumber_14 : decode cX4_goOnNumber 14 = .ok (.getfield 9, 3) := by decide +kernel
theorem dX4_goOnNumber_17 : decode cX4_goOnNumber 17 = .ok (.aload_n 0, 1) := by decide +kernel
theorem dX4_goOnNumber_18 : decode cX4_goOnNumber 18 = .ok (.getfield 31, 3) := by decide +kernel
theorem dX4_goOnNumber_21 : decode cX4_goOnNumber 21 = .ok (.baload, 1) := by decide +kernel
theorem dX4_goOnNumber_22 : decode cX4_goOnNumber 22 = .ok (.invokestatic 77, 3) := by decide +kernel
theorem dX4_goOnNumber_25 : decode cX4_goOnNumber 25 = .ok (.ifCond .eq 34, 3) := by decide +kernel
theorem dX4_goOnNumber_28 : decode cX4_goOnNumber 28 = .ok (.bipush 10, 2) := by decide +kernel
theorem dX4_goOnNumber_30 : decode cX4_goOnNumber 30 = .ok (.iload_n 1, 1) := by decide +kernel
theorem dX4_goOnNumber_31 : decode cX4_goOnNumber 31 = .ok (.imul, 1) := by decide +kernel
theorem dX4_goOnNumber_32 : decode cX4_goOnNumber 32 = .ok (.aload_n 0, 1) := by decide +kernel
theorem dX4_goOnNumber_33 : decode cX4_goOnNumber 33 = .ok (.getfield 9, 3) := by decide +kernel
theorem dX4_goOnNumber_36 : decode cX4_goOnNumber 36 = .ok (.aload_n 0, 1) := by decide +kernel
theorem dX4_goOnNumber_37 : decode cX4_goOnNumber 37 = .ok (.getfield 31, 3) := by decide +kernel
theorem dX4_goOnNumber_40 : decode cX4_goOnNumber 40 = .ok (.baload, 1) := by decide +kernel
theorem dX4_goOnNumber_41 : decode cX4_goOnNumber 41 = .ok (.iadd, 1) := by decide +kernel
theorem dX4_goOnNumber_42 : decode cX4_goOnNumber 42 = .ok (.bipush 48, 2) := by decide +kernel
theorem dX4_goOnNumber_44 : decode cX4_goOnNumber 44 = .ok (.isub, 1) := by decide +kernel
theorem dX4_goOnNumber_45 : decode cX4_goOnNumber 45 = .ok (.istore_n 1, 1) := by decide +kernel
theorem dX4_goOnNumber_46 : decode cX4_goOnNumber 46 = .ok (.aload_n 0, 1) := by decide +kernel
theorem dX4_goOnNumber_47 : decode cX4_goOnNumber 47 = .ok (.dup, 1) := by decide +kernel
theorem dX4_goOnNumber_48 : decode cX4_goOnNumber 48 = .ok (.getfield 31, 3) := by decide +kernel
theorem dX4_goOnNumber_51 : decode cX4_goOnNumber 51 = .ok (.iconst 1, 1) := by decide +kernel
theorem dX4_goOnNumber_52 : decode cX4_goOnNumber 52 = .ok (.iadd, 1) := by decide +kernel
theorem dX4_goOnNumber_53 : decode cX4_goOnNumber 53 = .ok (.putfield 31, 3) := by decide +kernel
theorem dX4_goOnNumber_56 : decode cX4_goOnNumber 56 = .ok (.goto (-54), 3) := by decide +kernel
theorem dX4_goOnNumber_59 : decode cX4_goOnNumber 59 = .ok (.aload_n 0, 1) := by decide +kernel
theorem dX4_goOnNumber_60 : decode cX4_goOnNumber 60 = .ok (.aload_n 0, 1) := by decide +kernel
theorem dX4_goOnNumber_61 : decode cX4_goOnNumber 61 = .ok (.getfield 31, 3) := by decide +kernel
theorem dX4_goOnNumber_64 : decode cX4_goOnNumber 64 = .ok (.aload_n 0, 1) := by decide +kernel
theorem dX4_goOnNumber_65 : decode cX4_goOnNumber 65 = .ok (.getfield 74, 3) := by decide +kernel
theorem dX4_goOnNumber_68 : decode cX4_goOnNumber 68 = .ok (.isub, 1) := by decide +kernel
theorem dX4_goOnNumber_69 : decode cX4_goOnNumber 69 = .ok (.iconst 4, 1) := by decide +kernel
theorem dX4_goOnNumber_70 : decode cX4_goOnNumber 70 = .ok (.if_icmp .le 8, 3) := by decide +kernel
theorem dX4_goOnNumber_73 : decode cX4_goOnNumber 73 = .ok (.bipush (-31), 2) := by decide +kernel
theorem dX4_goOnNumber_75 : decode cX4_goOnNumber 75 = .ok (.goto 4, 3) := by decide +kernel
theorem dX4_goOnNumber_78 : decode cX4_goOnNumber 78 = .ok (.iload_n 1, 1) := by decide +kernel
theorem dX4_goOnNumber_79 : decode cX4_goOnNumber 79 = .ok (.putfield 53, 3) := by decide +kernel
theorem dX4_goOnNumber_82 : decode cX4_goOnNumber 82 = .ok (.return_, 1) := by decide +kernel
set_option maxRecDepth 100000 in
set_option maxHeartbeats 4000000 in
theorem kX4_goOnNumber (l : Launch) (w : wT) (hw : yOk w 55) (σ : Hp)  (K : Hp → Prop) (hv : VX4_goOnNumber K σ ) : yMet l w xcf 55 yX4_goOnNumber cX4_goOnNumber 2 none 2 [.ref (w.1 38)] σ (yQv w xcf 55 K) := by
  unfold VX4_goOnNumber at hv
  refine y_start (lv0 := [(0, .ref (w.1 38))]) (by decide +kernel) (own := RX4) rfl hw (Nat.le_of_ble_eq_true rfl) rfl (fun p e s m below meth c A E => ?_)
  have hb59 : ∀ (σ : Hp) (l1 : Int32), VX4_goOnNumber_b59 K σ l1 → YY p l e (yRm 2) s m [.ref (w.1 38)].toArray below meth c w xcf 55 A (MQ below (yQv w xcf 55 K A) [.ref (w.1 38)].toArray s 0 0 A) 2 σ 59 [(0, .ref (w.1 38)), (1, .int l1)] [] := by
    intro σ l1 hv
    unfold VX4_goOnNumber_b59 at hv
    refine y_aload_n E dX4_goOnNumber_59 0 rfl ?_
    refine y_aload_n E dX4_goOnNumber_60 0 rfl ?_
    refine gf_X4_4 E (by decide) (by decide) wm_151 dX4_goOnNumber_61 ?_
    refine y_aload_n E dX4_goOnNumber_64 0 rfl ?_
    refine gf_X4_3 E (by decide) (by decide) wm_205 dX4_goOnNumber_65 ?_
    refine y_isub E dX4_goOnNumber_68 ?_
    refine y_iconst (v := 4) E dX4_goOnNumber_69 (by decide) ?_
    refine y_icmp_le (tgt := 78) E dX4_goOnNumber_70 (by decide) (fun c7 => ?_) (fun c7 => ?_)
    · replace hv := ite_t hv c7
      refine y_iload_n E dX4_goOnNumber_78 1 rfl ?_
      refine pf_X4_2 E (by decide) (by decide) wm_180 dX4_goOnNumber_79 ?_
      refine y_nmH (fun u8 hu8 => ?_)
      replace hv := hv u8 hu8
      exact y_vret E dX4_goOnNumber_82 hv
    · replace hv := ite_f hv c7
      refine y_bipush (v := (-31)) E dX4_goOnNumber_73 (by decide) ?_
      refine y_goto (tgt := 79) E dX4_goOnNumber_75 (by decide) ?_
      refine pf_X4_2 E (by decide) (by decide) wm_180 dX4_goOnNumber_79 ?_
      refine y_nmH (fun u9 hu9 => ?_)
      replace hv := hv u9 hu9
      exact y_vret E dX4_goOnNumber_82 hv
  have hL2 : ∀ (n2 : Nat) (σ : Hp) (l1 : Int32), VX4_goOnNumber_L2 K n2 σ l1 → YY p l e (yRm 2) s m [.ref (w.1 38)].toArray below meth c w xcf 55 A (MQ below (yQv w xcf 55 K A) [.ref (w.1 38)].toArray s 0 0 A) 2 σ 2 [(0, .ref (w.1 38)), (1, .int l1)] [] := by
    intro n2
    induction n2 with
    | zero => exact fun _ _ hv => (by unfold VX4_goOnNumber_L2 at hv; exact hv.elim)
    | succ n2 ih2 =>
      intro σ l1 hv
      unfold VX4_goOnNumber_L2 at hv
      refine y_aload_n E dX4_goOnNumber_2 0 rfl ?_
      refine gf_X4_4 E (by decide) (by decide) wm_151 dX4_goOnNumber_3 ?_
      refine y_aload_n E dX4_goOnNumber_6 0 rfl ?_
      refine gf_X4_1 E (by decide) (by decide) wm_146 dX4_goOnNumber_7 ?_
      refine y_icmp_ge (tgt := 59) E dX4_goOnNumber_10 (by decide) (fun c1 => ?_) (fun c1 => ?_)
      · replace hv := ite_t hv c1
        exact hb59 σ l1 hv
      · replace hv := ite_f hv c1
        refine y_aload_n E dX4_goOnNumber_13 0 rfl ?_
        refine gf_X4_0 E (by decide) (by decide) wm_147 dX4_goOnNumber_14 ?_
        refine y_aload_n E dX4_goOnNumber_17 0 rfl ?_
        refine gf_X4_4 E (by decide) (by decide) wm_151 dX4_goOnNumber_18 ?_
        obtain ⟨hi, hv⟩ := hv
        refine y_bald E (Nat.lt_of_lt_of_le (show 39 < 40 by decide) (by decide)) (xc_bytes (by decide) (by decide)) hi dX4_goOnNumber_21 ?_
        refine y_calli E (y_runS E (rest := []) (kX4_isDigit l w E.2.2.1 σ (σ 39 (σ 38 4).toNatClampNeg) _ hv) (y_cwS 1 E.1.2.2.2.2 wm_206 wm_221 wm_157 wm_222 (by decide +kernel) (yRm_le (by decide) (by decide))) rfl rfl (Nat.le_of_ble_eq_true rfl) dX4_goOnNumber_22) (fun v2 u3 hk => ?_)
        clear hv
        have hv := hk
        clear hk
        refine y_if_eq (tgt := 59) E dX4_goOnNumber_25 (by decide) (fun c4 => ?_) (fun c4 => ?_)
        · replace hv := ite_t hv c4
          exact hb59 u3 l1 hv
        · replace hv := ite_f hv c4
          refine y_bipush (v := 10) E dX4_goOnNumber_28 (by decide) ?_
          refine y_iload_n E dX4_goOnNumber_30 1 rfl ?_
          refine y_imul E dX4_goOnNumber_31 ?_
          refine y_aload_n E dX4_goOnNumber_32 0 rfl ?_
          refine gf_X4_0 E (by decide) (by decide) wm_147 dX4_goOnNumber_33 ?_
          refine y_aload_n E dX4_goOnNumber_36 0 rfl ?_
          refine gf_X4_4 E (by decide) (by decide) wm_151 dX4_goOnNumber_37 ?_
          obtain ⟨hi, hv⟩ := hv
          refine y_bald E (Nat.lt_of_lt_of_le (show 39 < 40 by decide) (by decide)) (xc_bytes (by decide) (by decide)) hi dX4_goOnNumber_40 ?_
          refine y_iadd E dX4_goOnNumber_41 ?_
          refine y_bipush (v := 48) E dX4_goOnNumber_42 (by decide) ?_
          refine y_isub E dX4_goOnNumber_44 ?_
          refine y_nmi (fun x5 hx5 => ?_)
          replace hv := hv x5 hx5
          refine y_istore_n (lv' := [(1, .int x5), (0, .ref (w.1 38))]) E dX4_goOnNumber_45 (by decide) rfl ?_
          refine y_aload_n E dX4_goOnNumber_46 1 rfl ?_
          refine y_dup E dX4_goOnNumber_47 rfl ?_
          refine gf_X4_4 E (by decide) (by decide) wm_151 dX4_goOnNumber_48 ?_
          refine y_iconst (v := 1) E dX4_goOnNumber_51 (by decide) ?_
          refine y_iadd E dX4_goOnNumber_52 ?_
          refine pf_X4_4 E (by decide) (by decide) wm_151 dX4_goOnNumber_53 ?_
          refine y_nmH (fun u6 hu6 => ?_)
          replace hv := hv u6 hu6
          refine y_goto (tgt := 2) E dX4_goOnNumber_56 (by decide) ?_
          refine y_lv (lv' := [(0, .ref (w.1 38)), (1, .int x5)]) [1, 0] rfl ?_
          exact ih2 u6 x5 hv
  refine y_iconst (v := 0) E dX4_goOnNumber_0 (by decide) ?_
  refine y_istore_n (lv' := [(1, .int 0), (0, .ref (w.1 38))]) E dX4_goOnNumber_1 (by decide) rfl ?_
  refine y_lv (lv' := [(0, .ref (w.1 38)), (1, .int 0)]) [1, 0] rfl ?_
  obtain ⟨n0, hv⟩ := hv
  exact hL2 n0 σ 0 hv
theorem dX4_isLetter_0 : decode cX4_isLetter 0 = .ok (.iload_n 0, 1) := by decide +kernel
theorem dX4_isLetter_1 : decode cX4_isLetter 1 = .ok (.bipush 97, 2) := by decide +kernel
theorem dX4_isLetter_3 : decode cX4_isLetter 3 = .ok (.if_icmp .lt 13, 3) := by decide +kernel
theorem dX4_isLetter_6 : decode cX4_isLetter 6 = .ok (.iload_n 0, 1) := by decide +kernel
theorem dX4_isLetter_7 : decode cX4_isLetter 7 = .ok (.bipush 122, 2) := by decide +kernel
theorem dX4_isLetter_9 : decode cX4_isLetter 9 = .ok (.if_icmp .gt 7, 3) := by decide +kernel
theorem dX4_isLetter_12 : decode cX4_isLetter 12 = .ok (.iconst 1, 1) := by decide +kernel
theorem dX4_isLetter_13 : decode cX4_isLetter 13 = .ok (.goto 4, 3) := by decide +kernel
theorem dX4_isLetter_16 : decode cX4_isLetter 16 = .ok (.iconst 0, 1) := by decide +kernel
theorem dX4_isLetter_17 : decode cX4_isLetter 17 = .ok (.ireturn, 1) := by decide +kernel
set_option maxRecDepth 100000 in
set_option maxHeartbeats 4000000 in
theorem kX4_isLetter (l : Launch) (w : wT) (hw : yOk w 55) (σ : Hp) (a1 : Int32) (K : Int32 → Hp → Prop) (hv : VX4_isLetter K σ a1) : yMet l w xcf 55 yX4_isLetter cX4_isLetter 1 (some .boolean) 1 [.int a1] σ (yQi w xcf 55 K) := by
  unfold VX4_isLetter at hv
  refine y_start (lv0 := [(0, .int a1)]) (by decide +kernel) (own := RX4) rfl hw (Nat.le_of_ble_eq_true rfl) rfl (fun p e s m below meth c A E => ?_)
  refine y_iload_n E dX4_isLetter_0 0 rfl ?_
  refine y_bipush (v := 97) E dX4_isLetter_1 (by decide) ?_
  refine y_icmp_lt (tgt := 16) E dX4_isLetter_3 (by decide) (fun c1 => ?_) (fun c1 => ?_)
  · replace hv := ite_t hv c1
    refine y_iconst (v := 0) E dX4_isLetter_16 (by decide) ?_
    exact y_nret E dX4_isLetter_17 (by decide) hv
  · replace hv := ite_f hv c1
    refine y_iload_n E dX4_isLetter_6 0 rfl ?_
    refine y_bipush (v := 122) E dX4_isLetter_7 (by decide) ?_
    refine y_icmp_gt (tgt := 16) E dX4_isLetter_9 (by decide) (fun c2 => ?_) (fun c2 => ?_)
    · replace hv := ite_t hv c2
      refine y_iconst (v := 0) E dX4_isLetter_16 (by decide) ?_
      exact y_nret E dX4_isLetter_17 (by decide) hv
    · replace hv := ite_f hv c2
      refine y_iconst (v := 1) E dX4_isLetter_12 (by decide) ?_
      refine y_goto (tgt := 17) E dX4_isLetter_13 (by decide) ?_
      exact y_nret E dX4_isLetter_17 (by decide) hv
theorem dX4_isWord_0 : decode cX4_isWord 0 = .ok (.aload_n 1, 1) := by decide +kernel
theorem dX4_isWord_1 : decode cX4_isWord 1 = .ok (.invokevirtual 122, 3) := by decide +kernel
theorem dX4_isWord_4 : decode cX4_isWord 4 = .ok (.aload_n 0, 1) := by decide +kernel
theorem dX4_isWord_5 : decode cX4_isWord 5 = .ok (.getfield 31, 3) := by decide +kernel
theorem dX4_isWord_8 : decode cX4_isWord 8 = .ok (.aload_n 0, 1) := by decide +kernel
theorem dX4_isWord_9 : decode cX4_isWord 9 = .ok (.getfield 74, 3) := by decide +kernel
theorem dX4_isWord_12 : decode cX4_isWord 12 = .ok (.isub, 1) := by decide +kernel
theorem dX4_isWord_13 : decode cX4_isWord 13 = .ok (.if_icmp .eq 5, 3) := by decide +kernel
theorem dX4_isWord_16 : decode cX4_isWord 16 = .ok (.iconst 0, 1) := by decide +kernel
theorem dX4_isWord_17 : decode cX4_isWord 17 = .ok (.ireturn, 1) := by decide +kernel
theorem dX4_isWord_18 : decode cX4_isWord 18 = .ok (.iconst 0, 1) := by decide +kernel
theorem dX4_isWord_19 : decode cX4_isWord 19 = .ok (.istore_n 2, 1) := by decide +kernel
theorem dX4_isWord_20 : decode cX4_isWord 20 = .ok (.iload_n 2, 1) := by decide +kernel
theorem dX4_isWord_21 : decode cX4_isWord 21 = .ok (.aload_n 1, 1) := by decide +kernel
theorem dX4_isWord_22 : decode cX4_isWord 22 = .ok (.invokevirtual 122, 3) := by decide +kernel
theorem dX4_isWord_25 : decode cX4_isWord 25 = .ok (.if_icmp .ge 30, 3) := by decide +kernel
theorem dX4_isWord_28 : decode cX4_isWord 28 = .ok (.aload_n 0, 1) := by decide +kernel
theorem dX4_isWord_29 : decode cX4_isWord 29 = .ok (.getfield 9, 3) := by decide +kernel
theorem dX4_isWord_32 : decode cX4_isWord 32 = .ok (.aload_n 0, 1) := by decide +kernel
theorem dX4_isWord_33 : decode cX4_isWord 33 = .ok (.getfield 74, 3) := by decide +kernel
theorem dX4_isWord_36 : decode cX4_isWord 36 = .ok (.iload_n 2, 1) := by decide +kernel
theorem dX4_isWord_37 : decode cX4_isWord 37 = .ok (.iadd, 1) := by decide +kernel
theorem dX4_isWord_38 : decode cX4_isWord 38 = .ok (.baload, 1) := by decide +kernel
theorem dX4_isWord_39 : decode cX4_isWord 39 = .ok (.aload_n 1, 1) := by decide +kernel
theorem dX4_isWord_40 : decode cX4_isWord 40 = .ok (.iload_n 2, 1) := by decide +kernel
theorem dX4_isWord_41 : decode cX4_isWord 41 = .ok (.invokevirtual 128, 3) := by decide +kernel
theorem dX4_isWord_44 : decode cX4_isWord 44 = .ok (.if_icmp .eq 5, 3) := by decide +kernel
theorem dX4_isWord_47 : decode cX4_isWord 47 = .ok (.iconst 0, 1) := by decide +kernel
theorem dX4_isWord_48 : decode cX4_isWord 48 = .ok (.ireturn, 1) := by decide +kernel
theorem dX4_isWord_49 : decode cX4_isWord 49 = .ok (.iinc 2 1, 3) := by decide +kernel
theorem dX4_isWord_52 : decode cX4_isWord 52 = .ok (.goto (-32), 3) := by decide +kernel
theorem dX4_isWord_55 : decode cX4_isWord 55 = .ok (.iconst 1, 1) := by decide +kernel
theorem dX4_isWord_56 : decode cX4_isWord 56 = .ok (.ireturn, 1) := by decide +kernel
set_option maxRecDepth 100000 in
set_option maxHeartbeats 4000000 in
theorem kX4_isWord (l : Launch) (w : wT) (hw : yOk w 55) (σ : Hp) (a1 : Nat) (K : Int32 → Hp → Prop) (hv : VX4_isWord K σ a1) : yMet l w xcf 55 yX4_isWord cX4_isWord 3 (some .boolean) 6 [.ref (w.1 38), .ref (w.2.2.2.1 a1)] σ (yQi w xcf 55 K) := by
  unfold VX4_isWord at hv
  refine y_start (lv0 := [(0, .ref (w.1 38)), (1, .ref (w.2.2.2.1 a1))]) (by decide +kernel) (own := RX4) rfl hw (Nat.le_of_ble_eq_true rfl) rfl (fun p e s m below meth c A E => ?_)
  obtain ⟨hsa1, hv⟩ := hv
  have hL20 : ∀ (n20 : Nat) (σ : Hp) (l2 : Int32), VX4_isWord_L20 K a1 n20 σ l2 → YY p l e (yRm 6) s m [.ref (w.1 38), .ref (w.2.2.2.1 a1)].toArray below meth c w xcf 55 A (MQ below (yQi w xcf 55 K A) [.ref (w.1 38), .ref (w.2.2.2.1 a1)].toArray s 0 0 A) 3 σ 20 [(0, .ref (w.1 38)), (1, .ref (w.2.2.2.1 a1)), (2, .int l2)] [] := by
    intro n20
    induction n20 with
    | zero => exact fun _ _ hv => (by unfold VX4_isWord_L20 at hv; exact hv.elim)
    | succ n20 ih20 =>
      intro σ l2 hv
      unfold VX4_isWord_L20 at hv
      refine y_iload_n E dX4_isWord_20 2 rfl ?_
      refine y_aload_n E dX4_isWord_21 1 rfl ?_
      refine y_calli E (rS_length E (by decide) hv wm_227 (Nat.le_of_ble_eq_true rfl) dX4_isWord_22) (fun v4 u5 hk => ?_)
      clear hv
      have hv := hk
      clear hk
      refine y_icmp_ge (tgt := 55) E dX4_isWord_25 (by decide) (fun c6 => ?_) (fun c6 => ?_)
      · replace hv := ite_t hv c6
        refine y_iconst (v := 1) E dX4_isWord_55 (by decide) ?_
        exact y_nret E dX4_isWord_56 (by decide) hv
      · replace hv := ite_f hv c6
        refine y_aload_n E dX4_isWord_28 0 rfl ?_
        refine gf_X4_0 E (by decide) (by decide) wm_147 dX4_isWord_29 ?_
        refine y_aload_n E dX4_isWord_32 0 rfl ?_
        refine gf_X4_3 E (by decide) (by decide) wm_205 dX4_isWord_33 ?_
        refine y_iload_n E dX4_isWord_36 2 rfl ?_
        refine y_iadd E dX4_isWord_37 ?_
        obtain ⟨hi, hv⟩ := hv
        refine y_bald E (Nat.lt_of_lt_of_le (show 39 < 40 by decide) (by decide)) (xc_bytes (by decide) (by decide)) hi dX4_isWord_38 ?_
        refine y_aload_n E dX4_isWord_39 1 rfl ?_
        refine y_iload_n E dX4_isWord_40 2 rfl ?_
        refine y_calli E (rS_charAt E (by decide) hv wm_228 (Nat.le_of_ble_eq_true rfl) dX4_isWord_41) (fun v7 u8 hk => ?_)
        clear hv
        have hv := hk
        clear hk
        refine y_icmp_eq (tgt := 49) E dX4_isWord_44 (by decide) (fun c9 => ?_) (fun c9 => ?_)
        · replace hv := ite_t hv c9
          obtain ⟨x10, hx10⟩ : ∃ z : Int32, z = l2 + 1 := ⟨_, rfl⟩
          replace hv := hv x10 hx10
          refine y_iinc (v := x10) (lv' := [(2, .int x10), (0, .ref (w.1 38)), (1, .ref (w.2.2.2.1 a1))]) E dX4_isWord_49 2 rfl (by rw [hx10]; rfl) (by decide) rfl ?_
          refine y_goto (tgt := 20) E dX4_isWord_52 (by decide) ?_
          refine y_lv (lv' := [(0, .ref (w.1 38)), (1, .ref (w.2.2.2.1 a1)), (2, .int x10)]) [1, 2, 0] rfl ?_
          exact ih20 u8 x10 hv
        · replace hv := ite_f hv c9
          refine y_iconst (v := 0) E dX4_isWord_47 (by decide) ?_
          exact y_nret E dX4_isWord_48 (by decide) hv
  refine y_aload_n E dX4_isWord_0 1 rfl ?_
  refine y_calli E (rS_length E (by decide) hv wm_227 (Nat.le_of_ble_eq_true rfl) dX4_isWord_1) (fun v1 u2 hk => ?_)
  clear hv
  have hv := hk
  clear hk
  refine y_aload_n E dX4_isWord_4 0 rfl ?_
  refine gf_X4_4 E (by decide) (by decide) wm_151 dX4_isWord_5 ?_
  refine y_aload_n E dX4_isWord_8 0 rfl ?_
  refine gf_X4_3 E (by decide) (by decide) wm_205 dX4_isWord_9 ?_
  refine y_isub E dX4_isWord_12 ?_
  refine y_icmp_eq (tgt := 18) E dX4_isWord_13 (by decide) (fun c3 => ?_) (fun c3 => ?_)
  · replace hv := ite_t hv c3
    refine y_iconst (v := 0) E dX4_isWord_18 (by decide) ?_
    refine y_istore_n (lv' := [(2, .int 0), (0, .ref (w.1 38)), (1, .ref (w.2.2.2.1 a1))]) E dX4_isWord_19 (by decide) rfl ?_
    refine y_lv (lv' := [(0, .ref (w.1 38)), (1, .ref (w.2.2.2.1 a1)), (2, .int 0)]) [1, 2, 0] rfl ?_
    obtain ⟨n0, hv⟩ := hv
    exact hL20 n0 u2 0 hv
  · replace hv := ite_f hv c3
    refine y_iconst (v := 0) E dX4_isWord_16 (by decide) ?_
    exact y_nret E dX4_isWord_17 (by decide) hv
theorem dX4_goOnWord_0 : decode cX4_goOnWord 0 = .ok (.aload_n 0, 1) := by decide +kernel
theorem dX4_goOnWord_1 : decode cX4_goOnWord 1 = .ok (.getfield 31, 3) := by decide +kernel
theorem dX4_goOnWord_4 : decode cX4_goOnWord 4 = .ok (.aload_n 0, 1) := by decide +kernel
theorem dX4_goOnWord_5 : decode cX4_goOnWord 5 = .ok (.getfield 15, 3) := by decide +kernel
theorem dX4_goOnWord_8 : decode cX4_goOnWord 8 = .ok (.if_icmp .ge 31, 3) := by decide +kernel
theorem dX4_goOnWord_11 : decode cX4_goOnWord 11 = .ok (.aload_n 0, 1) := by decide +kernel
theorem dX4_goOnWord_12 : decode cX4_goOnWord 12 = .ok (.getfield 9, 3) := by decide +kernel
theorem dX4_goOnWord_15 : decode cX4_goOnWord 15 = .ok (.aload_n 0, 1) := by decide +kernel
theorem dX4_goOnWord_16 : decode cX4_goOnWord 16 = .ok (.getfield 31, 3) := by decide +kernel
theorem dX4_goOnWord_19 : decode cX4_goOnWord 19 = .ok (.baload, 1) := by decide +kernel
theorem dX4_goOnWord_20 : decode cX4_goOnWord 20 = .ok (.invokestatic 84, 3) := by decide +kernel
theorem dX4_goOnWord_23 : decode cX4_goOnWord 23 = .ok (.ifCond .eq 16, 3) := by decide +kernel
theorem dX4_goOnWord_26 : decode cX4_goOnWord 26 = .ok (.aload_n 0, 1) := by decide +kernel
theorem dX4_goOnWord_27 : decode cX4_goOnWord 27 = .ok (.dup, 1) := by decide +kernel
theorem dX4_goOnWord_28 : decode cX4_goOnWord 28 = .ok (.getfield 31, 3) := by decide +kernel
theorem dX4_goOnWord_31 : decode cX4_goOnWord 31 = .ok (.iconst 1, 1) := by decide +kernel
theorem dX4_goOnWord_32 : decode cX4_goOnWord 32 = .ok (.iadd, 1) := by decide +kernel
theorem dX4_goOnWord_33 : decode cX4_goOnWord 33 = .ok (.putfield 31, 3) := by decide +kernel
theorem dX4_goOnWord_36 : decode cX4_goOnWord 36 = .ok (.goto (-36), 3) := by decide +kernel
theorem dX4_goOnWord_39 : decode cX4_goOnWord 39 = .ok (.aload_n 0, 1) := by decide +kernel
theorem dX4_goOnWord_40 : decode cX4_goOnWord 40 = .ok (.aload_n 0, 1) := by decide +kernel
theorem dX4_goOnWord_41 : decode cX4_goOnWord 41 = .ok (.ldc 94, 2) := by decide +kernel
theorem dX4_goOnWord_43 : decode cX4_goOnWord 43 = .ok (.invokevirtual 96, 3) := by decide +kernel
theorem dX4_goOnWord_46 : decode cX4_goOnWord 46 = .ok (.ifCond .eq 7, 3) := by decide +kernel
theorem dX4_goOnWord_49 : decode cX4_goOnWord 49 = .ok (.iconst (-1), 1) := by decide +kernel
theorem dX4_goOnWord_50 : decode cX4_goOnWord 50 = .ok (.goto 159, 3) := by decide +kernel
theorem dX4_goOnWord_53 : decode cX4_goOnWord 53 = .ok (.aload_n 0, 1) := by decide +kernel
theorem dX4_goOnWord_54 : decode cX4_goOnWord 54 = .ok (.ldc 100, 2) := by decide +kernel
theorem dX4_goOnWord_56 : decode cX4_goOnWord 56 = .ok (.invokevirtual 96, 3) := by decide +kernel
theorem dX4_goOnWord_59 : decode cX4_goOnWord 59 = .ok (.ifCond .eq 8, 3) := by decide +kernel
theorem dX4_goOnWord_62 : decode cX4_goOnWord 62 = .ok (.bipush (-2), 2) := by decide +kernel
theorem dX4_goOnWord_64 : decode cX4_goOnWord 64 = .ok (.goto 145, 3) := by decide +kernel
theorem dX4_goOnWord_67 : decode cX4_goOnWord 67 = .ok (.aload_n 0, 1) := by decide +kernel
theorem dX4_goOnWord_68 : decode cX4_goOnWord 68 = .ok (.ldc 102, 2) := by decide +kernel
theorem dX4_goOnWord_70 : decode cX4_goOnWord 70 = .ok (.invokevirtual 96, 3) := by decide +kernel
theorem dX4_goOnWord_73 : decode cX4_goOnWord 73 = .ok (.ifCond .eq 8, 3) := by decide +kernel
theorem dX4_goOnWord_76 : decode cX4_goOnWord 76 = .ok (.bipush (-3), 2) := by decide +kernel
theorem dX4_goOnWord_78 : decode cX4_goOnWord 78 = .ok (.goto 131, 3) := by decide +kernel
theorem dX4_goOnWord_81 : decode cX4_goOnWord 81 = .ok (.aload_n 0, 1) := by decide +kernel
theorem dX4_goOnWord_82 : decode cX4_goOnWord 82 = .ok (.ldc 104, 2) := by decide +kernel
theorem dX4_goOnWord_84 : decode cX4_goOnWord 84 = .ok (.invokevirtual 96, 3) := by decide +kernel
theorem dX4_goOnWord_87 : decode cX4_goOnWord 87 = .ok (.ifCond .eq 8, 3) := by decide +kernel
theorem dX4_goOnWord_90 : decode cX4_goOnWord 90 = .ok (.bipush (-4), 2) := by decide +kernel
theorem dX4_goOnWord_92 : decode cX4_goOnWord 92 = .ok (.goto 117, 3) := by decide +kernel
theorem dX4_goOnWord_95 : decode cX4_goOnWord 95 = .ok (.aload_n 0, 1) := by decide +kernel
theorem dX4_goOnWord_96 : decode cX4_goOnWord 96 = .ok (.ldc 106, 2) := by decide +kernel
theorem dX4_goOnWord_98 : decode cX4_goOnWord 98 = .ok (.invokevirtual 96, 3) := by decide +kernel
theorem dX4_goOnWord_101 : decode cX4_goOnWord 101 = .ok (.ifCond .eq 8, 3) := by decide +kernel
theorem dX4_goOnWord_104 : decode cX4_goOnWord 104 = .ok (.bipush (-5), 2) := by decide +kernel
theorem dX4_goOnWord_106 : decode cX4_goOnWord 106 = .ok (.goto 103, 3) := by decide +kernel
theorem dX4_goOnWord_109 : decode cX4_goOnWord 109 = .ok (.aload_n 0, 1) := by decide +kernel
theorem dX4_goOnWord_110 : decode cX4_goOnWord 110 = .ok (.ldc 108, 2) := by decide +kernel
theorem dX4_goOnWord_112 : decode cX4_goOnWord 112 = .ok (.invokevirtual 96, 3) := by decide +kernel
theorem dX4_goOnWord_115 : decode cX4_goOnWord 115 = .ok (.ifCond .eq 8, 3) := by decide +kernel
theorem dX4_goOnWord_118 : decode cX4_goOnWord 118 = .ok (.bipush (-6), 2) := by decide +kernel
theorem dX4_goOnWord_120 : decode cX4_goOnWord 120 = .ok (.goto 89, 3) := by decide +kernel
theorem dX4_goOnWord_123 : decode cX4_goOnWord 123 = .ok (.aload_n 0, 1) := by decide +kernel
theorem dX4_goOnWord_124 : decode cX4_goOnWord 124 = .ok (.ldc 110, 2) := by decide +kernel
theorem dX4_goOnWord_126 : decode cX4_goOnWord 126 = .ok (.invokevirtual 96, 3) := by decide +kernel
theorem dX4_goOnWord_129 : decode cX4_goOnWord 129 = .ok (.ifCond .eq 8, 3) := by decide +kernel
theorem dX4_goOnWord_132 : decode cX4_goOnWord 132 = .ok (.bipush (-15), 2) := by decide +kernel
theorem dX4_goOnWord_134 : decode cX4_goOnWord 134 = .ok (.goto 75, 3) := by decide +kernel
theorem dX4_goOnWord_137 : decode cX4_goOnWord 137 = .ok (.aload_n 0, 1) := by decide +kernel
theorem dX4_goOnWord_138 : decode cX4_goOnWord 138 = .ok (.ldc 112, 2) := by decide +kernel
theorem dX4_goOnWord_140 : decode cX4_goOnWord 140 = .ok (.invokevirtual 96, 3) := by decide +kernel
theorem dX4_goOnWord_143 : decode cX4_goOnWord 143 = .ok (.ifCond .eq 8, 3) := by decide +kernel
theorem dX4_goOnWord_146 : decode cX4_goOnWord 146 = .ok (.bipush (-14), 2) := by decide +kernel
theorem dX4_goOnWord_148 : decode cX4_goOnWord 148 = .ok (.goto 61, 3) := by decide +kernel
theorem dX4_goOnWord_151 : decode cX4_goOnWord 151 = .ok (.aload_n 0, 1) := by decide +kernel
theorem dX4_goOnWord_152 : decode cX4_goOnWord 152 = .ok (.ldc 114, 2) := by decide +kernel
theorem dX4_goOnWord_154 : decode cX4_goOnWord 154 = .ok (.invokevirtual 96, 3) := by decide +kernel
theorem dX4_goOnWord_157 : decode cX4_goOnWord 157 = .ok (.ifCond .eq 8, 3) := by decide +kernel
theorem dX4_goOnWord_160 : decode cX4_goOnWord 160 = .ok (.bipush (-7), 2) := by decide +kernel
theorem dX4_goOnWord_162 : decode cX4_goOnWord 162 = .ok (.goto 47, 3) := by decide +kernel
theorem dX4_goOnWord_165 : decode cX4_goOnWord 165 = .ok (.aload_n 0, 1) := by decide +kernel
theorem dX4_goOnWord_166 : decode cX4_goOnWord 166 = .ok (.ldc 116, 2) := by decide +kernel
theorem dX4_goOnWord_168 : decode cX4_goOnWord 168 = .ok (.invokevirtual 96, 3) := by decide +kernel
theorem dX4_goOnWord_171 : decode cX4_goOnWord 171 = .ok (.ifCond .eq 8, 3) := by decide +kernel
theorem dX4_goOnWord_174 : decode cX4_goOnWord 174 = .ok (.bipush (-23), 2) := by decide +kernel
theorem dX4_goOnWord_176 : decode cX4_goOnWord 176 = .ok (.goto 33, 3) := by decide +kernel
theorem dX4_goOnWord_179 : decode cX4_goOnWord 179 = .ok (.aload_n 0, 1) := by decide +kernel
theorem dX4_goOnWord_180 : decode cX4_goOnWord 180 = .ok (.ldc 118, 2) := by decide +kernel
theorem dX4_goOnWord_182 : decode cX4_goOnWord 182 = .ok (.invokevirtual 96, 3) := by decide +kernel
theorem dX4_goOnWord_185 : decode cX4_goOnWord 185 = .ok (.ifCond .eq 8, 3) := by decide +kernel
theorem dX4_goOnWord_188 : decode cX4_goOnWord 188 = .ok (.bipush (-24), 2) := by decide +kernel
theorem dX4_goOnWord_190 : decode cX4_goOnWord 190 = .ok (.goto 19, 3) := by decide +kernel
theorem dX4_goOnWord_193 : decode cX4_goOnWord 193 = .ok (.aload_n 0, 1) := by decide +kernel
theorem dX4_goOnWord_194 : decode cX4_goOnWord 194 = .ok (.ldc 120, 2) := by decide +kernel
theorem dX4_goOnWord_196 : decode cX4_goOnWord 196 = .ok (.invokevirtual 96, 3) := by decide +kernel
theorem dX4_goOnWord_199 : decode cX4_goOnWord 199 = .ok (.ifCond .eq 8, 3) := by decide +kernel
theorem dX4_goOnWord_202 : decode cX4_goOnWord 202 = .ok (.bipush (-25), 2) := by decide +kernel
theorem dX4_goOnWord_204 : decode cX4_goOnWord 204 = .ok (.goto 5, 3) := by decide +kernel
theorem dX4_goOnWord_207 : decode cX4_goOnWord 207 = .ok (.bipush (-31), 2) := by decide +kernel
theorem dX4_goOnWord_209 : decode cX4_goOnWord 209 = .ok (.putfield 53, 3) := by decide +kernel
theorem dX4_goOnWord_212 : decode cX4_goOnWord 212 = .ok (.return_, 1) := by decide +kernel
set_option maxRecDepth 100000 in
set_option maxHeartbeats 4000000 in
theorem kX4_goOnWord (l : Launch) (w : wT) (hw : yOk w 55) (σ : Hp)  (K : Hp → Prop) (hv : VX4_goOnWord K σ ) : yMet l w xcf 55 yX4_goOnWord cX4_goOnWord 1 none 7 [.ref (w.1 38)] σ (yQv w xcf 55 K) := by
  unfold VX4_goOnWord at hv
  refine y_start (lv0 := [(0, .ref (w.1 38))]) (by decide +kernel) (own := RX4) rfl hw (Nat.le_of_ble_eq_true rfl) rfl (fun p e s m below meth c A E => ?_)
  have hb39 : ∀ (σ : Hp), VX4_goOnWord_b39 K σ → YY p l e (yRm 7) s m [.ref (w.1 38)].toArray below meth c w xcf 55 A (MQ below (yQv w xcf 55 K A) [.ref (w.1 38)].toArray s 0 0 A) 1 σ 39 [(0, .ref (w.1 38))] [] := by
    intro σ hv
    unfold VX4_goOnWord_b39 at hv
    refine y_aload_n E dX4_goOnWord_39 0 rfl ?_
    refine y_aload_n E dX4_goOnWord_40 0 rfl ?_
    refine y_ldcS E 0 (by decide) (by decide) dX4_goOnWord_41 ?_
    refine y_calli E (y_runV E (rest := [.ref (w.1 38)]) (kX4_isWord l w E.2.2.1 σ 0 _ hv) (y_cwV 1 E.1.2.2.2.2 wm_223 wm_224 wm_225 wm_157 wm_226 (by decide +kernel) (yRm_le (by decide) (by decide))) (Nat.lt_of_lt_of_le (show 38 < 39 by decide) (by decide)) (xc_X4 (by decide) (by decide)) rfl rfl rfl (Nat.le_of_ble_eq_true rfl) dX4_goOnWord_43) (fun v6 u7 hk => ?_)
    clear hv
    have hv := hk
    clear hk
    refine y_if_eq (tgt := 53) E dX4_goOnWord_46 (by decide) (fun c8 => ?_) (fun c8 => ?_)
    · replace hv := ite_t hv c8
      refine y_aload_n E dX4_goOnWord_53 0 rfl ?_
      refine y_ldcS E 1 (by decide) (by decide) dX4_goOnWord_54 ?_
      refine y_calli E (y_runV E (rest := [.ref (w.1 38)]) (kX4_isWord l w E.2.2.1 u7 1 _ hv) (y_cwV 1 E.1.2.2.2.2 wm_223 wm_224 wm_225 wm_157 wm_226 (by decide +kernel) (yRm_le (by decide) (by decide))) (Nat.lt_of_lt_of_le (show 38 < 39 by decide) (by decide)) (xc_X4 (by decide) (by decide)) rfl rfl rfl (Nat.le_of_ble_eq_true rfl) dX4_goOnWord_56) (fun v9 u10 hk => ?_)
      clear hv
      have hv := hk
      clear hk
      refine y_if_eq (tgt := 67) E dX4_goOnWord_59 (by decide) (fun c11 => ?_) (fun c11 => ?_)
      · replace hv := ite_t hv c11
        refine y_aload_n E dX4_goOnWord_67 0 rfl ?_
        refine y_ldcS E 2 (by decide) (by decide) dX4_goOnWord_68 ?_
        refine y_calli E (y_runV E (rest := [.ref (w.1 38)]) (kX4_isWord l w E.2.2.1 u10 2 _ hv) (y_cwV 1 E.1.2.2.2.2 wm_223 wm_224 wm_225 wm_157 wm_226 (by decide +kernel) (yRm_le (by decide) (by decide))) (Nat.lt_of_lt_of_le (show 38 < 39 by decide) (by decide)) (xc_X4 (by decide) (by decide)) rfl rfl rfl (Nat.le_of_ble_eq_true rfl) dX4_goOnWord_70) (fun v12 u13 hk => ?_)
        clear hv
        have hv := hk
        clear hk
        refine y_if_eq (tgt := 81) E dX4_goOnWord_73 (by decide) (fun c14 => ?_) (fun c14 => ?_)
        · replace hv := ite_t hv c14
          refine y_aload_n E dX4_goOnWord_81 0 rfl ?_
          refine y_ldcS E 3 (by decide) (by decide) dX4_goOnWord_82 ?_
          refine y_calli E (y_runV E (rest := [.ref (w.1 38)]) (kX4_isWord l w E.2.2.1 u13 3 _ hv) (y_cwV 1 E.1.2.2.2.2 wm_223 wm_224 wm_225 wm_157 wm_226 (by decide +kernel) (yRm_le (by decide) (by decide))) (Nat.lt_of_lt_of_le (show 38 < 39 by decide) (by decide)) (xc_X4 (by decide) (by decide)) rfl rfl rfl (Nat.le_of_ble_eq_true rfl) dX4_goOnWord_84) (fun v15 u16 hk => ?_)
          clear hv
          have hv := hk
          clear hk
          refine y_if_eq (tgt := 95) E dX4_goOnWord_87 (by decide) (fun c17 => ?_) (fun c17 => ?_)
          · replace hv := ite_t hv c17
            refine y_aload_n E dX4_goOnWord_95 0 rfl ?_
            refine y_ldcS E 4 (by decide) (by decide) dX4_goOnWord_96 ?_
            refine y_calli E (y_runV E (rest := [.ref (w.1 38)]) (kX4_isWord l w E.2.2.1 u16 4 _ hv) (y_cwV 1 E.1.2.2.2.2 wm_223 wm_224 wm_225 wm_157 wm_226 (by decide +kernel) (yRm_le (by decide) (by decide))) (Nat.lt_of_lt_of_le (show 38 < 39 by decide) (by decide)) (xc_X4 (by decide) (by decide)) rfl rfl rfl (Nat.le_of_ble_eq_true rfl) dX4_goOnWord_98) (fun v18 u19 hk => ?_)
            clear hv
            have hv := hk
            clear hk
            refine y_if_eq (tgt := 109) E dX4_goOnWord_101 (by decide) (fun c20 => ?_) (fun c20 => ?_)
            · replace hv := ite_t hv c20
              refine y_aload_n E dX4_goOnWord_109 0 rfl ?_
              refine y_ldcS E 5 (by decide) (by decide) dX4_goOnWord_110 ?_
              refine y_calli E (y_runV E (rest := [.ref (w.1 38)]) (kX4_isWord l w E.2.2.1 u19 5 _ hv) (y_cwV 1 E.1.2.2.2.2 wm_223 wm_224 wm_225 wm_157 wm_226 (by decide +kernel) (yRm_le (by decide) (by decide))) (Nat.lt_of_lt_of_le (show 38 < 39 by decide) (by decide)) (xc_X4 (by decide) (by decide)) rfl rfl rfl (Nat.le_of_ble_eq_true rfl) dX4_goOnWord_112) (fun v21 u22 hk => ?_)
              clear hv
              have hv := hk
              clear hk
              refine y_if_eq (tgt := 123) E dX4_goOnWord_115 (by decide) (fun c23 => ?_) (fun c23 => ?_)
              · replace hv := ite_t hv c23
                refine y_aload_n E dX4_goOnWord_123 0 rfl ?_
                refine y_ldcS E 6 (by decide) (by decide) dX4_goOnWord_124 ?_
                refine y_calli E (y_runV E (rest := [.ref (w.1 38)]) (kX4_isWord l w E.2.2.1 u22 6 _ hv) (y_cwV 1 E.1.2.2.2.2 wm_223 wm_224 wm_225 wm_157 wm_226 (by decide +kernel) (yRm_le (by decide) (by decide))) (Nat.lt_of_lt_of_le (show 38 < 39 by decide) (by decide)) (xc_X4 (by decide) (by decide)) rfl rfl rfl (Nat.le_of_ble_eq_true rfl) dX4_goOnWord_126) (fun v24 u25 hk => ?_)
                clear hv
                have hv := hk
                clear hk
                refine y_if_eq (tgt := 137) E dX4_goOnWord_129 (by decide) (fun c26 => ?_) (fun c26 => ?_)
                · replace hv := ite_t hv c26
                  refine y_aload_n E dX4_goOnWord_137 0 rfl ?_
                  refine y_ldcS E 7 (by decide) (by decide) dX4_goOnWord_138 ?_
                  refine y_calli E (y_runV E (rest := [.ref (w.1 38)]) (kX4_isWord l w E.2.2.1 u25 7 _ hv) (y_cwV 1 E.1.2.2.2.2 wm_223 wm_224 wm_225 wm_157 wm_226 (by decide +kernel) (yRm_le (by decide) (by decide))) (Nat.lt_of_lt_of_le (show 38 < 39 by decide) (by decide)) (xc_X4 (by decide) (by decide)) rfl rfl rfl (Nat.le_of_ble_eq_true rfl) dX4_goOnWord_140) (fun v27 u28 hk => ?_)
                  clear hv
                  have hv := hk
                  clear hk
                  refine y_if_eq (tgt := 151) E dX4_goOnWord_143 (by decide) (fun c29 => ?_) (fun c29 => ?_)
                  · replace hv := ite_t hv c29
                    refine y_aload_n E dX4_goOnWord_151 0 rfl ?_
                    refine y_ldcS E 8 (by decide) (by decide) dX4_goOnWord_152 ?_
                    refine y_calli E (y_runV E (rest := [.ref (w.1 38)]) (kX4_isWord l w E.2.2.1 u28 8 _ hv) (y_cwV 1 E.1.2.2.2.2 wm_223 wm_224 wm_225 wm_157 wm_226 (by decide +kernel) (yRm_le (by decide) (by decide))) (Nat.lt_of_lt_of_le (show 38 < 39 by decide) (by decide)) (xc_X4 (by decide) (by decide)) rfl rfl rfl (Nat.le_of_ble_eq_true rfl) dX4_goOnWord_154) (fun v30 u31 hk => ?_)
                    clear hv
                    have hv := hk
                    clear hk
                    refine y_if_eq (tgt := 165) E dX4_goOnWord_157 (by decide) (fun c32 => ?_) (fun c32 => ?_)
                    · replace hv := ite_t hv c32
                      refine y_aload_n E dX4_goOnWord_165 0 rfl ?_
                      refine y_ldcS E 9 (by decide) (by decide) dX4_goOnWord_166 ?_
                      refine y_calli E (y_runV E (rest := [.ref (w.1 38)]) (kX4_isWord l w E.2.2.1 u31 9 _ hv) (y_cwV 1 E.1.2.2.2.2 wm_223 wm_224 wm_225 wm_157 wm_226 (by decide +kernel) (yRm_le (by decide) (by decide))) (Nat.lt_of_lt_of_le (show 38 < 39 by decide) (by decide)) (xc_X4 (by decide) (by decide)) rfl rfl rfl (Nat.le_of_ble_eq_true rfl) dX4_goOnWord_168) (fun v33 u34 hk => ?_)
                      clear hv
                      have hv := hk
                      clear hk
                      refine y_if_eq (tgt := 179) E dX4_goOnWord_171 (by decide) (fun c35 => ?_) (fun c35 => ?_)
                      · replace hv := ite_t hv c35
                        refine y_aload_n E dX4_goOnWord_179 0 rfl ?_
                        refine y_ldcS E 10 (by decide) (by decide) dX4_goOnWord_180 ?_
                        refine y_calli E (y_runV E (rest := [.ref (w.1 38)]) (kX4_isWord l w E.2.2.1 u34 10 _ hv) (y_cwV 1 E.1.2.2.2.2 wm_223 wm_224 wm_225 wm_157 wm_226 (by decide +kernel) (yRm_le (by decide) (by decide))) (Nat.lt_of_lt_of_le (show 38 < 39 by decide) (by decide)) (xc_X4 (by decide) (by decide)) rfl rfl rfl (Nat.le_of_ble_eq_true rfl) dX4_goOnWord_182) (fun v36 u37 hk => ?_)
                        clear hv
                        have hv := hk
                        clear hk
                        refine y_if_eq (tgt := 193) E dX4_goOnWord_185 (by decide) (fun c38 => ?_) (fun c38 => ?_)
                        · replace hv := ite_t hv c38
                          refine y_aload_n E dX4_goOnWord_193 0 rfl ?_
                          refine y_ldcS E 11 (by decide) (by decide) dX4_goOnWord_194 ?_
                          refine y_calli E (y_runV E (rest := [.ref (w.1 38)]) (kX4_isWord l w E.2.2.1 u37 11 _ hv) (y_cwV 1 E.1.2.2.2.2 wm_223 wm_224 wm_225 wm_157 wm_226 (by decide +kernel) (yRm_le (by decide) (by decide))) (Nat.lt_of_lt_of_le (show 38 < 39 by decide) (by decide)) (xc_X4 (by decide) (by decide)) rfl rfl rfl (Nat.le_of_ble_eq_true rfl) dX4_goOnWord_196) (fun v39 u40 hk => ?_)
                          clear hv
                          have hv := hk
                          clear hk
                          refine y_if_eq (tgt := 207) E dX4_goOnWord_199 (by decide) (fun c41 => ?_) (fun c41 => ?_)
                          · replace hv := ite_t hv c41
                            refine y_bipush (v := (-31)) E dX4_goOnWord_207 (by decide) ?_
                            refine pf_X4_2 E (by decide) (by decide) wm_180 dX4_goOnWord_209 ?_
                            refine y_nmH (fun u42 hu42 => ?_)
                            replace hv := hv u42 hu42
                            exact y_vret E dX4_goOnWord_212 hv
                          · replace hv := ite_f hv c41
                            refine y_bipush (v := (-25)) E dX4_goOnWord_202 (by decide) ?_
                            refine y_goto (tgt := 209) E dX4_goOnWord_204 (by decide) ?_
                            refine pf_X4_2 E (by decide) (by decide) wm_180 dX4_goOnWord_209 ?_
                            refine y_nmH (fun u43 hu43 => ?_)
                            replace hv := hv u43 hu43
                            exact y_vret E dX4_goOnWord_212 hv
                        · replace hv := ite_f hv c38
                          refine y_bipush (v := (-24)) E dX4_goOnWord_188 (by decide) ?_
                          refine y_goto (tgt := 209) E dX4_goOnWord_190 (by decide) ?_
                          refine pf_X4_2 E (by decide) (by decide) wm_180 dX4_goOnWord_209 ?_
                          refine y_nmH (fun u44 hu44 => ?_)
                          replace hv := hv u44 hu44
                          exact y_vret E dX4_goOnWord_212 hv
                      · replace hv := ite_f hv c35
                        refine y_bipush (v := (-23)) E dX4_goOnWord_174 (by decide) ?_
                        refine y_goto (tgt := 209) E dX4_goOnWord_176 (by decide) ?_
                        refine pf_X4_2 E (by decide) (by decide) wm_180 dX4_goOnWord_209 ?_
                        refine y_nmH (fun u45 hu45 => ?_)
                        replace hv := hv u45 hu45
                        exact y_vret E dX4_goOnWord_212 hv
                    · replace hv := ite_f hv c32
                      refine y_bipush (v := (-7)) E dX4_goOnWord_160 (by decide) ?_
                      refine y_goto (tgt := 209) E dX4_goOnWord_162 (by decide) ?_
                      refine pf_X4_2 E (by decide) (by decide) wm_180 dX4_goOnWord_209 ?_
                      refine y_nmH (fun u46 hu46 => ?_)
                      replace hv := hv u46 hu46
                      exact y_vret E dX4_goOnWord_212 hv
                  · replace hv := ite_f hv c29
                    refine y_bipush (v := (-14)) E dX4_goOnWord_146 (by decide) ?_
                    refine y_goto (tgt := 209) E dX4_goOnWord_148 (by decide) ?_
                    refine pf_X4_2 E (by decide) (by decide) wm_180 dX4_goOnWord_209 ?_
                    refine y_nmH (fun u47 hu47 => ?_)
                    replace hv := hv u47 hu47
                    exact y_vret E dX4_goOnWord_212 hv
                · replace hv := ite_f hv c26
                  refine y_bipush (v := (-15)) E dX4_goOnWord_132 (by decide) ?_
                  refine y_goto (tgt := 209) E dX4_goOnWord_134 (by decide) ?_
                  refine pf_X4_2 E (by decide) (by decide) wm_180 dX4_goOnWord_209 ?_
                  refine y_nmH (fun u48 hu48 => ?_)
                  replace hv := hv u48 hu48
                  exact y_vret E dX4_goOnWord_212 hv
              · replace hv := ite_f hv c23
                refine y_bipush (v := (-6)) E dX4_goOnWord_118 (by decide) ?_
                refine y_goto (tgt := 209) E dX4_goOnWord_120 (by decide) ?_
                refine pf_X4_2 E (by decide) (by decide) wm_180 dX4_goOnWord_209 ?_
                refine y_nmH (fun u49 hu49 => ?_)
                replace hv := hv u49 hu49
                exact y_vret E dX4_goOnWord_212 hv
            · replace hv := ite_f hv c20
              refine y_bipush (v := (-5)) E dX4_goOnWord_104 (by decide) ?_
              refine y_goto (tgt := 209) E dX4_goOnWord_106 (by decide) ?_
              refine pf_X4_2 E (by decide) (by decide) wm_180 dX4_goOnWord_209 ?_
              refine y_nmH (fun u50 hu50 => ?_)
              replace hv := hv u50 hu50
              exact y_vret E dX4_goOnWord_212 hv
          · replace hv := ite_f hv c17
            refine y_bipush (v := (-4)) E dX4_goOnWord_90 (by decide) ?_
            refine y_goto (tgt := 209) E dX4_goOnWord_92 (by decide) ?_
            refine pf_X4_2 E (by decide) (by decide) wm_180 dX4_goOnWord_209 ?_
            refine y_nmH (fun u51 hu51 => ?_)
            replace hv := hv u51 hu51
            exact y_vret E dX4_goOnWord_212 hv
        · replace hv := ite_f hv c14
          refine y_bipush (v := (-3)) E dX4_goOnWord_76 (by decide) ?_
          refine y_goto (tgt := 209) E dX4_goOnWord_78 (by decide) ?_
          refine pf_X4_2 E (by decide) (by decide) wm_180 dX4_goOnWord_209 ?_
          refine y_nmH (fun u52 hu52 => ?_)
          replace hv := hv u52 hu52
          exact y_vret E dX4_goOnWord_212 hv
      · replace hv := ite_f hv c11
        refine y_bipush (v := (-2)) E dX4_goOnWord_62 (by decide) ?_
        refine y_goto (tgt := 209) E dX4_goOnWord_64 (by decide) ?_
        refine pf_X4_2 E (by decide) (by decide) wm_180 dX4_goOnWord_209 ?_
        refine y_nmH (fun u53 hu53 => ?_)
        replace hv := hv u53 hu53
        exact y_vret E dX4_goOnWord_212 hv
    · replace hv := ite_f hv c8
      refine y_iconst (v := (-1)) E dX4_goOnWord_49 (by decide) ?_
      refine y_goto (tgt := 209) E dX4_goOnWord_50 (by decide) ?_
      refine pf_X4_2 E (by decide) (by decide) wm_180 dX4_goOnWord_209 ?_
      refine y_nmH (fun u54 hu54 => ?_)
      replace hv := hv u54 hu54
      exact y_vret E dX4_goOnWord_212 hv
  have hL0 : ∀ (n0 : Nat) (σ : Hp), VX4_goOnWord_L0 K n0 σ → YY p l e (yRm 7) s m [.ref (w.1 38)].toArray below meth c w xcf 55 A (MQ below (yQv w xcf 55 K A) [.ref (w.1 38)].toArray s 0 0 A) 1 σ 0 [(0, .ref (w.1 38))] [] := by
    intro n0
    induction n0 with
    | zero => exact fun _ hv => (by unfold VX4_goOnWord_L0 at hv; exact hv.elim)
    | succ n0 ih0 =>
      intro σ hv
      unfold VX4_goOnWord_L0 at hv
      refine y_aload_n E dX4_goOnWord_0 0 rfl ?_
      refine gf_X4_4 E (by decide) (by decide) wm_151 dX4_goOnWord_1 ?_
      refine y_aload_n E dX4_goOnWord_4 0 rfl ?_
      refine gf_X4_1 E (by decide) (by decide) wm_146 dX4_goOnWord_5 ?_
      refine y_icmp_ge (tgt := 39) E dX4_goOnWord_8 (by decide) (fun c1 => ?_) (fun c1 => ?_)
      · replace hv := ite_t hv c1
        exact hb39 σ hv
      · replace hv := ite_f hv c1
        refine y_aload_n E dX4_goOnWord_11 0 rfl ?_
        refine gf_X4_0 E (by decide) (by decide) wm_147 dX4_goOnWord_12 ?_
        refine y_aload_n E dX4_goOnWord_15 0 rfl ?_
        refine gf_X4_4 E (by decide) (by decide) wm_151 dX4_goOnWord_16 ?_
        obtain ⟨hi, hv⟩ := hv
        refine y_bald E (Nat.lt_of_lt_of_le (show 39 < 40 by decide) (by decide)) (xc_bytes (by decide) (by decide)) hi dX4_goOnWord_19 ?_
        refine y_calli E (y_runS E (rest := []) (kX4_isLetter l w E.2.2.1 σ (σ 39 (σ 38 4).toNatClampNeg) _ hv) (y_cwS 1 E.1.2.2.2.2 wm_207 wm_215 wm_157 wm_216 (by decide +kernel) (yRm_le (by decide) (by decide))) rfl rfl (Nat.le_of_ble_eq_true rfl) dX4_goOnWord_20) (fun v2 u3 hk => ?_)
        clear hv
        have hv := hk
        clear hk
        refine y_if_eq (tgt := 39) E dX4_goOnWord_23 (by decide) (fun c4 => ?_) (fun c4 => ?_)
        · replace hv := ite_t hv c4
          exact hb39 u3 hv
        · replace hv := ite_f hv c4
          refine y_aload_n E dX4_goOnWord_26 0 rfl ?_
          refine y_dup E dX4_goOnWord_27 rfl ?_
          refine gf_X4_4 E (by decide) (by decide) wm_151 dX4_goOnWord_28 ?_
          refine y_iconst (v := 1) E dX4_goOnWord_31 (by decide) ?_
          refine y_iadd E dX4_goOnWord_32 ?_
          refine pf_X4_4 E (by decide) (by decide) wm_151 dX4_goOnWord_33 ?_
          refine y_nmH (fun u5 hu5 => ?_)
          replace hv := hv u5 hu5
          refine y_goto (tgt := 0) E dX4_goOnWord_36 (by decide) ?_
          exact ih0 u5 hv
  obtain ⟨n0, hv⟩ := hv
  exact hL0 n0 σ hv
theorem dX4_signOf_0 : decode cX4_signOf 0 = .ok (.iload_n 0, 1) := by decide +kernel
theorem dX4_signOf_1 : decode cX4_signOf 1 = .ok (.tableswitch 127 40 61 #[103, 106, 118, 112, 127, 115, 127, 127, 127, 127, 127, 127, 127, 127, 127, 127, 127, 127, 127, 109, 121, 124], 103) := by decide +kernel
theorem dX4_signOf_104 : decode cX4_signOf 104 = .ok (.bipush (-20), 2) := by decide +kernel
theorem dX4_signOf_106 : decode cX4_signOf 106 = .ok (.ireturn, 1) := by decide +kernel
theorem dX4_signOf_107 : decode cX4_signOf 107 = .ok (.bipush (-21), 2) := by decide +kernel
theorem dX4_signOf_109 : decode cX4_signOf 109 = .ok (.ireturn, 1) := by decide +kernel
theorem dX4_signOf_110 : decode cX4_signOf 110 = .ok (.bipush (-22), 2) := by decide +kernel
theorem dX4_signOf_112 : decode cX4_signOf 112 = .ok (.ireturn, 1) := by decide +kernel
theorem dX4_signOf_113 : decode cX4_signOf 113 = .ok (.bipush (-9), 2) := by decide +kernel
theorem dX4_signOf_115 : decode cX4_signOf 115 = .ok (.ireturn, 1) := by decide +kernel
theorem dX4_signOf_116 : decode cX4_signOf 116 = .ok (.bipush (-10), 2) := by decide +kernel
theorem dX4_signOf_118 : decode cX4_signOf 118 = .ok (.ireturn, 1) := by decide +kernel
theorem dX4_signOf_119 : decode cX4_signOf 119 = .ok (.bipush (-11), 2) := by decide +kernel
theorem dX4_signOf_121 : decode cX4_signOf 121 = .ok (.ireturn, 1) := by decide +kernel
theorem dX4_signOf_122 : decode cX4_signOf 122 = .ok (.bipush (-12), 2) := by decide +kernel
theorem dX4_signOf_124 : decode cX4_signOf 124 = .ok (.ireturn, 1) := by decide +kernel
theorem dX4_signOf_125 : decode cX4_signOf 125 = .ok (.bipush (-13), 2) := by decide +kernel
theorem dX4_signOf_127 : decode cX4_signOf 127 = .ok (.ireturn, 1) := by decide +kernel
theorem dX4_signOf_128 : decode cX4_signOf 128 = .ok (.bipush (-31), 2) := by decide +kernel
theorem dX4_signOf_130 : decode cX4_signOf 130 = .ok (.ireturn, 1) := by decide +kernel
set_option maxRecDepth 100000 in
set_option maxHeartbeats 4000000 in
theorem kX4_signOf (l : Launch) (w : wT) (hw : yOk w 55) (σ : Hp) (a1 : Int32) (K : Int32 → Hp → Prop) (hv : VX4_signOf K σ a1) : yMet l w xcf 55 yX4_signOf cX4_signOf 1 (some .int) 1 [.int a1] σ (yQi w xcf 55 K) := by
  unfold VX4_signOf at hv
  refine y_start (lv0 := [(0, .int a1)]) (by decide +kernel) (own := RX4) rfl hw (Nat.le_of_ble_eq_true rfl) rfl (fun p e s m below meth c A E => ?_)
  refine y_iload_n E dX4_signOf_0 0 rfl ?_
  by_cases c1 : a1 = 40
  · replace hv := ite_t hv c1
    refine y_table1 (tgt := 104) (off := 103) (j := 0) E dX4_signOf_1 (i32_eq (z := 40) (by decide) c1) (by decide) rfl (by decide) ?_
    refine y_bipush (v := (-20)) E dX4_signOf_104 (by decide) ?_
    exact y_iret E dX4_signOf_106 hv
  · replace hv := ite_f hv c1
    by_cases c2 : a1 = 41
    · replace hv := ite_t hv c2
      refine y_table1 (tgt := 107) (off := 106) (j := 1) E dX4_signOf_1 (i32_eq (z := 41) (by decide) c2) (by decide) rfl (by decide) ?_
      refine y_bipush (v := (-21)) E dX4_signOf_107 (by decide) ?_
      exact y_iret E dX4_signOf_109 hv
    · replace hv := ite_f hv c2
      by_cases c3 : a1 = 42
      · replace hv := ite_t hv c3
        refine y_table1 (tgt := 119) (off := 118) (j := 2) E dX4_signOf_1 (i32_eq (z := 42) (by decide) c3) (by decide) rfl (by decide) ?_
        refine y_bipush (v := (-11)) E dX4_signOf_119 (by decide) ?_
        exact y_iret E dX4_signOf_121 hv
      · replace hv := ite_f hv c3
        by_cases c4 : a1 = 43
        · replace hv := ite_t hv c4
          refine y_table1 (tgt := 113) (off := 112) (j := 3) E dX4_signOf_1 (i32_eq (z := 43) (by decide) c4) (by decide) rfl (by decide) ?_
          refine y_bipush (v := (-9)) E dX4_signOf_113 (by decide) ?_
          exact y_iret E dX4_signOf_115 hv
        · replace hv := ite_f hv c4
          by_cases c5 : a1 = 45
          · replace hv := ite_t hv c5
            refine y_table1 (tgt := 116) (off := 115) (j := 5) E dX4_signOf_1 (i32_eq (z := 45) (by decide) c5) (by decide) rfl (by decide) ?_
            refine y_bipush (v := (-10)) E dX4_signOf_116 (by decide) ?_
            exact y_iret E dX4_signOf_118 hv
          · replace hv := ite_f hv c5
            by_cases c6 : a1 = 59
            · replace hv := ite_t hv c6
              refine y_table1 (tgt := 110) (off := 109) (j := 19) E dX4_signOf_1 (i32_eq (z := 59) (by decide) c6) (by decide) rfl (by decide) ?_
              refine y_bipush (v := (-22)) E dX4_signOf_110 (by decide) ?_
              exact y_iret E dX4_signOf_112 hv
            · replace hv := ite_f hv c6
              by_cases c7 : a1 = 60
              · replace hv := ite_t hv c7
                refine y_table1 (tgt := 122) (off := 121) (j := 20) E dX4_signOf_1 (i32_eq (z := 60) (by decide) c7) (by decide) rfl (by decide) ?_
                refine y_bipush (v := (-12)) E dX4_signOf_122 (by decide) ?_
                exact y_iret E dX4_signOf_124 hv
              · replace hv := ite_f hv c7
                by_cases c8 : a1 = 61
                · replace hv := ite_t hv c8
                  refine y_table1 (tgt := 125) (off := 124) (j := 21) E dX4_signOf_1 (i32_eq (z := 61) (by decide) c8) (by decide) rfl (by decide) ?_
                  refine y_bipush (v := (-13)) E dX4_signOf_125 (by decide) ?_
                  exact y_iret E dX4_signOf_127 hv
                · replace hv := ite_f hv c8
                  refine y_table0 (tgt := 128) E dX4_signOf_1 (by decide) (fun j hj => ?_) (by decide) ?_
                  · match j, hj with
                    | 0, _ => exact Or.inr (i32_ne (z := 40 + ((0 : Nat) : Int)) (by decide) c1)
                    | 1, _ => exact Or.inr (i32_ne (z := 40 + ((1 : Nat) : Int)) (by decide) c2)
                    | 2, _ => exact Or.inr (i32_ne (z := 40 + ((2 : Nat) : Int)) (by decide) c3)
                    | 3, _ => exact Or.inr (i32_ne (z := 40 + ((3 : Nat) : Int)) (by decide) c4)
                    | 4, _ => exact Or.inl rfl
                    | 5, _ => exact Or.inr (i32_ne (z := 40 + ((5 : Nat) : Int)) (by decide) c5)
                    | 6, _ => exact Or.inl rfl
                    | 7, _ => exact Or.inl rfl
                    | 8, _ => exact Or.inl rfl
                    | 9, _ => exact Or.inl rfl
                    | 10, _ => exact Or.inl rfl
                    | 11, _ => exact Or.inl rfl
                    | 12, _ => exact Or.inl rfl
                    | 13, _ => exact Or.inl rfl
                    | 14, _ => exact Or.inl rfl
                    | 15, _ => exact Or.inl rfl
                    | 16, _ => exact Or.inl rfl
                    | 17, _ => exact Or.inl rfl
                    | 18, _ => exact Or.inl rfl
                    | 19, _ => exact Or.inr (i32_ne (z := 40 + ((19 : Nat) : Int)) (by decide) c6)
                    | 20, _ => exact Or.inr (i32_ne (z := 40 + ((20 : Nat) : Int)) (by decide) c7)
                    | 21, _ => exact Or.inr (i32_ne (z := 40 + ((21 : Nat) : Int)) (by decide) c8)
                    | j + 22, hj => exact absurd hj (by simp)
                  · refine y_bipush (v := (-31)) E dX4_signOf_128 (by decide) ?_
                    exact y_iret E dX4_signOf_130 hv
theorem dX4_goOn_0 : decode cX4_goOn 0 = .ok (.aload_n 0, 1) := by decide +kernel
theorem dX4_goOn_1 : decode cX4_goOn 1 = .ok (.getfield 28, 3) := by decide +kernel
theorem dX4_goOn_4 : decode cX4_goOn 4 = .ok (.ifCond .lt 4, 3) := by decide +kernel
theorem dX4_goOn_7 : decode cX4_goOn 7 = .ok (.return_, 1) := by decide +kernel
theorem dX4_goOn_8 : decode cX4_goOn 8 = .ok (.aload_n 0, 1) := by decide +kernel
theorem dX4_goOn_9 : decode cX4_goOn 9 = .ok (.aload_n 0, 1) := by decide +kernel
theorem dX4_goOn_10 : decode cX4_goOn 10 = .ok (.getfield 31, 3) := by decide +kernel
theorem dX4_goOn_13 : decode cX4_goOn 13 = .ok (.putfield 74, 3) := by decide +kernel
theorem dX4_goOn_16 : decode cX4_goOn 16 = .ok (.aload_n 0, 1) := by decide +kernel
theorem dX4_goOn_17 : decode cX4_goOn 17 = .ok (.getfield 74, 3) := by decide +kernel
theorem dX4_goOn_20 : decode cX4_goOn 20 = .ok (.aload_n 0, 1) := by decide +kernel
theorem dX4_goOn_21 : decode cX4_goOn 21 = .ok (.getfield 15, 3) := by decide +kernel
theorem dX4_goOn_24 : decode cX4_goOn 24 = .ok (.if_icmp .ge 44, 3) := by decide +kernel
theorem dX4_goOn_27 : decode cX4_goOn 27 = .ok (.aload_n 0, 1) := by decide +kernel
theorem dX4_goOn_28 : decode cX4_goOn 28 = .ok (.getfield 9, 3) := by decide +kernel
theorem dX4_goOn_31 : decode cX4_goOn 31 = .ok (.aload_n 0, 1) := by decide +kernel
theorem dX4_goOn_32 : decode cX4_goOn 32 = .ok (.getfield 74, 3) := by decide +kernel
theorem dX4_goOn_35 : decode cX4_goOn 35 = .ok (.baload, 1) := by decide +kernel
theorem dX4_goOn_36 : decode cX4_goOn 36 = .ok (.bipush 32, 2) := by decide +kernel
theorem dX4_goOn_38 : decode cX4_goOn 38 = .ok (.if_icmp .eq 17, 3) := by decide +kernel
theorem dX4_goOn_41 : decode cX4_goOn 41 = .ok (.aload_n 0, 1) := by decide +kernel
theorem dX4_goOn_42 : decode cX4_goOn 42 = .ok (.getfield 9, 3) := by decide +kernel
theorem dX4_goOn_45 : decode cX4_goOn 45 = .ok (.aload_n 0, 1) := by decide +kernel
theorem dX4_goOn_46 : decode cX4_goOn 46 = .ok (.getfield 74, 3) := by decide +kernel
theorem dX4_goOn_49 : decode cX4_goOn 49 = .ok (.baload, 1) := by decide +kernel
theorem dX4_goOn_50 : decode cX4_goOn 50 = .ok (.bipush 10, 2) := by decide +kernel
theorem dX4_goOn_52 : decode cX4_goOn 52 = .ok (.if_icmp .ne 16, 3) := by decide +kernel
theorem dX4_goOn_55 : decode cX4_goOn 55 = .ok (.aload_n 0, 1) := by decide +kernel
theorem dX4_goOn_56 : decode cX4_goOn 56 = .ok (.dup, 1) := by decide +kernel
theorem dX4_goOn_57 : decode cX4_goOn 57 = .ok (.getfield 74, 3) := by decide +kernel
theorem dX4_goOn_60 : decode cX4_goOn 60 = .ok (.iconst 1, 1) := by decide +kernel
theorem dX4_goOn_61 : decode cX4_goOn 61 = .ok (.iadd, 1) := by decide +kernel
theorem dX4_goOn_62 : decode cX4_goOn 62 = .ok (.putfield 74, 3) := by decide +kernel
theorem dX4_goOn_65 : decode cX4_goOn 65 = .ok (.goto (-49), 3) := by decide +kernel
theorem dX4_goOn_68 : decode cX4_goOn 68 = .ok (.aload_n 0, 1) := by decide +kernel
theorem dX4_goOn_69 : decode cX4_goOn 69 = .ok (.aload_n 0, 1) := by decide +kernel
theorem dX4_goOn_70 : decode cX4_goOn 70 = .ok (.getfield 74, 3) := by decide +kernel
theorem dX4_goOn_73 : decode cX4_goOn 73 = .ok (.putfield 31, 3) := by decide +kernel
theorem dX4_goOn_76 : decode cX4_goOn 76 = .ok (.aload_n 0, 1) := by decide +kernel
theorem dX4_goOn_77 : decode cX4_goOn 77 = .ok (.getfield 74, 3) := by decide +kernel
theorem dX4_goOn_80 : decode cX4_goOn 80 = .ok (.aload_n 0, 1) := by decide +kernel
theorem dX4_goOn_81 : decode cX4_goOn 81 = .ok (.getfield 15, 3) := by decide +kernel
theorem dX4_goOn_84 : decode cX4_goOn 84 = .ok (.if_icmp .lt 12, 3) := by decide +kernel
theorem dX4_goOn_87 : decode cX4_goOn 87 = .ok (.aload_n 0, 1) := by decide +kernel
theorem dX4_goOn_88 : decode cX4_goOn 88 = .ok (.bipush (-30), 2) := by decide +kernel
theorem dX4_goOn_90 : decode cX4_goOn 90 = .ok (.putfield 53, 3) := by decide +kernel
theorem dX4_goOn_93 : decode cX4_goOn 93 = .ok (.goto 73, 3) := by decide +kernel
theorem dX4_goOn_96 : decode cX4_goOn 96 = .ok (.aload_n 0, 1) := by decide +kernel
theorem dX4_goOn_97 : decode cX4_goOn 97 = .ok (.getfield 9, 3) := by decide +kernel
theorem dX4_goOn_100 : decode cX4_goOn 100 = .ok (.aload_n 0, 1) := by decide +kernel
theorem dX4_goOn_101 : decode cX4_goOn 101 = .ok (.getfield 74, 3) := by decide +kernel
theorem dX4_goOn_104 : decode cX4_goOn 104 = .ok (.baload, 1) := by decide +kernel
theorem dX4_goOn_105 : decode cX4_goOn 105 = .ok (.invokestatic 77, 3) := by decide +kernel
theorem dX4_goOn_108 : decode cX4_goOn 108 = .ok (.ifCond .eq 10, 3) := by decide +kernel
theorem dX4_goOn_111 : decode cX4_goOn 111 = .ok (.aload_n 0, 1) := by decide +kernel
theorem dX4_goOn_112 : decode cX4_goOn 112 = .ok (.invokevirtual 81, 3) := by decide +kernel
theorem dX4_goOn_115 : decode cX4_goOn 115 = .ok (.goto 51, 3) := by decide +kernel
theorem dX4_goOn_118 : decode cX4_goOn 118 = .ok (.aload_n 0, 1) := by decide +kernel
theorem dX4_goOn_119 : decode cX4_goOn 119 = .ok (.getfield 9, 3) := by decide +kernel
theorem dX4_goOn_122 : decode cX4_goOn 122 = .ok (.aload_n 0, 1) := by decide +kernel
theorem dX4_goOn_123 : decode cX4_goOn 123 = .ok (.getfield 74, 3) := by decide +kernel
theorem dX4_goOn_126 : decode cX4_goOn 126 = .ok (.baload, 1) := by decide +kernel
theorem dX4_goOn_127 : decode cX4_goOn 127 = .ok (.invokestatic 84, 3) := by decide +kernel
theorem dX4_goOn_130 : decode cX4_goOn 130 = .ok (.ifCond .eq 10, 3) := by decide +kernel
theorem dX4_goOn_133 : decode cX4_goOn 133 = .ok (.aload_n 0, 1) := by decide +kernel
theorem dX4_goOn_134 : decode cX4_goOn 134 = .ok (.invokevirtual 87, 3) := by decide +kernel
theorem dX4_goOn_137 : decode cX4_goOn 137 = .ok (.goto 29, 3) := by decide +kernel
theorem dX4_goOn_140 : decode cX4_goOn 140 = .ok (.aload_n 0, 1) := by decide +kernel
theorem dX4_goOn_141 : decode cX4_goOn 141 = .ok (.aload_n 0, 1) := by decide +kernel
theorem dX4_goOn_142 : decode cX4_goOn 142 = .ok (.getfield 74, 3) := by decide +kernel
theorem dX4_goOn_145 : decode cX4_goOn 145 = .ok (.iconst 1, 1) := by decide +kernel
theorem dX4_goOn_146 : decode cX4_goOn 146 = .ok (.iadd, 1) := by decide +kernel
theorem dX4_goOn_147 : decode cX4_goOn 147 = .ok (.putfield 31, 3) := by decide +kernel
theorem dX4_goOn_150 : decode cX4_goOn 150 = .ok (.aload_n 0, 1) := by decide +kernel
theorem dX4_goOn_151 : decode cX4_goOn 151 = .ok (.aload_n 0, 1) := by decide +kernel
theorem dX4_goOn_152 : decode cX4_goOn 152 = .ok (.getfield 9, 3) := by decide +kernel
theorem dX4_goOn_155 : decode cX4_goOn 155 = .ok (.aload_n 0, 1) := by decide +kernel
theorem dX4_goOn_156 : decode cX4_goOn 156 = .ok (.getfield 74, 3) := by decide +kernel
theorem dX4_goOn_159 : decode cX4_goOn 159 = .ok (.baload, 1) := by decide +kernel
theorem dX4_goOn_160 : decode cX4_goOn 160 = .ok (.invokestatic 90, 3) := by decide +kernel
theorem dX4_goOn_163 : decode cX4_goOn 163 = .ok (.putfield 53, 3) := by decide +kernel
theorem dX4_goOn_166 : decode cX4_goOn 166 = .ok (.return_, 1) := by decide +kernel
set_option maxRecDepth 100000 in
set_option maxHeartbeats 4000000 in
theorem kX4_goOn (l : Launch) (w : wT) (hw : yOk w 55) (σ : Hp)  (K : Hp → Prop) (hv : VX4_goOn K σ ) : yMet l w xcf 55 yX4_goOn cX4_goOn 1 none 8 [.ref (w.1 38)] σ (yQv w xcf 55 K) := by
  unfold VX4_goOn at hv
  refine y_start (lv0 := [(0, .ref (w.1 38))]) (by decide +kernel) (own := RX4) rfl hw (Nat.le_of_ble_eq_true rfl) rfl (fun p e s m below meth c A E => ?_)
  have hb68 : ∀ (σ : Hp), VX4_goOn_b68 K σ → YY p l e (yRm 8) s m [.ref (w.1 38)].toArray below meth c w xcf 55 A (MQ below (yQv w xcf 55 K A) [.ref (w.1 38)].toArray s 0 0 A) 1 σ 68 [(0, .ref (w.1 38))] [] := by
    intro σ hv
    unfold VX4_goOn_b68 at hv
    refine y_aload_n E dX4_goOn_68 0 rfl ?_
    refine y_aload_n E dX4_goOn_69 0 rfl ?_
    refine gf_X4_3 E (by decide) (by decide) wm_205 dX4_goOn_70 ?_
    refine pf_X4_4 E (by decide) (by decide) wm_151 dX4_goOn_73 ?_
    refine y_nmH (fun u6 hu6 => ?_)
    replace hv := hv u6 hu6
    refine y_aload_n E dX4_goOn_76 0 rfl ?_
    refine gf_X4_3 E (by decide) (by decide) wm_205 dX4_goOn_77 ?_
    refine y_aload_n E dX4_goOn_80 0 rfl ?_
    refine gf_X4_1 E (by decide) (by decide) wm_146 dX4_goOn_81 ?_
    refine y_icmp_lt (tgt := 96) E dX4_goOn_84 (by decide) (fun c7 => ?_) (fun c7 => ?_)
    · replace hv := ite_t hv c7
      refine y_aload_n E dX4_goOn_96 0 rfl ?_
      refine gf_X4_0 E (by decide) (by decide) wm_147 dX4_goOn_97 ?_
      refine y_aload_n E dX4_goOn_100 0 rfl ?_
      refine gf_X4_3 E (by decide) (by decide) wm_205 dX4_goOn_101 ?_
      obtain ⟨hi, hv⟩ := hv
      refine y_bald E (Nat.lt_of_lt_of_le (show 39 < 40 by decide) (by decide)) (xc_bytes (by decide) (by decide)) hi dX4_goOn_104 ?_
      refine y_calli E (y_runS E (rest := []) (kX4_isDigit l w E.2.2.1 u6 (u6 39 (u6 38 3).toNatClampNeg) _ hv) (y_cwS 1 E.1.2.2.2.2 wm_206 wm_221 wm_157 wm_222 (by decide +kernel) (yRm_le (by decide) (by decide))) rfl rfl (Nat.le_of_ble_eq_true rfl) dX4_goOn_105) (fun v8 u9 hk => ?_)
      clear hv
      have hv := hk
      clear hk
      refine y_if_eq (tgt := 118) E dX4_goOn_108 (by decide) (fun c10 => ?_) (fun c10 => ?_)
      · replace hv := ite_t hv c10
        refine y_aload_n E dX4_goOn_118 0 rfl ?_
        refine gf_X4_0 E (by decide) (by decide) wm_147 dX4_goOn_119 ?_
        refine y_aload_n E dX4_goOn_122 0 rfl ?_
        refine gf_X4_3 E (by decide) (by decide) wm_205 dX4_goOn_123 ?_
        obtain ⟨hi, hv⟩ := hv
        refine y_bald E (Nat.lt_of_lt_of_le (show 39 < 40 by decide) (by decide)) (xc_bytes (by decide) (by decide)) hi dX4_goOn_126 ?_
        refine y_calli E (y_runS E (rest := []) (kX4_isLetter l w E.2.2.1 u9 (u9 39 (u9 38 3).toNatClampNeg) _ hv) (y_cwS 1 E.1.2.2.2.2 wm_207 wm_215 wm_157 wm_216 (by decide +kernel) (yRm_le (by decide) (by decide))) rfl rfl (Nat.le_of_ble_eq_true rfl) dX4_goOn_127) (fun v11 u12 hk => ?_)
        clear hv
        have hv := hk
        clear hk
        refine y_if_eq (tgt := 140) E dX4_goOn_130 (by decide) (fun c13 => ?_) (fun c13 => ?_)
        · replace hv := ite_t hv c13
          refine y_aload_n E dX4_goOn_140 0 rfl ?_
          refine y_aload_n E dX4_goOn_141 0 rfl ?_
          refine gf_X4_3 E (by decide) (by decide) wm_205 dX4_goOn_142 ?_
          refine y_iconst (v := 1) E dX4_goOn_145 (by decide) ?_
          refine y_iadd E dX4_goOn_146 ?_
          refine pf_X4_4 E (by decide) (by decide) wm_151 dX4_goOn_147 ?_
          refine y_nmH (fun u14 hu14 => ?_)
          replace hv := hv u14 hu14
          refine y_aload_n E dX4_goOn_150 0 rfl ?_
          refine y_aload_n E dX4_goOn_151 0 rfl ?_
          refine gf_X4_0 E (by decide) (by decide) wm_147 dX4_goOn_152 ?_
          refine y_aload_n E dX4_goOn_155 0 rfl ?_
          refine gf_X4_3 E (by decide) (by decide) wm_205 dX4_goOn_156 ?_
          obtain ⟨hi, hv⟩ := hv
          refine y_bald E (Nat.lt_of_lt_of_le (show 39 < 40 by decide) (by decide)) (xc_bytes (by decide) (by decide)) hi dX4_goOn_159 ?_
          refine y_calli E (y_runS E (rest := [.ref (w.1 38)]) (kX4_signOf l w E.2.2.1 u14 (u14 39 (u14 38 3).toNatClampNeg) _ hv) (y_cwS 1 E.1.2.2.2.2 wm_208 wm_209 wm_157 wm_210 (by decide +kernel) (yRm_le (by decide) (by decide))) rfl rfl (Nat.le_of_ble_eq_true rfl) dX4_goOn_160) (fun v15 u16 hk => ?_)
          clear hv
          have hv := hk
          clear hk
          refine pf_X4_2 E (by decide) (by decide) wm_180 dX4_goOn_163 ?_
          refine y_nmH (fun u17 hu17 => ?_)
          replace hv := hv u17 hu17
          exact y_vret E dX4_goOn_166 hv
        · replace hv := ite_f hv c13
          refine y_aload_n E dX4_goOn_133 0 rfl ?_
          refine y_callv E (y_runV E (rest := []) (kX4_goOnWord l w E.2.2.1 u12 _ hv) (y_cwV 0 E.1.2.2.2.2 wm_211 wm_212 wm_213 wm_157 wm_214 (by decide +kernel) (yRm_le (by decide) (by decide))) (Nat.lt_of_lt_of_le (show 38 < 39 by decide) (by decide)) (xc_X4 (by decide) (by decide)) rfl rfl rfl (Nat.le_of_ble_eq_true rfl) dX4_goOn_134) (fun u19 hk => ?_)
          clear hv
          have hv := hk
          clear hk
          refine y_goto (tgt := 166) E dX4_goOn_137 (by decide) ?_
          exact y_vret E dX4_goOn_166 hv
      · replace hv := ite_f hv c10
        refine y_aload_n E dX4_goOn_111 0 rfl ?_
        refine y_callv E (y_runV E (rest := []) (kX4_goOnNumber l w E.2.2.1 u9 _ hv) (y_cwV 0 E.1.2.2.2.2 wm_217 wm_218 wm_219 wm_157 wm_220 (by decide +kernel) (yRm_le (by decide) (by decide))) (Nat.lt_of_lt_of_le (show 38 < 39 by decide) (by decide)) (xc_X4 (by decide) (by decide)) rfl rfl rfl (Nat.le_of_ble_eq_true rfl) dX4_goOn_112) (fun u21 hk => ?_)
        clear hv
        have hv := hk
        clear hk
        refine y_goto (tgt := 166) E dX4_goOn_115 (by decide) ?_
        exact y_vret E dX4_goOn_166 hv
    · replace hv := ite_f hv c7
      refine y_aload_n E dX4_goOn_87 0 rfl ?_
      refine y_bipush (v := (-30)) E dX4_goOn_88 (by decide) ?_
      refine pf_X4_2 E (by decide) (by decide) wm_180 dX4_goOn_90 ?_
      refine y_nmH (fun u22 hu22 => ?_)
      replace hv := hv u22 hu22
      refine y_goto (tgt := 166) E dX4_goOn_93 (by decide) ?_
      exact y_vret E dX4_goOn_166 hv
  have hL16 : ∀ (n16 : Nat) (σ : Hp), VX4_goOn_L16 K n16 σ → YY p l e (yRm 8) s m [.ref (w.1 38)].toArray below meth c w xcf 55 A (MQ below (yQv w xcf 55 K A) [.ref (w.1 38)].toArray s 0 0 A) 1 σ 16 [(0, .ref (w.1 38))] [] := by
    intro n16
    induction n16 with
    | zero => exact fun _ hv => (by unfold VX4_goOn_L16 at hv; exact hv.elim)
    | succ n16 ih16 =>
      have hb55 : ∀ (σ : Hp), VX4_goOn_b55 K (VX4_goOn_L16 K n16) σ → YY p l e (yRm 8) s m [.ref (w.1 38)].toArray below meth c w xcf 55 A (MQ below (yQv w xcf 55 K A) [.ref (w.1 38)].toArray s 0 0 A) 1 σ 55 [(0, .ref (w.1 38))] [] := by
        intro σ hv
        unfold VX4_goOn_b55 at hv
        refine y_aload_n E dX4_goOn_55 0 rfl ?_
        refine y_dup E dX4_goOn_56 rfl ?_
        refine gf_X4_3 E (by decide) (by decide) wm_205 dX4_goOn_57 ?_
        refine y_iconst (v := 1) E dX4_goOn_60 (by decide) ?_
        refine y_iadd E dX4_goOn_61 ?_
        refine pf_X4_3 E (by decide) (by decide) wm_205 dX4_goOn_62 ?_
        refine y_nmH (fun u23 hu23 => ?_)
        replace hv := hv u23 hu23
        refine y_goto (tgt := 16) E dX4_goOn_65 (by decide) ?_
        exact ih16 u23 hv
      intro σ hv
      unfold VX4_goOn_L16 at hv
      refine y_aload_n E dX4_goOn_16 0 rfl ?_
      refine gf_X4_3 E (by decide) (by decide) wm_205 dX4_goOn_17 ?_
      refine y_aload_n E dX4_goOn_20 0 rfl ?_
      refine gf_X4_1 E (by decide) (by decide) wm_146 dX4_goOn_21 ?_
      refine y_icmp_ge (tgt := 68) E dX4_goOn_24 (by decide) (fun c3 => ?_) (fun c3 => ?_)
      · replace hv := ite_t hv c3
        exact hb68 σ hv
      · replace hv := ite_f hv c3
        refine y_aload_n E dX4_goOn_27 0 rfl ?_
        refine gf_X4_0 E (by decide) (by decide) wm_147 dX4_goOn_28 ?_
        refine y_aload_n E dX4_goOn_31 0 rfl ?_
        refine gf_X4_3 E (by decide) (by decide) wm_205 dX4_goOn_32 ?_
        obtain ⟨hi, hv⟩ := hv
        refine y_bald E (Nat.lt_of_lt_of_le (show 39 < 40 by decide) (by decide)) (xc_bytes (by decide) (by decide)) hi dX4_goOn_35 ?_
        refine y_bipush (v := 32) E dX4_goOn_36 (by decide) ?_
        refine y_icmp_eq (tgt := 55) E dX4_goOn_38 (by decide) (fun c4 => ?_) (fun c4 => ?_)
        · replace hv := ite_t hv c4
          exact hb55 σ hv
        · replace hv := ite_f hv c4
          refine y_aload_n E dX4_goOn_41 0 rfl ?_
          refine gf_X4_0 E (by decide) (by decide) wm_147 dX4_goOn_42 ?_
          refine y_aload_n E dX4_goOn_45 0 rfl ?_
          refine gf_X4_3 E (by decide) (by decide) wm_205 dX4_goOn_46 ?_
          obtain ⟨hi, hv⟩ := hv
          refine y_bald E (Nat.lt_of_lt_of_le (show 39 < 40 by decide) (by decide)) (xc_bytes (by decide) (by decide)) hi dX4_goOn_49 ?_
          refine y_bipush (v := 10) E dX4_goOn_50 (by decide) ?_
          refine y_icmp_ne (tgt := 68) E dX4_goOn_52 (by decide) (fun c5 => ?_) (fun c5 => ?_)
          · replace hv := ite_f hv c5
            exact hb68 σ hv
          · replace hv := ite_t hv c5
            exact hb55 σ hv
  refine y_aload_n E dX4_goOn_0 0 rfl ?_
  refine gf_X4_5 E (by decide) (by decide) wm_150 dX4_goOn_1 ?_
  refine y_if_lt (tgt := 8) E dX4_goOn_4 (by decide) (fun c1 => ?_) (fun c1 => ?_)
  · replace hv := ite_t hv c1
    refine y_aload_n E dX4_goOn_8 0 rfl ?_
    refine y_aload_n E dX4_goOn_9 0 rfl ?_
    refine gf_X4_4 E (by decide) (by decide) wm_151 dX4_goOn_10 ?_
    refine pf_X4_3 E (by decide) (by decide) wm_205 dX4_goOn_13 ?_
    refine y_nmH (fun u2 hu2 => ?_)
    replace hv := hv u2 hu2
    obtain ⟨n0, hv⟩ := hv
    exact hL16 n0 u2 hv
  · replace hv := ite_f hv c1
    exact y_vret E dX4_goOn_7 hv
theorem dX4_fail_0 : decode cX4_fail 0 = .ok (.aload_n 0, 1) := by decide +kernel
theorem dX4_fail_1 : decode cX4_fail 1 = .ok (.getfield 28, 3) := by decide +kernel
theorem dX4_fail_4 : decode cX4_fail 4 = .ok (.ifCond .ge 11, 3) := by decide +kernel
theorem dX4_fail_7 : decode cX4_fail 7 = .ok (.aload_n 0, 1) := by decide +kernel
theorem dX4_fail_8 : decode cX4_fail 8 = .ok (.aload_n 0, 1) := by decide +kernel
theorem dX4_fail_9 : decode cX4_fail 9 = .ok (.getfield 74, 3) := by decide +kernel
theorem dX4_fail_12 : decode cX4_fail 12 = .ok (.putfield 28, 3) := by decide +kernel
theorem dX4_fail_15 : decode cX4_fail 15 = .ok (.aload_n 0, 1) := by decide +kernel
theorem dX4_fail_16 : decode cX4_fail 16 = .ok (.bipush (-31), 2) := by decide +kernel
theorem dX4_fail_18 : decode cX4_fail 18 = .ok (.putfield 53, 3) := by decide +kernel
theorem dX4_fail_21 : decode cX4_fail 21 = .ok (.return_, 1) := by decide +kernel
set_option maxRecDepth 100000 in
set_option maxHeartbeats 4000000 in
theorem kX4_fail (l : Launch) (w : wT) (hw : yOk w 55) (σ : Hp)  (K : Hp → Prop) (hv : VX4_fail K σ ) : yMet l w xcf 55 yX4_fail cX4_fail 1 none 1 [.ref (w.1 38)] σ (yQv w xcf 55 K) := by
  unfold VX4_fail at hv
  refine y_start (lv0 := [(0, .ref (w.1 38))]) (by decide +kernel) (own := RX4) rfl hw (Nat.le_of_ble_eq_true rfl) rfl (fun p e s m below meth c A E => ?_)
  refine y_aload_n E dX4_fail_0 0 rfl ?_
  refine gf_X4_5 E (by decide) (by decide) wm_150 dX4_fail_1 ?_
  refine y_if_ge (tgt := 15) E dX4_fail_4 (by decide) (fun c1 => ?_) (fun c1 => ?_)
  · replace hv := ite_t hv c1
    refine y_aload_n E dX4_fail_15 0 rfl ?_
    refine y_bipush (v := (-31)) E dX4_fail_16 (by decide) ?_
    refine pf_X4_2 E (by decide) (by decide) wm_180 dX4_fail_18 ?_
    refine y_nmH (fun u2 hu2 => ?_)
    replace hv := hv u2 hu2
    exact y_vret E dX4_fail_21 hv
  · replace hv := ite_f hv c1
    refine y_aload_n E dX4_fail_7 0 rfl ?_
    refine y_aload_n E dX4_fail_8 0 rfl ?_
    refine gf_X4_3 E (by decide) (by decide) wm_205 dX4_fail_9 ?_
    refine pf_X4_5 E (by decide) (by decide) wm_150 dX4_fail_12 ?_
    refine y_nmH (fun u3 hu3 => ?_)
    replace hv := hv u3 hu3
    refine y_aload_n E dX4_fail_15 0 rfl ?_
    refine y_bipush (v := (-31)) E dX4_fail_16 (by decide) ?_
    refine pf_X4_2 E (by decide) (by decide) wm_180 dX4_fail_18 ?_
    refine y_nmH (fun u4 hu4 => ?_)
    replace hv := hv u4 hu4
    exact y_vret E dX4_fail_21 hv
theorem dX4_take_0 : decode cX4_take 0 = .ok (.aload_n 0, 1) := by decide +kernel
theorem dX4_take_1 : decode cX4_take 1 = .ok (.getfield 53, 3) := by decide +kernel
theorem dX4_take_4 : decode cX4_take 4 = .ok (.iload_n 1, 1) := by decide +kernel
theorem dX4_take_5 : decode cX4_take 5 = .ok (.if_icmp .eq 10, 3) := by decide +kernel
theorem dX4_take_8 : decode cX4_take 8 = .ok (.aload_n 0, 1) := by decide +kernel
theorem dX4_take_9 : decode cX4_take 9 = .ok (.invokevirtual 71, 3) := by decide +kernel
theorem dX4_take_12 : decode cX4_take 12 = .ok (.goto 16, 3) := by decide +kernel
theorem dX4_take_15 : decode cX4_take 15 = .ok (.aload_n 0, 1) := by decide +kernel
theorem dX4_take_16 : decode cX4_take 16 = .ok (.getfield 53, 3) := by decide +kernel
theorem dX4_take_19 : decode cX4_take 19 = .ok (.bipush (-30), 2) := by decide +kernel
theorem dX4_take_21 : decode cX4_take 21 = .ok (.if_icmp .eq 7, 3) := by decide +kernel
theorem dX4_take_24 : decode cX4_take 24 = .ok (.aload_n 0, 1) := by decide +kernel
theorem dX4_take_25 : decode cX4_take 25 = .ok (.invokevirtual 34, 3) := by decide +kernel
theorem dX4_take_28 : decode cX4_take 28 = .ok (.return_, 1) := by decide +kernel
set_option maxRecDepth 100000 in
set_option maxHeartbeats 4000000 in
theorem kX4_take (l : Launch) (w : wT) (hw : yOk w 55) (σ : Hp) (a1 : Int32) (K : Hp → Prop) (hv : VX4_take K σ a1) : yMet l w xcf 55 yX4_take cX4_take 2 none 9 [.ref (w.1 38), .int a1] σ (yQv w xcf 55 K) := by
  unfold VX4_take at hv
  refine y_start (lv0 := [(0, .ref (w.1 38)), (1, .int a1)]) (by decide +kernel) (own := RX4) rfl hw (Nat.le_of_ble_eq_true rfl) rfl (fun p e s m below meth c A E => ?_)
  refine y_aload_n E dX4_take_0 0 rfl ?_
  refine gf_X4_2 E (by decide) (by decide) wm_180 dX4_take_1 ?_
  refine y_iload_n E dX4_take_4 1 rfl ?_
  refine y_icmp_eq (tgt := 15) E dX4_take_5 (by decide) (fun c1 => ?_) (fun c1 => ?_)
  · replace hv := ite_t hv c1
    refine y_aload_n E dX4_take_15 0 rfl ?_
    refine gf_X4_2 E (by decide) (by decide) wm_180 dX4_take_16 ?_
    refine y_bipush (v := (-30)) E dX4_take_19 (by decide) ?_
    refine y_icmp_eq (tgt := 28) E dX4_take_21 (by decide) (fun c2 => ?_) (fun c2 => ?_)
    · replace hv := ite_t hv c2
      exact y_vret E dX4_take_28 hv
    · replace hv := ite_f hv c2
      refine y_aload_n E dX4_take_24 0 rfl ?_
      refine y_callv E (y_runV E (rest := []) (kX4_goOn l w E.2.2.1 σ _ hv) (y_cwV 0 E.1.2.2.2.2 wm_152 wm_162 wm_163 wm_157 wm_164 (by decide +kernel) (yRm_le (by decide) (by decide))) (Nat.lt_of_lt_of_le (show 38 < 39 by decide) (by decide)) (xc_X4 (by decide) (by decide)) rfl rfl rfl (Nat.le_of_ble_eq_true rfl) dX4_take_25) (fun u4 hk => ?_)
      clear hv
      have hv := hk
      clear hk
      exact y_vret E dX4_take_28 hv
  · replace hv := ite_f hv c1
    refine y_aload_n E dX4_take_8 0 rfl ?_
    refine y_callv E (y_runV E (rest := []) (kX4_fail l w E.2.2.1 σ _ hv) (y_cwV 0 E.1.2.2.2.2 wm_201 wm_202 wm_203 wm_157 wm_204 (by decide +kernel) (yRm_le (by decide) (by decide))) (Nat.lt_of_lt_of_le (show 38 < 39 by decide) (by decide)) (xc_X4 (by decide) (by decide)) rfl rfl rfl (Nat.le_of_ble_eq_true rfl) dX4_take_9) (fun u6 hk => ?_)
    clear hv
    have hv := hk
    clear hk
    refine y_goto (tgt := 28) E dX4_take_12 (by decide) ?_
    exact y_vret E dX4_take_28 hv
theorem dX9_add_0 : decode cX9_add 0 = .ok (.aload_n 0, 1) := by decide +kernel
theorem dX9_add_1 : decode cX9_add 1 = .ok (.getfield 21, 3) := by decide +kernel
theorem dX9_add_4 : decode cX9_add 4 = .ok (.sipush 160, 3) := by decide +kernel
theorem dX9_add_7 : decode cX9_add 7 = .ok (.if_icmp .ge 23, 3) := by decide +kernel
theorem dX9_add_10 : decode cX9_add 10 = .ok (.aload_n 0, 1) := by decide +kernel
theorem dX9_add_11 : decode cX9_add 11 = .ok (.getfield 9, 3) := by decide +kernel
theorem dX9_add_14 : decode cX9_add 14 = .ok (.aload_n 0, 1) := by decide +kernel
theorem dX9_add_15 : decode cX9_add 15 = .ok (.getfield 21, 3) := by decide +kernel
theorem dX9_add_18 : decode cX9_add 18 = .ok (.iload_n 1, 1) := by decide +kernel
theorem dX9_add_19 : decode cX9_add 19 = .ok (.iastore, 1) := by decide +kernel
theorem dX9_add_20 : decode cX9_add 20 = .ok (.aload_n 0, 1) := by decide +kernel
theorem dX9_add_21 : decode cX9_add 21 = .ok (.dup, 1) := by decide +kernel
theorem dX9_add_22 : decode cX9_add 22 = .ok (.getfield 21, 3) := by decide +kernel
theorem dX9_add_25 : decode cX9_add 25 = .ok (.iconst 1, 1) := by decide +kernel
theorem dX9_add_26 : decode cX9_add 26 = .ok (.iadd, 1) := by decide +kernel
theorem dX9_add_27 : decode cX9_add 27 = .ok (.putfield 21, 3) := by decide +kernel
theorem dX9_add_30 : decode cX9_add 30 = .ok (.return_, 1) := by decide +kernel
set_option maxRecDepth 100000 in
set_option maxHeartbeats 4000000 in
theorem kX9_add (l : Launch) (w : wT) (hw : yOk w 55) (σ : Hp) (o : Nat) (a1 : Int32) (K : Hp → Prop) (hv : VX9_add K σ o a1) : yMet l w xcf 55 yX9_add cX9_add 2 none 1 [.ref (w.1 o), .int a1] σ (yQv w xcf 55 K) := by
  unfold VX9_add at hv
  refine y_start (lv0 := [(0, .ref (w.1 o)), (1, .int a1)]) (by decide +kernel) (own := RX9) rfl hw (Nat.le_of_ble_eq_true rfl) rfl (fun p e s m below meth c A E => ?_)
  obtain ⟨hgo, hv⟩ := hv
  refine y_aload_n E dX9_add_0 0 rfl ?_
  refine gf_X9_3 E hgo.1 hgo.2 wm_245 dX9_add_1 ?_
  refine y_sipush (v := 160) E dX9_add_4 (by decide) ?_
  refine y_icmp_ge (tgt := 30) E dX9_add_7 (by decide) (fun c1 => ?_) (fun c1 => ?_)
  · replace hv := ite_t hv c1
    exact y_vret E dX9_add_30 hv
  · replace hv := ite_f hv c1
    refine y_aload_n E dX9_add_10 0 rfl ?_
    obtain ⟨x2, hx2⟩ : ∃ z : Nat, z = 25 + 1 * (o - 19) := ⟨_, rfl⟩
    replace hv := hv x2 hx2
    have hgx2 : 25 ≤ x2 ∧ x2 < 31 := by omega
    refine gf_X9_0 (q := x2) E hgo.1 hgo.2 hx2.symm wm_247 dX9_add_11 ?_
    refine y_aload_n E dX9_add_14 0 rfl ?_
    refine gf_X9_3 E hgo.1 hgo.2 wm_245 dX9_add_15 ?_
    refine y_iload_n E dX9_add_18 1 rfl ?_
    obtain ⟨hi, hv⟩ := hv
    refine y_iast E (Nat.lt_of_lt_of_le hgx2.2 (by decide)) (fun _ => xc_codes hgx2.1 hgx2.2) hi dX9_add_19 ?_
    refine y_nmH (fun u3 hu3 => ?_)
    replace hv := hv u3 hu3
    refine y_aload_n E dX9_add_20 0 rfl ?_
    refine y_dup E dX9_add_21 rfl ?_
    refine gf_X9_3 E hgo.1 hgo.2 wm_245 dX9_add_22 ?_
    refine y_iconst (v := 1) E dX9_add_25 (by decide) ?_
    refine y_iadd E dX9_add_26 ?_
    refine pf_X9_3 E hgo.1 hgo.2 wm_245 dX9_add_27 ?_
    refine y_nmH (fun u4 hu4 => ?_)
    replace hv := hv u4 hu4
    exact y_vret E dX9_add_30 hv
theorem dX9_endPart_0 : decode cX9_endPart 0 = .ok (.aload_n 0, 1) := by decide +kernel
theorem dX9_endPart_1 : decode cX9_endPart 1 = .ok (.getfield 25, 3) := by decide +kernel
theorem dX9_endPart_4 : decode cX9_endPart 4 = .ok (.iconst 3, 1) := by decide +kernel
theorem dX9_endPart_5 : decode cX9_endPart 5 = .ok (.if_icmp .ge 26, 3) := by decide +kernel
theorem dX9_endPart_8 : decode cX9_endPart 8 = .ok (.aload_n 0, 1) := by decide +kernel
theorem dX9_endPart_9 : decode cX9_endPart 9 = .ok (.dup, 1) := by decide +kernel
theorem dX9_endPart_10 : decode cX9_endPart 10 = .ok (.getfield 25, 3) := by decide +kernel
theorem dX9_endPart_13 : decode cX9_endPart 13 = .ok (.iconst 1, 1) := by decide +kernel
theorem dX9_endPart_14 : decode cX9_endPart 14 = .ok (.iadd, 1) := by decide +kernel
theorem dX9_endPart_15 : decode cX9_endPart 15 = .ok (.putfield 25, 3) := by decide +kernel
theorem dX9_endPart_18 : decode cX9_endPart 18 = .ok (.aload_n 0, 1) := by decide +kernel
theorem dX9_endPart_19 : decode cX9_endPart 19 = .ok (.getfield 15, 3) := by decide +kernel
theorem dX9_endPart_22 : decode cX9_endPart 22 = .ok (.aload_n 0, 1) := by decide +kernel
theorem dX9_endPart_23 : decode cX9_endPart 23 = .ok (.getfield 25, 3) := by decide +kernel
theorem dX9_endPart_26 : decode cX9_endPart 26 = .ok (.aload_n 0, 1) := by decide +kernel
theorem dX9_endPart_27 : decode cX9_endPart 27 = .ok (.getfield 21, 3) := by decide +kernel
theorem dX9_endPart_30 : decode cX9_endPart 30 = .ok (.iastore, 1) := by decide +kernel
theorem dX9_endPart_31 : decode cX9_endPart 31 = .ok (.return_, 1) := by decide +kernel
set_option maxRecDepth 100000 in
set_option maxHeartbeats 4000000 in
theorem kX9_endPart (l : Launch) (w : wT) (hw : yOk w 55) (σ : Hp) (o : Nat) (K : Hp → Prop) (hv : VX9_endPart K σ o) : yMet l w xcf 55 yX9_endPart cX9_endPart 1 none 1 [.ref (w.1 o)] σ (yQv w xcf 55 K) := by
  unfold VX9_endPart at hv
  refine y_start (lv0 := [(0, .ref (w.1 o))]) (by decide +kernel) (own := RX9) rfl hw (Nat.le_of_ble_eq_true rfl) rfl (fun p e s m below meth c A E => ?_)
  obtain ⟨hgo, hv⟩ := hv
  refine y_aload_n E dX9_endPart_0 0 rfl ?_
  refine gf_X9_4 E hgo.1 hgo.2 wm_246 dX9_endPart_1 ?_
  refine y_iconst (v := 3) E dX9_endPart_4 (by decide) ?_
  refine y_icmp_ge (tgt := 31) E dX9_endPart_5 (by decide) (fun c1 => ?_) (fun c1 => ?_)
  · replace hv := ite_t hv c1
    exact y_vret E dX9_endPart_31 hv
  · replace hv := ite_f hv c1
    refine y_aload_n E dX9_endPart_8 0 rfl ?_
    refine y_dup E dX9_endPart_9 rfl ?_
    refine gf_X9_4 E hgo.1 hgo.2 wm_246 dX9_endPart_10 ?_
    refine y_iconst (v := 1) E dX9_endPart_13 (by decide) ?_
    refine y_iadd E dX9_endPart_14 ?_
    refine pf_X9_4 E hgo.1 hgo.2 wm_246 dX9_endPart_15 ?_
    refine y_nmH (fun u2 hu2 => ?_)
    replace hv := hv u2 hu2
    refine y_aload_n E dX9_endPart_18 0 rfl ?_
    obtain ⟨x3, hx3⟩ : ∃ z : Nat, z = 31 + 1 * (o - 19) := ⟨_, rfl⟩
    replace hv := hv x3 hx3
    have hgx3 : 31 ≤ x3 ∧ x3 < 37 := by omega
    refine gf_X9_1 (q := x3) E hgo.1 hgo.2 hx3.symm wm_248 dX9_endPart_19 ?_
    refine y_aload_n E dX9_endPart_22 0 rfl ?_
    refine gf_X9_4 E hgo.1 hgo.2 wm_246 dX9_endPart_23 ?_
    refine y_aload_n E dX9_endPart_26 0 rfl ?_
    refine gf_X9_3 E hgo.1 hgo.2 wm_245 dX9_endPart_27 ?_
    obtain ⟨hi, hv⟩ := hv
    refine y_iast E (Nat.lt_of_lt_of_le hgx3.2 (by decide)) (fun _ => xc_starts hgx3.1 hgx3.2) hi dX9_endPart_30 ?_
    refine y_nmH (fun u4 hu4 => ?_)
    replace hv := hv u4 hu4
    exact y_vret E dX9_endPart_31 hv
end
section
theorem dX4_readOr_0 : decode cX4_readOr 0 = .ok (.aload_n 0, 1) := by decide +kernel
theorem dX4_readOr_1 : decode cX4_readOr 1 = .ok (.iload_n 1, 1) := by decide +kernel
theorem dX4_readOr_2 : decode cX4_readOr 2 = .ok (.invokevirtual 50, 3) := by decide +kernel
theorem dX4_readOr_5 : decode cX4_readOr 5 = .ok (.iconst 0, 1) := by decide +kernel
theorem dX4_readOr_6 : decode cX4_readOr 6 = .ok (.istore_n 2, 1) := by decide +kernel
theorem dX4_readOr_7 : decode cX4_readOr 7 = .ok (.iload_n 2, 1) := by decide +kernel
theorem dX4_readOr_8 : decode cX4_readOr 8 = .ok (.sipush 160, 3) := by decide +kernel
theorem dX4_readOr_11 : decode cX4_readOr 11 = .ok (.if_icmp .ge 36, 3) := by decide +kernel
theorem dX4_readOr_14 : decode cX4_readOr 14 = .ok (.aload_n 0, 1) := by decide +kernel
theorem dX4_readOr_15 : decode cX4_readOr 15 = .ok (.getfield 53, 3) := by decide +kernel
theorem dX4_readOr_18 : decode cX4_readOr 18 = .ok (.bipush (-15), 2) := by decide +kernel
theorem dX4_readOr_20 : decode cX4_readOr 20 = .ok (.if_icmp .ne 27, 3) := by decide +kernel
theorem dX4_readOr_23 : decode cX4_readOr 23 = .ok (.aload_n 0, 1) := by decide +kernel
theorem dX4_readOr_24 : decode cX4_readOr 24 = .ok (.invokevirtual 34, 3) := by decide +kernel
theorem dX4_readOr_27 : decode cX4_readOr 27 = .ok (.aload_n 0, 1) := by decide +kernel
theorem dX4_readOr_28 : decode cX4_readOr 28 = .ok (.iload_n 1, 1) := by decide +kernel
theorem dX4_readOr_29 : decode cX4_readOr 29 = .ok (.invokevirtual 50, 3) := by decide +kernel
theorem dX4_readOr_32 : decode cX4_readOr 32 = .ok (.aload_n 0, 1) := by decide +kernel
theorem dX4_readOr_33 : decode cX4_readOr 33 = .ok (.getfield 19, 3) := by decide +kernel
theorem dX4_readOr_36 : decode cX4_readOr 36 = .ok (.bipush (-15), 2) := by decide +kernel
theorem dX4_readOr_38 : decode cX4_readOr 38 = .ok (.invokevirtual 56, 3) := by decide +kernel
theorem dX4_readOr_41 : decode cX4_readOr 41 = .ok (.iinc 2 1, 3) := by decide +kernel
theorem dX4_readOr_44 : decode cX4_readOr 44 = .ok (.goto (-37), 3) := by decide +kernel
theorem dX4_readOr_47 : decode cX4_readOr 47 = .ok (.return_, 1) := by decide +kernel
set_option maxRecDepth 100000 in
set_option maxHeartbeats 4000000 in
theorem kX4_readOr (l : Launch) (w : wT) (hw : yOk w 55) (f : Nat) (hF : (∀ (K : Hp → Prop) (σ : Hp) (a1 : Int32), VREC f 0 K σ a1 → yMet l w xcf 55 yX4_readOr cX4_readOr 3 none (9 + f) [.ref (w.1 38), .int a1] σ (yQv w xcf 55 K)) ∧ (∀ (K : Hp → Prop) (σ : Hp) (a1 : Int32), VREC f 1 K σ a1 → yMet l w xcf 55 yX4_readAnd cX4_readAnd 3 none (9 + f) [.ref (w.1 38), .int a1] σ (yQv w xcf 55 K)) ∧ (∀ (K : Hp → Prop) (σ : Hp) (a1 : Int32), VREC f 2 K σ a1 → yMet l w xcf 55 yX4_readNot cX4_readNot 3 none (9 + f) [.ref (w.1 38), .int a1] σ (yQv w xcf 55 K)) ∧ (∀ (K : Hp → Prop) (σ : Hp) (a1 : Int32), VREC f 3 K σ a1 → yMet l w xcf 55 yX4_readSum cX4_readSum 4 none (9 + f) [.ref (w.1 38), .int a1] σ (yQv w xcf 55 K)) ∧ (∀ (K : Hp → Prop) (σ : Hp) (a1 : Int32), VREC f 4 K σ a1 → yMet l w xcf 55 yX4_readTerm cX4_readTerm 3 none (9 + f) [.ref (w.1 38), .int a1] σ (yQv w xcf 55 K)) ∧ (∀ (K : Hp → Prop) (σ : Hp) (a1 : Int32), VREC f 5 K σ a1 → yMet l w xcf 55 yX4_readOne cX4_readOne 2 none (9 + f) [.ref (w.1 38), .int a1] σ (yQv w xcf 55 K))) : ∀ (K : Hp → Prop) (σ : Hp) (a1 : Int32), BX4_readOr (VREC f) K σ a1 → yMet l w xcf 55 yX4_readOr cX4_readOr 3 none (9 + f + 1) [.ref (w.1 38), .int a1] σ (yQv w xcf 55 K) := by
  intro K σ a1 hv
  unfold BX4_readOr at hv
  refine y_start (lv0 := [(0, .ref (w.1 38)), (1, .int a1)]) (by decide +kernel) (own := RX4) rfl hw (Nat.le_of_ble_eq_true rfl) rfl (fun p e s m below meth c A E => ?_)
  have hL7 : ∀ (n7 : Nat) (σ : Hp) (l1 : Int32) (l2 : Int32), VX4_readOr_L7 (VREC f) K n7 σ l1 l2 → YY p l e (yRm (9 + f + 1)) s m [.ref (w.1 38), .int a1].toArray below meth c w xcf 55 A (MQ below (yQv w xcf 55 K A) [.ref (w.1 38), .int a1].toArray s 0 0 A) 3 σ 7 [(0, .ref (w.1 38)), (1, .int l1), (2, .int l2)] [] := by
    intro n7
    induction n7 with
    | zero => exact fun _ _ _ hv => (by unfold VX4_readOr_L7 at hv; exact hv.elim)
    | succ n7 ih7 =>
      intro σ l1 l2 hv
      unfold VX4_readOr_L7 at hv
      refine y_iload_n E dX4_readOr_7 2 rfl ?_
      refine y_sipush (v := 160) E dX4_readOr_8 (by decide) ?_
      refine y_icmp_ge (tgt := 47) E dX4_readOr_11 (by decide) (fun c3 => ?_) (fun c3 => ?_)
      · replace hv := ite_t hv c3
        exact y_vret E dX4_readOr_47 hv
      · replace hv := ite_f hv c3
        refine y_aload_n E dX4_readOr_14 0 rfl ?_
        refine gf_X4_2 E (by decide) (by decide) wm_180 dX4_readOr_15 ?_
        refine y_bipush (v := (-15)) E dX4_readOr_18 (by decide) ?_
        refine y_icmp_ne (tgt := 47) E dX4_readOr_20 (by decide) (fun c4 => ?_) (fun c4 => ?_)
        · replace hv := ite_f hv c4
          exact y_vret E dX4_readOr_47 hv
        · replace hv := ite_t hv c4
          refine y_aload_n E dX4_readOr_23 0 rfl ?_
          refine y_callv E (y_runV E (rest := []) (kX4_goOn l w E.2.2.1 σ _ hv) (y_cwV 0 E.1.2.2.2.2 wm_152 wm_162 wm_163 wm_157 wm_164 (by decide +kernel) (yRm_le (by omega) (by decide))) (Nat.lt_of_lt_of_le (show 38 < 39 by decide) (by decide)) (xc_X4 (by decide) (by decide)) rfl rfl rfl (Nat.le_of_ble_eq_true rfl) dX4_readOr_24) (fun u6 hk => ?_)
          clear hv
          have hv := hk
          clear hk
          refine y_aload_n E dX4_readOr_27 0 rfl ?_
          refine y_iload_n E dX4_readOr_28 1 rfl ?_
          refine y_callv E (y_runV E (rest := []) (hF.2.1 _ _ l1 hv) (y_cwV 1 E.1.2.2.2.2 wm_176 wm_177 wm_178 wm_157 wm_179 (by decide +kernel) (yRm_le (by omega) (by decide))) (Nat.lt_of_lt_of_le (show 38 < 39 by decide) (by decide)) (xc_X4 (by decide) (by decide)) rfl rfl rfl (Nat.le_of_ble_eq_true rfl) dX4_readOr_29) (fun u8 hk => ?_)
          clear hv
          have hv := hk
          clear hk
          refine y_aload_n E dX4_readOr_32 0 rfl ?_
          obtain ⟨hnn, hv⟩ := hv
          refine gf_X4_6 E (by decide) (by decide) hnn wm_148 dX4_readOr_33 ?_
          refine y_nmr (fun x9 hx9 => ?_)
          obtain ⟨hgx9, hv⟩ := hv x9 hx9
          refine y_bipush (v := (-15)) E dX4_readOr_36 (by decide) ?_
          refine y_callv E (y_runV E (rest := []) (kX9_add l w E.2.2.1 u8 x9 (-15) _ hv) (y_cwV 1 E.1.2.2.2.2 wm_181 wm_182 wm_183 wm_113 wm_184 (by decide +kernel) (yRm_le (by omega) (by decide))) (Nat.lt_of_lt_of_le hgx9.2 (by decide)) (xc_X9 hgx9.1 hgx9.2) rfl rfl rfl (Nat.le_of_ble_eq_true rfl) dX4_readOr_38) (fun u11 hk => ?_)
          clear hv
          have hv := hk
          clear hk
          obtain ⟨x12, hx12⟩ : ∃ z : Int32, z = l2 + 1 := ⟨_, rfl⟩
          replace hv := hv x12 hx12
          refine y_iinc (v := x12) (lv' := [(2, .int x12), (0, .ref (w.1 38)), (1, .int l1)]) E dX4_readOr_41 2 rfl (by rw [hx12]; rfl) (by decide) rfl ?_
          refine y_goto (tgt := 7) E dX4_readOr_44 (by decide) ?_
          refine y_lv (lv' := [(0, .ref (w.1 38)), (1, .int l1), (2, .int x12)]) [1, 2, 0] rfl ?_
          exact ih7 u11 l1 x12 hv
  refine y_aload_n E dX4_readOr_0 0 rfl ?_
  refine y_iload_n E dX4_readOr_1 1 rfl ?_
  refine y_callv E (y_runV E (rest := []) (hF.2.1 _ _ a1 hv) (y_cwV 1 E.1.2.2.2.2 wm_176 wm_177 wm_178 wm_157 wm_179 (by decide +kernel) (yRm_le (by omega) (by decide))) (Nat.lt_of_lt_of_le (show 38 < 39 by decide) (by decide)) (xc_X4 (by decide) (by decide)) rfl rfl rfl (Nat.le_of_ble_eq_true rfl) dX4_readOr_2) (fun u2 hk => ?_)
  clear hv
  have hv := hk
  clear hk
  refine y_iconst (v := 0) E dX4_readOr_5 (by decide) ?_
  refine y_istore_n (lv' := [(2, .int 0), (0, .ref (w.1 38)), (1, .int a1)]) E dX4_readOr_6 (by decide) rfl ?_
  refine y_lv (lv' := [(0, .ref (w.1 38)), (1, .int a1), (2, .int 0)]) [1, 2, 0] rfl ?_
  obtain ⟨n0, hv⟩ := hv
  exact hL7 n0 u2 a1 0 hv
theorem dX4_readAnd_0 : decode cX4_readAnd 0 = .ok (.aload_n 0, 1) := by decide +kernel
theorem dX4_readAnd_1 : decode cX4_readAnd 1 = .ok (.iload_n 1, 1) := by decide +kernel
theorem dX4_readAnd_2 : decode cX4_readAnd 2 = .ok (.invokevirtual 59, 3) := by decide +kernel
theorem dX4_readAnd_5 : decode cX4_readAnd 5 = .ok (.iconst 0, 1) := by decide +kernel
theorem dX4_readAnd_6 : decode cX4_readAnd 6 = .ok (.istore_n 2, 1) := by decide +kernel
theorem dX4_readAnd_7 : decode cX4_readAnd 7 = .ok (.iload_n 2, 1) := by decide +kernel
theorem dX4_readAnd_8 : decode cX4_readAnd 8 = .ok (.sipush 160, 3) := by decide +kernel
theorem dX4_readAnd_11 : decode cX4_readAnd 11 = .ok (.if_icmp .ge 36, 3) := by decide +kernel
theorem dX4_readAnd_14 : decode cX4_readAnd 14 = .ok (.aload_n 0, 1) := by decide +kernel
theorem dX4_readAnd_15 : decode cX4_readAnd 15 = .ok (.getfield 53, 3) := by decide +kernel
theorem dX4_readAnd_18 : decode cX4_readAnd 18 = .ok (.bipush (-14), 2) := by decide +kernel
theorem dX4_readAnd_20 : decode cX4_readAnd 20 = .ok (.if_icmp .ne 27, 3) := by decide +kernel
theorem dX4_readAnd_23 : decode cX4_readAnd 23 = .ok (.aload_n 0, 1) := by decide +kernel
theorem dX4_readAnd_24 : decode cX4_readAnd 24 = .ok (.invokevirtual 34, 3) := by decide +kernel
theorem dX4_readAnd_27 : decode cX4_readAnd 27 = .ok (.aload_n 0, 1) := by decide +kernel
theorem dX4_readAnd_28 : decode cX4_readAnd 28 = .ok (.iload_n 1, 1) := by decide +kernel
theorem dX4_readAnd_29 : decode cX4_readAnd 29 = .ok (.invokevirtual 59, 3) := by decide +kernel
theorem dX4_readAnd_32 : decode cX4_readAnd 32 = .ok (.aload_n 0, 1) := by decide +kernel
theorem dX4_readAnd_33 : decode cX4_readAnd 33 = .ok (.getfield 19, 3) := by decide +kernel
theorem dX4_readAnd_36 : decode cX4_readAnd 36 = .ok (.bipush (-14), 2) := by decide +kernel
theorem dX4_readAnd_38 : decode cX4_readAnd 38 = .ok (.invokevirtual 56, 3) := by decide +kernel
theorem dX4_readAnd_41 : decode cX4_readAnd 41 = .ok (.iinc 2 1, 3) := by decide +kernel
theorem dX4_readAnd_44 : decode cX4_readAnd 44 = .ok (.goto (-37), 3) := by decide +kernel
theorem dX4_readAnd_47 : decode cX4_readAnd 47 = .ok (.return_, 1) := by decide +kernel
set_option maxRecDepth 100000 in
set_option maxHeartbeats 4000000 in
theorem kX4_readAnd (l : Launch) (w : wT) (hw : yOk w 55) (f : Nat) (hF : (∀ (K : Hp → Prop) (σ : Hp) (a1 : Int32), VREC f 0 K σ a1 → yMet l w xcf 55 yX4_readOr cX4_readOr 3 none (9 + f) [.ref (w.1 38), .int a1] σ (yQv w xcf 55 K)) ∧ (∀ (K : Hp → Prop) (σ : Hp) (a1 : Int32), VREC f 1 K σ a1 → yMet l w xcf 55 yX4_readAnd cX4_readAnd 3 none (9 + f) [.ref (w.1 38), .int a1] σ (yQv w xcf 55 K)) ∧ (∀ (K : Hp → Prop) (σ : Hp) (a1 : Int32), VREC f 2 K σ a1 → yMet l w xcf 55 yX4_readNot cX4_readNot 3 none (9 + f) [.ref (w.1 38), .int a1] σ (yQv w xcf 55 K)) ∧ (∀ (K : Hp → Prop) (σ : Hp) (a1 : Int32), VREC f 3 K σ a1 → yMet l w xcf 55 yX4_readSum cX4_readSum 4 none (9 + f) [.ref (w.1 38), .int a1] σ (yQv w xcf 55 K)) ∧ (∀ (K : Hp → Prop) (σ : Hp) (a1 : Int32), VREC f 4 K σ a1 → yMet l w xcf 55 yX4_readTerm cX4_readTerm 3 none (9 + f) [.ref (w.1 38), .int a1] σ (yQv w xcf 55 K)) ∧ (∀ (K : Hp → Prop) (σ : Hp) (a1 : Int32), VREC f 5 K σ a1 → yMet l w xcf 55 yX4_readOne cX4_readOne 2 none (9 + f) [.ref (w.1 38), .int a1] σ (yQv w xcf 55 K))) : ∀ (K : Hp → Prop) (σ : Hp) (a1 : Int32), BX4_readAnd (VREC f) K σ a1 → yMet l w xcf 55 yX4_readAnd cX4_readAnd 3 none (9 + f + 1) [.ref (w.1 38), .int a1] σ (yQv w xcf 55 K) := by
  intro K σ a1 hv
  unfold BX4_readAnd at hv
  refine y_start (lv0 := [(0, .ref (w.1 38)), (1, .int a1)]) (by decide +kernel) (own := RX4) rfl hw (Nat.le_of_ble_eq_true rfl) rfl (fun p e s m below meth c A E => ?_)
  have hL7 : ∀ (n7 : Nat) (σ : Hp) (l1 : Int32) (l2 : Int32), VX4_readAnd_L7 (VREC f) K n7 σ l1 l2 → YY p l e (yRm (9 + f + 1)) s m [.ref (w.1 38), .int a1].toArray below meth c w xcf 55 A (MQ below (yQv w xcf 55 K A) [.ref (w.1 38), .int a1].toArray s 0 0 A) 3 σ 7 [(0, .ref (w.1 38)), (1, .int l1), (2, .int l2)] [] := by
    intro n7
    induction n7 with
    | zero => exact fun _ _ _ hv => (by unfold VX4_readAnd_L7 at hv; exact hv.elim)
    | succ n7 ih7 =>
      intro σ l1 l2 hv
      unfold VX4_readAnd_L7 at hv
      refine y_iload_n E dX4_readAnd_7 2 rfl ?_
      refine y_sipush (v := 160) E dX4_readAnd_8 (by decide) ?_
      refine y_icmp_ge (tgt := 47) E dX4_readAnd_11 (by decide) (fun c3 => ?_) (fun c3 => ?_)
      · replace hv := ite_t hv c3
        exact y_vret E dX4_readAnd_47 hv
      · replace hv := ite_f hv c3
        refine y_aload_n E dX4_readAnd_14 0 rfl ?_
        refine gf_X4_2 E (by decide) (by decide) wm_180 dX4_readAnd_15 ?_
        refine y_bipush (v := (-14)) E dX4_readAnd_18 (by decide) ?_
        refine y_icmp_ne (tgt := 47) E dX4_readAnd_20 (by decide) (fun c4 => ?_) (fun c4 => ?_)
        · replace hv := ite_f hv c4
          exact y_vret E dX4_readAnd_47 hv
        · replace hv := ite_t hv c4
          refine y_aload_n E dX4_readAnd_23 0 rfl ?_
          refine y_callv E (y_runV E (rest := []) (kX4_goOn l w E.2.2.1 σ _ hv) (y_cwV 0 E.1.2.2.2.2 wm_152 wm_162 wm_163 wm_157 wm_164 (by decide +kernel) (yRm_le (by omega) (by decide))) (Nat.lt_of_lt_of_le (show 38 < 39 by decide) (by decide)) (xc_X4 (by decide) (by decide)) rfl rfl rfl (Nat.le_of_ble_eq_true rfl) dX4_readAnd_24) (fun u6 hk => ?_)
          clear hv
          have hv := hk
          clear hk
          refine y_aload_n E dX4_readAnd_27 0 rfl ?_
          refine y_iload_n E dX4_readAnd_28 1 rfl ?_
          refine y_callv E (y_runV E (rest := []) (hF.2.2.1 _ _ l1 hv) (y_cwV 1 E.1.2.2.2.2 wm_185 wm_186 wm_187 wm_157 wm_188 (by decide +kernel) (yRm_le (by omega) (by decide))) (Nat.lt_of_lt_of_le (show 38 < 39 by decide) (by decide)) (xc_X4 (by decide) (by decide)) rfl rfl rfl (Nat.le_of_ble_eq_true rfl) dX4_readAnd_29) (fun u8 hk => ?_)
          clear hv
          have hv := hk
          clear hk
          refine y_aload_n E dX4_readAnd_32 0 rfl ?_
          obtain ⟨hnn, hv⟩ := hv
          refine gf_X4_6 E (by decide) (by decide) hnn wm_148 dX4_readAnd_33 ?_
          refine y_nmr (fun x9 hx9 => ?_)
          obtain ⟨hgx9, hv⟩ := hv x9 hx9
          refine y_bipush (v := (-14)) E dX4_readAnd_36 (by decide) ?_
          refine y_callv E (y_runV E (rest := []) (kX9_add l w E.2.2.1 u8 x9 (-14) _ hv) (y_cwV 1 E.1.2.2.2.2 wm_181 wm_182 wm_183 wm_113 wm_184 (by decide +kernel) (yRm_le (by omega) (by decide))) (Nat.lt_of_lt_of_le hgx9.2 (by decide)) (xc_X9 hgx9.1 hgx9.2) rfl rfl rfl (Nat.le_of_ble_eq_true rfl) dX4_readAnd_38) (fun u11 hk => ?_)
          clear hv
          have hv := hk
          clear hk
          obtain ⟨x12, hx12⟩ : ∃ z : Int32, z = l2 + 1 := ⟨_, rfl⟩
          replace hv := hv x12 hx12
          refine y_iinc (v := x12) (lv' := [(2, .int x12), (0, .ref (w.1 38)), (1, .int l1)]) E dX4_readAnd_41 2 rfl (by rw [hx12]; rfl) (by decide) rfl ?_
          refine y_goto (tgt := 7) E dX4_readAnd_44 (by decide) ?_
          refine y_lv (lv' := [(0, .ref (w.1 38)), (1, .int l1), (2, .int x12)]) [1, 2, 0] rfl ?_
          exact ih7 u11 l1 x12 hv
  refine y_aload_n E dX4_readAnd_0 0 rfl ?_
  refine y_iload_n E dX4_readAnd_1 1 rfl ?_
  refine y_callv E (y_runV E (rest := []) (hF.2.2.1 _ _ a1 hv) (y_cwV 1 E.1.2.2.2.2 wm_185 wm_186 wm_187 wm_157 wm_188 (by decide +kernel) (yRm_le (by omega) (by decide))) (Nat.lt_of_lt_of_le (show 38 < 39 by decide) (by decide)) (xc_X4 (by decide) (by decide)) rfl rfl rfl (Nat.le_of_ble_eq_true rfl) dX4_readAnd_2) (fun u2 hk => ?_)
  clear hv
  have hv := hk
  clear hk
  refine y_iconst (v := 0) E dX4_readAnd_5 (by decide) ?_
  refine y_istore_n (lv' := [(2, .int 0), (0, .ref (w.1 38)), (1, .int a1)]) E dX4_readAnd_6 (by decide) rfl ?_
  refine y_lv (lv' := [(0, .ref (w.1 38)), (1, .int a1), (2, .int 0)]) [1, 2, 0] rfl ?_
  obtain ⟨n0, hv⟩ := hv
  exact hL7 n0 u2 a1 0 hv
theorem dX4_readNot_0 : decode cX4_readNot 0 = .ok (.aload_n 0, 1) := by decide +kernel
theorem dX4_readNot_1 : decode cX4_readNot 1 = .ok (.getfield 53, 3) := by decide +kernel
theorem dX4_readNot_4 : decode cX4_readNot 4 = .ok (.bipush (-7), 2) := by decide +kernel
theorem dX4_readNot_6 : decode cX4_readNot 6 = .ok (.if_icmp .ne 29, 3) := by decide +kernel
theorem dX4_readNot_9 : decode cX4_readNot 9 = .ok (.iload_n 1, 1) := by decide +kernel
theorem dX4_readNot_10 : decode cX4_readNot 10 = .ok (.iconst 5, 1) := by decide +kernel
theorem dX4_readNot_11 : decode cX4_readNot 11 = .ok (.if_icmp .ge 24, 3) := by decide +kernel
theorem dX4_readNot_14 : decode cX4_readNot 14 = .ok (.aload_n 0, 1) := by decide +kernel
theorem dX4_readNot_15 : decode cX4_readNot 15 = .ok (.invokevirtual 34, 3) := by decide +kernel
theorem dX4_readNot_18 : decode cX4_readNot 18 = .ok (.aload_n 0, 1) := by decide +kernel
theorem dX4_readNot_19 : decode cX4_readNot 19 = .ok (.iload_n 1, 1) := by decide +kernel
theorem dX4_readNot_20 : decode cX4_readNot 20 = .ok (.iconst 1, 1) := by decide +kernel
theorem dX4_readNot_21 : decode cX4_readNot 21 = .ok (.iadd, 1) := by decide +kernel
theorem dX4_readNot_22 : decode cX4_readNot 22 = .ok (.invokevirtual 59, 3) := by decide +kernel
theorem dX4_readNot_25 : decode cX4_readNot 25 = .ok (.aload_n 0, 1) := by decide +kernel
theorem dX4_readNot_26 : decode cX4_readNot 26 = .ok (.getfield 19, 3) := by decide +kernel
theorem dX4_readNot_29 : decode cX4_readNot 29 = .ok (.bipush (-7), 2) := by decide +kernel
theorem dX4_readNot_31 : decode cX4_readNot 31 = .ok (.invokevirtual 56, 3) := by decide +kernel
theorem dX4_readNot_34 : decode cX4_readNot 34 = .ok (.return_, 1) := by decide +kernel
theorem dX4_readNot_35 : decode cX4_readNot 35 = .ok (.aload_n 0, 1) := by decide +kernel
theorem dX4_readNot_36 : decode cX4_readNot 36 = .ok (.iload_n 1, 1) := by decide +kernel
theorem dX4_readNot_37 : decode cX4_readNot 37 = .ok (.invokevirtual 62, 3) := by decide +kernel
theorem dX4_readNot_40 : decode cX4_readNot 40 = .ok (.aload_n 0, 1) := by decide +kernel
theorem dX4_readNot_41 : decode cX4_readNot 41 = .ok (.getfield 53, 3) := by decide +kernel
theorem dX4_readNot_44 : decode cX4_readNot 44 = .ok (.bipush (-12), 2) := by decide +kernel
theorem dX4_readNot_46 : decode cX4_readNot 46 = .ok (.if_icmp .eq 12, 3) := by decide +kernel
theorem dX4_readNot_49 : decode cX4_readNot 49 = .ok (.aload_n 0, 1) := by decide +kernel
theorem dX4_readNot_50 : decode cX4_readNot 50 = .ok (.getfield 53, 3) := by decide +kernel
theorem dX4_readNot_53 : decode cX4_readNot 53 = .ok (.bipush (-13), 2) := by decide +kernel
theorem dX4_readNot_55 : decode cX4_readNot 55 = .ok (.if_icmp .ne 25, 3) := by decide +kernel
theorem dX4_readNot_58 : decode cX4_readNot 58 = .ok (.aload_n 0, 1) := by decide +kernel
theorem dX4_readNot_59 : decode cX4_readNot 59 = .ok (.getfield 53, 3) := by decide +kernel
theorem dX4_readNot_62 : decode cX4_readNot 62 = .ok (.istore_n 2, 1) := by decide +kernel
theorem dX4_readNot_63 : decode cX4_readNot 63 = .ok (.aload_n 0, 1) := by decide +kernel
theorem dX4_readNot_64 : decode cX4_readNot 64 = .ok (.invokevirtual 34, 3) := by decide +kernel
theorem dX4_readNot_67 : decode cX4_readNot 67 = .ok (.aload_n 0, 1) := by decide +kernel
theorem dX4_readNot_68 : decode cX4_readNot 68 = .ok (.iload_n 1, 1) := by decide +kernel
theorem dX4_readNot_69 : decode cX4_readNot 69 = .ok (.invokevirtual 62, 3) := by decide +kernel
theorem dX4_readNot_72 : decode cX4_readNot 72 = .ok (.aload_n 0, 1) := by decide +kernel
theorem dX4_readNot_73 : decode cX4_readNot 73 = .ok (.getfield 19, 3) := by decide +kernel
theorem dX4_readNot_76 : decode cX4_readNot 76 = .ok (.iload_n 2, 1) := by decide +kernel
theorem dX4_readNot_77 : decode cX4_readNot 77 = .ok (.invokevirtual 56, 3) := by decide +kernel
theorem dX4_readNot_80 : decode cX4_readNot 80 = .ok (.return_, 1) := by decide +kernel
set_option maxRecDepth 100000 in
set_option maxHeartbeats 4000000 in
theorem kX4_readNot (l : Launch) (w : wT) (hw : yOk w 55) (f : Nat) (hF : (∀ (K : Hp → Prop) (σ : Hp) (a1 : Int32), VREC f 0 K σ a1 → yMet l w xcf 55 yX4_readOr cX4_readOr 3 none (9 + f) [.ref (w.1 38), .int a1] σ (yQv w xcf 55 K)) ∧ (∀ (K : Hp → Prop) (σ : Hp) (a1 : Int32), VREC f 1 K σ a1 → yMet l w xcf 55 yX4_readAnd cX4_readAnd 3 none (9 + f) [.ref (w.1 38), .int a1] σ (yQv w xcf 55 K)) ∧ (∀ (K : Hp → Prop) (σ : Hp) (a1 : Int32), VREC f 2 K σ a1 → yMet l w xcf 55 yX4_readNot cX4_readNot 3 none (9 + f) [.ref (w.1 38), .int a1] σ (yQv w xcf 55 K)) ∧ (∀ (K : Hp → Prop) (σ : Hp) (a1 : Int32), VREC f 3 K σ a1 → yMet l w xcf 55 yX4_readSum cX4_readSum 4 none (9 + f) [.ref (w.1 38), .int a1] σ (yQv w xcf 55 K)) ∧ (∀ (K : Hp → Prop) (σ : Hp) (a1 : Int32), VREC f 4 K σ a1 → yMet l w xcf 55 yX4_readTerm cX4_readTerm 3 none (9 + f) [.ref (w.1 38), .int a1] σ (yQv w xcf 55 K)) ∧ (∀ (K : Hp → Prop) (σ : Hp) (a1 : Int32), VREC f 5 K σ a1 → yMet l w xcf 55 yX4_readOne cX4_readOne 2 none (9 + f) [.ref (w.1 38), .int a1] σ (yQv w xcf 55 K))) : ∀ (K : Hp → Prop) (σ : Hp) (a1 : Int32), BX4_readNot (VREC f) K σ a1 → yMet l w xcf 55 yX4_readNot cX4_readNot 3 none (9 + f + 1) [.ref (w.1 38), .int a1] σ (yQv w xcf 55 K) := by
  intro K σ a1 hv
  unfold BX4_readNot at hv
  refine y_start (lv0 := [(0, .ref (w.1 38)), (1, .int a1)]) (by decide +kernel) (own := RX4) rfl hw (Nat.le_of_ble_eq_true rfl) rfl (fun p e s m below meth c A E => ?_)
  have hb58 : ∀ (σ : Hp) (l1 : Int32), VX4_readNot_b58 (VREC f) K σ l1 → YY p l e (yRm (9 + f + 1)) s m [.ref (w.1 38), .int a1].toArray below meth c w xcf 55 A (MQ below (yQv w xcf 55 K A) [.ref (w.1 38), .int a1].toArray s 0 0 A) 3 σ 58 [(0, .ref (w.1 38)), (1, .int l1)] [] := by
    intro σ l1 hv
    unfold VX4_readNot_b58 at hv
    refine y_aload_n E dX4_readNot_58 0 rfl ?_
    refine gf_X4_2 E (by decide) (by decide) wm_180 dX4_readNot_59 ?_
    refine y_nmi (fun x14 hx14 => ?_)
    replace hv := hv x14 hx14
    refine y_istore_n (lv' := [(2, .int x14), (0, .ref (w.1 38)), (1, .int l1)]) E dX4_readNot_62 (by decide) rfl ?_
    refine y_aload_n E dX4_readNot_63 1 rfl ?_
    refine y_callv E (y_runV E (rest := []) (kX4_goOn l w E.2.2.1 σ _ hv) (y_cwV 0 E.1.2.2.2.2 wm_152 wm_162 wm_163 wm_157 wm_164 (by decide +kernel) (yRm_le (by omega) (by decide))) (Nat.lt_of_lt_of_le (show 38 < 39 by decide) (by decide)) (xc_X4 (by decide) (by decide)) rfl rfl rfl (Nat.le_of_ble_eq_true rfl) dX4_readNot_64) (fun u16 hk => ?_)
    clear hv
    have hv := hk
    clear hk
    refine y_aload_n E dX4_readNot_67 1 rfl ?_
    refine y_iload_n E dX4_readNot_68 2 rfl ?_
    refine y_callv E (y_runV E (rest := []) (hF.2.2.2.1 _ _ l1 hv) (y_cwV 1 E.1.2.2.2.2 wm_189 wm_190 wm_191 wm_157 wm_192 (by decide +kernel) (yRm_le (by omega) (by decide))) (Nat.lt_of_lt_of_le (show 38 < 39 by decide) (by decide)) (xc_X4 (by decide) (by decide)) rfl rfl rfl (Nat.le_of_ble_eq_true rfl) dX4_readNot_69) (fun u18 hk => ?_)
    clear hv
    have hv := hk
    clear hk
    refine y_aload_n E dX4_readNot_72 1 rfl ?_
    obtain ⟨hnn, hv⟩ := hv
    refine gf_X4_6 E (by decide) (by decide) hnn wm_148 dX4_readNot_73 ?_
    refine y_nmr (fun x19 hx19 => ?_)
    obtain ⟨hgx19, hv⟩ := hv x19 hx19
    refine y_iload_n E dX4_readNot_76 0 rfl ?_
    refine y_callv E (y_runV E (rest := []) (kX9_add l w E.2.2.1 u18 x19 x14 _ hv) (y_cwV 1 E.1.2.2.2.2 wm_181 wm_182 wm_183 wm_113 wm_184 (by decide +kernel) (yRm_le (by omega) (by decide))) (Nat.lt_of_lt_of_le hgx19.2 (by decide)) (xc_X9 hgx19.1 hgx19.2) rfl rfl rfl (Nat.le_of_ble_eq_true rfl) dX4_readNot_77) (fun u21 hk => ?_)
    clear hv
    have hv := hk
    clear hk
    exact y_vret E dX4_readNot_80 hv
  have hb35 : ∀ (σ : Hp) (l1 : Int32), VX4_readNot_b35 (VREC f) K σ l1 → YY p l e (yRm (9 + f + 1)) s m [.ref (w.1 38), .int a1].toArray below meth c w xcf 55 A (MQ below (yQv w xcf 55 K A) [.ref (w.1 38), .int a1].toArray s 0 0 A) 3 σ 35 [(0, .ref (w.1 38)), (1, .int l1)] [] := by
    intro σ l1 hv
    unfold VX4_readNot_b35 at hv
    refine y_aload_n E dX4_readNot_35 0 rfl ?_
    refine y_iload_n E dX4_readNot_36 1 rfl ?_
    refine y_callv E (y_runV E (rest := []) (hF.2.2.2.1 _ _ l1 hv) (y_cwV 1 E.1.2.2.2.2 wm_189 wm_190 wm_191 wm_157 wm_192 (by decide +kernel) (yRm_le (by omega) (by decide))) (Nat.lt_of_lt_of_le (show 38 < 39 by decide) (by decide)) (xc_X4 (by decide) (by decide)) rfl rfl rfl (Nat.le_of_ble_eq_true rfl) dX4_readNot_37) (fun u11 hk => ?_)
    clear hv
    have hv := hk
    clear hk
    refine y_aload_n E dX4_readNot_40 0 rfl ?_
    refine gf_X4_2 E (by decide) (by decide) wm_180 dX4_readNot_41 ?_
    refine y_bipush (v := (-12)) E dX4_readNot_44 (by decide) ?_
    refine y_icmp_eq (tgt := 58) E dX4_readNot_46 (by decide) (fun c12 => ?_) (fun c12 => ?_)
    · replace hv := ite_t hv c12
      exact hb58 u11 l1 hv
    · replace hv := ite_f hv c12
      refine y_aload_n E dX4_readNot_49 0 rfl ?_
      refine gf_X4_2 E (by decide) (by decide) wm_180 dX4_readNot_50 ?_
      refine y_bipush (v := (-13)) E dX4_readNot_53 (by decide) ?_
      refine y_icmp_ne (tgt := 80) E dX4_readNot_55 (by decide) (fun c13 => ?_) (fun c13 => ?_)
      · replace hv := ite_f hv c13
        exact y_vret E dX4_readNot_80 hv
      · replace hv := ite_t hv c13
        exact hb58 u11 l1 hv
  refine y_aload_n E dX4_readNot_0 0 rfl ?_
  refine gf_X4_2 E (by decide) (by decide) wm_180 dX4_readNot_1 ?_
  refine y_bipush (v := (-7)) E dX4_readNot_4 (by decide) ?_
  refine y_icmp_ne (tgt := 35) E dX4_readNot_6 (by decide) (fun c1 => ?_) (fun c1 => ?_)
  · replace hv := ite_f hv c1
    exact hb35 σ a1 hv
  · replace hv := ite_t hv c1
    refine y_iload_n E dX4_readNot_9 1 rfl ?_
    refine y_iconst (v := 5) E dX4_readNot_10 (by decide) ?_
    refine y_icmp_ge (tgt := 35) E dX4_readNot_11 (by decide) (fun c2 => ?_) (fun c2 => ?_)
    · replace hv := ite_t hv c2
      exact hb35 σ a1 hv
    · replace hv := ite_f hv c2
      refine y_aload_n E dX4_readNot_14 0 rfl ?_
      refine y_callv E (y_runV E (rest := []) (kX4_goOn l w E.2.2.1 σ _ hv) (y_cwV 0 E.1.2.2.2.2 wm_152 wm_162 wm_163 wm_157 wm_164 (by decide +kernel) (yRm_le (by omega) (by decide))) (Nat.lt_of_lt_of_le (show 38 < 39 by decide) (by decide)) (xc_X4 (by decide) (by decide)) rfl rfl rfl (Nat.le_of_ble_eq_true rfl) dX4_readNot_15) (fun u4 hk => ?_)
      clear hv
      have hv := hk
      clear hk
      refine y_aload_n E dX4_readNot_18 0 rfl ?_
      refine y_iload_n E dX4_readNot_19 1 rfl ?_
      refine y_iconst (v := 1) E dX4_readNot_20 (by decide) ?_
      refine y_iadd E dX4_readNot_21 ?_
      refine y_callv E (y_runV E (rest := []) (hF.2.2.1 _ _ (a1 + 1) hv) (y_cwV 1 E.1.2.2.2.2 wm_185 wm_186 wm_187 wm_157 wm_188 (by decide +kernel) (yRm_le (by omega) (by decide))) (Nat.lt_of_lt_of_le (show 38 < 39 by decide) (by decide)) (xc_X4 (by decide) (by decide)) rfl rfl rfl (Nat.le_of_ble_eq_true rfl) dX4_readNot_22) (fun u6 hk => ?_)
      clear hv
      have hv := hk
      clear hk
      refine y_aload_n E dX4_readNot_25 0 rfl ?_
      obtain ⟨hnn, hv⟩ := hv
      refine gf_X4_6 E (by decide) (by decide) hnn wm_148 dX4_readNot_26 ?_
      refine y_nmr (fun x7 hx7 => ?_)
      obtain ⟨hgx7, hv⟩ := hv x7 hx7
      refine y_bipush (v := (-7)) E dX4_readNot_29 (by decide) ?_
      refine y_callv E (y_runV E (rest := []) (kX9_add l w E.2.2.1 u6 x7 (-7) _ hv) (y_cwV 1 E.1.2.2.2.2 wm_181 wm_182 wm_183 wm_113 wm_184 (by decide +kernel) (yRm_le (by omega) (by decide))) (Nat.lt_of_lt_of_le hgx7.2 (by decide)) (xc_X9 hgx7.1 hgx7.2) rfl rfl rfl (Nat.le_of_ble_eq_true rfl) dX4_readNot_31) (fun u9 hk => ?_)
      clear hv
      have hv := hk
      clear hk
      exact y_vret E dX4_readNot_34 hv
theorem dX4_readSum_0 : decode cX4_readSum 0 = .ok (.aload_n 0, 1) := by decide +kernel
theorem dX4_readSum_1 : decode cX4_readSum 1 = .ok (.iload_n 1, 1) := by decide +kernel
theorem dX4_readSum_2 : decode cX4_readSum 2 = .ok (.invokevirtual 65, 3) := by decide +kernel
theorem dX4_readSum_5 : decode cX4_readSum 5 = .ok (.iconst 0, 1) := by decide +kernel
theorem dX4_readSum_6 : decode cX4_readSum 6 = .ok (.istore_n 2, 1) := by decide +kernel
theorem dX4_readSum_7 : decode cX4_readSum 7 = .ok (.iload_n 2, 1) := by decide +kernel
theorem dX4_readSum_8 : decode cX4_readSum 8 = .ok (.sipush 160, 3) := by decide +kernel
theorem dX4_readSum_11 : decode cX4_readSum 11 = .ok (.if_icmp .ge 49, 3) := by decide +kernel
theorem dX4_readSum_14 : decode cX4_readSum 14 = .ok (.aload_n 0, 1) := by decide +kernel
theorem dX4_readSum_15 : decode cX4_readSum 15 = .ok (.getfield 53, 3) := by decide +kernel
theorem dX4_readSum_18 : decode cX4_readSum 18 = .ok (.bipush (-9), 2) := by decide +kernel
theorem dX4_readSum_20 : decode cX4_readSum 20 = .ok (.if_icmp .eq 12, 3) := by decide +kernel
theorem dX4_readSum_23 : decode cX4_readSum 23 = .ok (.aload_n 0, 1) := by decide +kernel
theorem dX4_readSum_24 : decode cX4_readSum 24 = .ok (.getfield 53, 3) := by decide +kernel
theorem dX4_readSum_27 : decode cX4_readSum 27 = .ok (.bipush (-10), 2) := by decide +kernel
theorem dX4_readSum_29 : decode cX4_readSum 29 = .ok (.if_icmp .ne 31, 3) := by decide +kernel
theorem dX4_readSum_32 : decode cX4_readSum 32 = .ok (.aload_n 0, 1) := by decide +kernel
theorem dX4_readSum_33 : decode cX4_readSum 33 = .ok (.getfield 53, 3) := by decide +kernel
theorem dX4_readSum_36 : decode cX4_readSum 36 = .ok (.istore_n 3, 1) := by decide +kernel
theorem dX4_readSum_37 : decode cX4_readSum 37 = .ok (.aload_n 0, 1) := by decide +kernel
theorem dX4_readSum_38 : decode cX4_readSum 38 = .ok (.invokevirtual 34, 3) := by decide +kernel
theorem dX4_readSum_41 : decode cX4_readSum 41 = .ok (.aload_n 0, 1) := by decide +kernel
theorem dX4_readSum_42 : decode cX4_readSum 42 = .ok (.iload_n 1, 1) := by decide +kernel
theorem dX4_readSum_43 : decode cX4_readSum 43 = .ok (.invokevirtual 65, 3) := by decide +kernel
theorem dX4_readSum_46 : decode cX4_readSum 46 = .ok (.aload_n 0, 1) := by decide +kernel
theorem dX4_readSum_47 : decode cX4_readSum 47 = .ok (.getfield 19, 3) := by decide +kernel
theorem dX4_readSum_50 : decode cX4_readSum 50 = .ok (.iload_n 3, 1) := by decide +kernel
theorem dX4_readSum_51 : decode cX4_readSum 51 = .ok (.invokevirtual 56, 3) := by decide +kernel
theorem dX4_readSum_54 : decode cX4_readSum 54 = .ok (.iinc 2 1, 3) := by decide +kernel
theorem dX4_readSum_57 : decode cX4_readSum 57 = .ok (.goto (-50), 3) := by decide +kernel
theorem dX4_readSum_60 : decode cX4_readSum 60 = .ok (.return_, 1) := by decide +kernel
set_option maxRecDepth 100000 in
set_option maxHeartbeats 4000000 in
theorem kX4_readSum (l : Launch) (w : wT) (hw : yOk w 55) (f : Nat) (hF : (∀ (K : Hp → Prop) (σ : Hp) (a1 : Int32), VREC f 0 K σ a1 → yMet l w xcf 55 yX4_readOr cX4_readOr 3 none (9 + f) [.ref (w.1 38), .int a1] σ (yQv w xcf 55 K)) ∧ (∀ (K : Hp → Prop) (σ : Hp) (a1 : Int32), VREC f 1 K σ a1 → yMet l w xcf 55 yX4_readAnd cX4_readAnd 3 none (9 + f) [.ref (w.1 38), .int a1] σ (yQv w xcf 55 K)) ∧ (∀ (K : Hp → Prop) (σ : Hp) (a1 : Int32), VREC f 2 K σ a1 → yMet l w xcf 55 yX4_readNot cX4_readNot 3 none (9 + f) [.ref (w.1 38), .int a1] σ (yQv w xcf 55 K)) ∧ (∀ (K : Hp → Prop) (σ : Hp) (a1 : Int32), VREC f 3 K σ a1 → yMet l w xcf 55 yX4_readSum cX4_readSum 4 none (9 + f) [.ref (w.1 38), .int a1] σ (yQv w xcf 55 K)) ∧ (∀ (K : Hp → Prop) (σ : Hp) (a1 : Int32), VREC f 4 K σ a1 → yMet l w xcf 55 yX4_readTerm cX4_readTerm 3 none (9 + f) [.ref (w.1 38), .int a1] σ (yQv w xcf 55 K)) ∧ (∀ (K : Hp → Prop) (σ : Hp) (a1 : Int32), VREC f 5 K σ a1 → yMet l w xcf 55 yX4_readOne cX4_readOne 2 none (9 + f) [.ref (w.1 38), .int a1] σ (yQv w xcf 55 K))) : ∀ (K : Hp → Prop) (σ : Hp) (a1 : Int32), BX4_readSum (VREC f) K σ a1 → yMet l w xcf 55 yX4_readSum cX4_readSum 4 none (9 + f + 1) [.ref (w.1 38), .int a1] σ (yQv w xcf 55 K) := by
  intro K σ a1 hv
  unfold BX4_readSum at hv
  refine y_start (lv0 := [(0, .ref (w.1 38)), (1, .int a1)]) (by decide +kernel) (own := RX4) rfl hw (Nat.le_of_ble_eq_true rfl) rfl (fun p e s m below meth c A E => ?_)
  have hL7 : ∀ (n7 : Nat) (σ : Hp) (l1 : Int32) (l2 : Int32), VX4_readSum_L7 (VREC f) K n7 σ l1 l2 → YY p l e (yRm (9 + f + 1)) s m [.ref (w.1 38), .int a1].toArray below meth c w xcf 55 A (MQ below (yQv w xcf 55 K A) [.ref (w.1 38), .int a1].toArray s 0 0 A) 4 σ 7 [(0, .ref (w.1 38)), (1, .int l1), (2, .int l2)] [] := by
    intro n7
    induction n7 with
    | zero => exact fun _ _ _ hv => (by unfold VX4_readSum_L7 at hv; exact hv.elim)
    | succ n7 ih7 =>
      have hb32 : ∀ (σ : Hp) (l1 : Int32) (l2 : Int32), VX4_readSum_b32 (VREC f) K (VX4_readSum_L7 (VREC f) K n7) σ l1 l2 → YY p l e (yRm (9 + f + 1)) s m [.ref (w.1 38), .int a1].toArray below meth c w xcf 55 A (MQ below (yQv w xcf 55 K A) [.ref (w.1 38), .int a1].toArray s 0 0 A) 4 σ 32 [(0, .ref (w.1 38)), (1, .int l1), (2, .int l2)] [] := by
        intro σ l1 l2 hv
        unfold VX4_readSum_b32 at hv
        refine y_aload_n E dX4_readSum_32 0 rfl ?_
        refine gf_X4_2 E (by decide) (by decide) wm_180 dX4_readSum_33 ?_
        refine y_nmi (fun x6 hx6 => ?_)
        replace hv := hv x6 hx6
        refine y_istore_n (lv' := [(3, .int x6), (0, .ref (w.1 38)), (1, .int l1), (2, .int l2)]) E dX4_readSum_36 (by decide) rfl ?_
        refine y_aload_n E dX4_readSum_37 1 rfl ?_
        refine y_callv E (y_runV E (rest := []) (kX4_goOn l w E.2.2.1 σ _ hv) (y_cwV 0 E.1.2.2.2.2 wm_152 wm_162 wm_163 wm_157 wm_164 (by decide +kernel) (yRm_le (by omega) (by decide))) (Nat.lt_of_lt_of_le (show 38 < 39 by decide) (by decide)) (xc_X4 (by decide) (by decide)) rfl rfl rfl (Nat.le_of_ble_eq_true rfl) dX4_readSum_38) (fun u8 hk => ?_)
        clear hv
        have hv := hk
        clear hk
        refine y_aload_n E dX4_readSum_41 1 rfl ?_
        refine y_iload_n E dX4_readSum_42 2 rfl ?_
        refine y_callv E (y_runV E (rest := []) (hF.2.2.2.2.1 _ _ l1 hv) (y_cwV 1 E.1.2.2.2.2 wm_193 wm_194 wm_195 wm_157 wm_196 (by decide +kernel) (yRm_le (by omega) (by decide))) (Nat.lt_of_lt_of_le (show 38 < 39 by decide) (by decide)) (xc_X4 (by decide) (by decide)) rfl rfl rfl (Nat.le_of_ble_eq_true rfl) dX4_readSum_43) (fun u10 hk => ?_)
        clear hv
        have hv := hk
        clear hk
        refine y_aload_n E dX4_readSum_46 1 rfl ?_
        obtain ⟨hnn, hv⟩ := hv
        refine gf_X4_6 E (by decide) (by decide) hnn wm_148 dX4_readSum_47 ?_
        refine y_nmr (fun x11 hx11 => ?_)
        obtain ⟨hgx11, hv⟩ := hv x11 hx11
        refine y_iload_n E dX4_readSum_50 0 rfl ?_
        refine y_callv E (y_runV E (rest := []) (kX9_add l w E.2.2.1 u10 x11 x6 _ hv) (y_cwV 1 E.1.2.2.2.2 wm_181 wm_182 wm_183 wm_113 wm_184 (by decide +kernel) (yRm_le (by omega) (by decide))) (Nat.lt_of_lt_of_le hgx11.2 (by decide)) (xc_X9 hgx11.1 hgx11.2) rfl rfl rfl (Nat.le_of_ble_eq_true rfl) dX4_readSum_51) (fun u13 hk => ?_)
        clear hv
        have hv := hk
        clear hk
        obtain ⟨x14, hx14⟩ : ∃ z : Int32, z = l2 + 1 := ⟨_, rfl⟩
        replace hv := hv x14 hx14
        refine y_iinc (v := x14) (lv' := [(2, .int x14), (3, .int x6), (0, .ref (w.1 38)), (1, .int l1)]) E dX4_readSum_54 3 rfl (by rw [hx14]; rfl) (by decide) rfl ?_
        refine y_goto (tgt := 7) E dX4_readSum_57 (by decide) ?_
        refine y_lv (lv' := [(0, .ref (w.1 38)), (1, .int l1), (2, .int x14)]) [2, 3, 0] rfl ?_
        exact ih7 u13 l1 x14 hv
      intro σ l1 l2 hv
      unfold VX4_readSum_L7 at hv
      refine y_iload_n E dX4_readSum_7 2 rfl ?_
      refine y_sipush (v := 160) E dX4_readSum_8 (by decide) ?_
      refine y_icmp_ge (tgt := 60) E dX4_readSum_11 (by decide) (fun c3 => ?_) (fun c3 => ?_)
      · replace hv := ite_t hv c3
        exact y_vret E dX4_readSum_60 hv
      · replace hv := ite_f hv c3
        refine y_aload_n E dX4_readSum_14 0 rfl ?_
        refine gf_X4_2 E (by decide) (by decide) wm_180 dX4_readSum_15 ?_
        refine y_bipush (v := (-9)) E dX4_readSum_18 (by decide) ?_
        refine y_icmp_eq (tgt := 32) E dX4_readSum_20 (by decide) (fun c4 => ?_) (fun c4 => ?_)
        · replace hv := ite_t hv c4
          exact hb32 σ l1 l2 hv
        · replace hv := ite_f hv c4
          refine y_aload_n E dX4_readSum_23 0 rfl ?_
          refine gf_X4_2 E (by decide) (by decide) wm_180 dX4_readSum_24 ?_
          refine y_bipush (v := (-10)) E dX4_readSum_27 (by decide) ?_
          refine y_icmp_ne (tgt := 60) E dX4_readSum_29 (by decide) (fun c5 => ?_) (fun c5 => ?_)
          · replace hv := ite_f hv c5
            exact y_vret E dX4_readSum_60 hv
          · replace hv := ite_t hv c5
            exact hb32 σ l1 l2 hv
  refine y_aload_n E dX4_readSum_0 0 rfl ?_
  refine y_iload_n E dX4_readSum_1 1 rfl ?_
  refine y_callv E (y_runV E (rest := []) (hF.2.2.2.2.1 _ _ a1 hv) (y_cwV 1 E.1.2.2.2.2 wm_193 wm_194 wm_195 wm_157 wm_196 (by decide +kernel) (yRm_le (by omega) (by decide))) (Nat.lt_of_lt_of_le (show 38 < 39 by decide) (by decide)) (xc_X4 (by decide) (by decide)) rfl rfl rfl (Nat.le_of_ble_eq_true rfl) dX4_readSum_2) (fun u2 hk => ?_)
  clear hv
  have hv := hk
  clear hk
  refine y_iconst (v := 0) E dX4_readSum_5 (by decide) ?_
  refine y_istore_n (lv' := [(2, .int 0), (0, .ref (w.1 38)), (1, .int a1)]) E dX4_readSum_6 (by decide) rfl ?_
  refine y_lv (lv' := [(0, .ref (w.1 38)), (1, .int a1), (2, .int 0)]) [1, 2, 0] rfl ?_
  obtain ⟨n0, hv⟩ := hv
  exact hL7 n0 u2 a1 0 hv
theorem dX4_readTerm_0 : decode cX4_readTerm 0 = .ok (.aload_n 0, 1) := by decide +kernel
theorem dX4_readTerm_1 : decode cX4_readTerm 1 = .ok (.iload_n 1, 1) := by decide +kernel
theorem dX4_readTerm_2 : decode cX4_readTerm 2 = .ok (.invokevirtual 68, 3) := by decide +kernel
theorem dX4_readTerm_5 : decode cX4_readTerm 5 = .ok (.iconst 0, 1) := by decide +kernel
theorem dX4_readTerm_6 : decode cX4_readTerm 6 = .ok (.istore_n 2, 1) := by decide +kernel
theorem dX4_readTerm_7 : decode cX4_readTerm 7 = .ok (.iload_n 2, 1) := by decide +kernel
theorem dX4_readTerm_8 : decode cX4_readTerm 8 = .ok (.sipush 160, 3) := by decide +kernel
theorem dX4_readTerm_11 : decode cX4_readTerm 11 = .ok (.if_icmp .ge 36, 3) := by decide +kernel
theorem dX4_readTerm_14 : decode cX4_readTerm 14 = .ok (.aload_n 0, 1) := by decide +kernel
theorem dX4_readTerm_15 : decode cX4_readTerm 15 = .ok (.getfield 53, 3) := by decide +kernel
theorem dX4_readTerm_18 : decode cX4_readTerm 18 = .ok (.bipush (-11), 2) := by decide +kernel
theorem dX4_readTerm_20 : decode cX4_readTerm 20 = .ok (.if_icmp .ne 27, 3) := by decide +kernel
theorem dX4_readTerm_23 : decode cX4_readTerm 23 = .ok (.aload_n 0, 1) := by decide +kernel
theorem dX4_readTerm_24 : decode cX4_readTerm 24 = .ok (.invokevirtual 34, 3) := by decide +kernel
theorem dX4_readTerm_27 : decode cX4_readTerm 27 = .ok (.aload_n 0, 1) := by decide +kernel
theorem dX4_readTerm_28 : decode cX4_readTerm 28 = .ok (.iload_n 1, 1) := by decide +kernel
theorem dX4_readTerm_29 : decode cX4_readTerm 29 = .ok (.invokevirtual 68, 3) := by decide +kernel
theorem dX4_readTerm_32 : decode cX4_readTerm 32 = .ok (.aload_n 0, 1) := by decide +kernel
theorem dX4_readTerm_33 : decode cX4_readTerm 33 = .ok (.getfield 19, 3) := by decide +kernel
theorem dX4_readTerm_36 : decode cX4_readTerm 36 = .ok (.bipush (-11), 2) := by decide +kernel
theorem dX4_readTerm_38 : decode cX4_readTerm 38 = .ok (.invokevirtual 56, 3) := by decide +kernel
theorem dX4_readTerm_41 : decode cX4_readTerm 41 = .ok (.iinc 2 1, 3) := by decide +kernel
theorem dX4_readTerm_44 : decode cX4_readTerm 44 = .ok (.goto (-37), 3) := by decide +kernel
theorem dX4_readTerm_47 : decode cX4_readTerm 47 = .ok (.return_, 1) := by decide +kernel
set_option maxRecDepth 100000 in
set_option maxHeartbeats 4000000 in
theorem kX4_readTerm (l : Launch) (w : wT) (hw : yOk w 55) (f : Nat) (hF : (∀ (K : Hp → Prop) (σ : Hp) (a1 : Int32), VREC f 0 K σ a1 → yMet l w xcf 55 yX4_readOr cX4_readOr 3 none (9 + f) [.ref (w.1 38), .int a1] σ (yQv w xcf 55 K)) ∧ (∀ (K : Hp → Prop) (σ : Hp) (a1 : Int32), VREC f 1 K σ a1 → yMet l w xcf 55 yX4_readAnd cX4_readAnd 3 none (9 + f) [.ref (w.1 38), .int a1] σ (yQv w xcf 55 K)) ∧ (∀ (K : Hp → Prop) (σ : Hp) (a1 : Int32), VREC f 2 K σ a1 → yMet l w xcf 55 yX4_readNot cX4_readNot 3 none (9 + f) [.ref (w.1 38), .int a1] σ (yQv w xcf 55 K)) ∧ (∀ (K : Hp → Prop) (σ : Hp) (a1 : Int32), VREC f 3 K σ a1 → yMet l w xcf 55 yX4_readSum cX4_readSum 4 none (9 + f) [.ref (w.1 38), .int a1] σ (yQv w xcf 55 K)) ∧ (∀ (K : Hp → Prop) (σ : Hp) (a1 : Int32), VREC f 4 K σ a1 → yMet l w xcf 55 yX4_readTerm cX4_readTerm 3 none (9 + f) [.ref (w.1 38), .int a1] σ (yQv w xcf 55 K)) ∧ (∀ (K : Hp → Prop) (σ : Hp) (a1 : Int32), VREC f 5 K σ a1 → yMet l w xcf 55 yX4_readOne cX4_readOne 2 none (9 + f) [.ref (w.1 38), .int a1] σ (yQv w xcf 55 K))) : ∀ (K : Hp → Prop) (σ : Hp) (a1 : Int32), BX4_readTerm (VREC f) K σ a1 → yMet l w xcf 55 yX4_readTerm cX4_readTerm 3 none (9 + f + 1) [.ref (w.1 38), .int a1] σ (yQv w xcf 55 K) := by
  intro K σ a1 hv
  unfold BX4_readTerm at hv
  refine y_start (lv0 := [(0, .ref (w.1 38)), (1, .int a1)]) (by decide +kernel) (own := RX4) rfl hw (Nat.le_of_ble_eq_true rfl) rfl (fun p e s m below meth c A E => ?_)
  have hL7 : ∀ (n7 : Nat) (σ : Hp) (l1 : Int32) (l2 : Int32), VX4_readTerm_L7 (VREC f) K n7 σ l1 l2 → YY p l e (yRm (9 + f + 1)) s m [.ref (w.1 38), .int a1].toArray below meth c w xcf 55 A (MQ below (yQv w xcf 55 K A) [.ref (w.1 38), .int a1].toArray s 0 0 A) 3 σ 7 [(0, .ref (w.1 38)), (1, .int l1), (2, .int l2)] [] := by
    intro n7
    induction n7 with
    | zero => exact fun _ _ _ hv => (by unfold VX4_readTerm_L7 at hv; exact hv.elim)
    | succ n7 ih7 =>
      intro σ l1 l2 hv
      unfold VX4_readTerm_L7 at hv
      refine y_iload_n E dX4_readTerm_7 2 rfl ?_
      refine y_sipush (v := 160) E dX4_readTerm_8 (by decide) ?_
      refine y_icmp_ge (tgt := 47) E dX4_readTerm_11 (by decide) (fun c3 => ?_) (fun c3 => ?_)
      · replace hv := ite_t hv c3
        exact y_vret E dX4_readTerm_47 hv
      · replace hv := ite_f hv c3
        refine y_aload_n E dX4_readTerm_14 0 rfl ?_
        refine gf_X4_2 E (by decide) (by decide) wm_180 dX4_readTerm_15 ?_
        refine y_bipush (v := (-11)) E dX4_readTerm_18 (by decide) ?_
        refine y_icmp_ne (tgt := 47) E dX4_readTerm_20 (by decide) (fun c4 => ?_) (fun c4 => ?_)
        · replace hv := ite_f hv c4
          exact y_vret E dX4_readTerm_47 hv
        · replace hv := ite_t hv c4
          refine y_aload_n E dX4_readTerm_23 0 rfl ?_
          refine y_callv E (y_runV E (rest := []) (kX4_goOn l w E.2.2.1 σ _ hv) (y_cwV 0 E.1.2.2.2.2 wm_152 wm_162 wm_163 wm_157 wm_164 (by decide +kernel) (yRm_le (by omega) (by decide))) (Nat.lt_of_lt_of_le (show 38 < 39 by decide) (by decide)) (xc_X4 (by decide) (by decide)) rfl rfl rfl (Nat.le_of_ble_eq_true rfl) dX4_readTerm_24) (fun u6 hk => ?_)
          clear hv
          have hv := hk
          clear hk
          refine y_aload_n E dX4_readTerm_27 0 rfl ?_
          refine y_iload_n E dX4_readTerm_28 1 rfl ?_
          refine y_callv E (y_runV E (rest := []) (hF.2.2.2.2.2 _ _ l1 hv) (y_cwV 1 E.1.2.2.2.2 wm_197 wm_198 wm_199 wm_157 wm_200 (by decide +kernel) (yRm_le (by omega) (by decide))) (Nat.lt_of_lt_of_le (show 38 < 39 by decide) (by decide)) (xc_X4 (by decide) (by decide)) rfl rfl rfl (Nat.le_of_ble_eq_true rfl) dX4_readTerm_29) (fun u8 hk => ?_)
          clear hv
          have hv := hk
          clear hk
          refine y_aload_n E dX4_readTerm_32 0 rfl ?_
          obtain ⟨hnn, hv⟩ := hv
          refine gf_X4_6 E (by decide) (by decide) hnn wm_148 dX4_readTerm_33 ?_
          refine y_nmr (fun x9 hx9 => ?_)
          obtain ⟨hgx9, hv⟩ := hv x9 hx9
          refine y_bipush (v := (-11)) E dX4_readTerm_36 (by decide) ?_
          refine y_callv E (y_runV E (rest := []) (kX9_add l w E.2.2.1 u8 x9 (-11) _ hv) (y_cwV 1 E.1.2.2.2.2 wm_181 wm_182 wm_183 wm_113 wm_184 (by decide +kernel) (yRm_le (by omega) (by decide))) (Nat.lt_of_lt_of_le hgx9.2 (by decide)) (xc_X9 hgx9.1 hgx9.2) rfl rfl rfl (Nat.le_of_ble_eq_true rfl) dX4_readTerm_38) (fun u11 hk => ?_)
          clear hv
          have hv := hk
          clear hk
          obtain ⟨x12, hx12⟩ : ∃ z : Int32, z = l2 + 1 := ⟨_, rfl⟩
          replace hv := hv x12 hx12
          refine y_iinc (v := x12) (lv' := [(2, .int x12), (0, .ref (w.1 38)), (1, .int l1)]) E dX4_readTerm_41 2 rfl (by rw [hx12]; rfl) (by decide) rfl ?_
          refine y_goto (tgt := 7) E dX4_readTerm_44 (by decide) ?_
          refine y_lv (lv' := [(0, .ref (w.1 38)), (1, .int l1), (2, .int x12)]) [1, 2, 0] rfl ?_
          exact ih7 u11 l1 x12 hv
  refine y_aload_n E dX4_readTerm_0 0 rfl ?_
  refine y_iload_n E dX4_readTerm_1 1 rfl ?_
  refine y_callv E (y_runV E (rest := []) (hF.2.2.2.2.2 _ _ a1 hv) (y_cwV 1 E.1.2.2.2.2 wm_197 wm_198 wm_199 wm_157 wm_200 (by decide +kernel) (yRm_le (by omega) (by decide))) (Nat.lt_of_lt_of_le (show 38 < 39 by decide) (by decide)) (xc_X4 (by decide) (by decide)) rfl rfl rfl (Nat.le_of_ble_eq_true rfl) dX4_readTerm_2) (fun u2 hk => ?_)
  clear hv
  have hv := hk
  clear hk
  refine y_iconst (v := 0) E dX4_readTerm_5 (by decide) ?_
  refine y_istore_n (lv' := [(2, .int 0), (0, .ref (w.1 38)), (1, .int a1)]) E dX4_readTerm_6 (by decide) rfl ?_
  refine y_lv (lv' := [(0, .ref (w.1 38)), (1, .int a1), (2, .int 0)]) [1, 2, 0] rfl ?_
  obtain ⟨n0, hv⟩ := hv
  exact hL7 n0 u2 a1 0 hv
theorem dX4_readOne_0 : decode cX4_readOne 0 = .ok (.aload_n 0, 1) := by decide +kernel
theorem dX4_readOne_1 : decode cX4_readOne 1 = .ok (.getfield 53, 3) := by decide +kernel
theorem dX4_readOne_4 : decode cX4_readOne 4 = .ok (.bipush (-6), 2) := by decide +kernel
theorem dX4_readOne_6 : decode cX4_readOne 6 = .ok (.if_icmp .lt 21, 3) := by decide +kernel
theorem dX4_readOne_9 : decode cX4_readOne 9 = .ok (.aload_n 0, 1) := by decide +kernel
theorem dX4_readOne_10 : decode cX4_readOne 10 = .ok (.getfield 19, 3) := by decide +kernel
theorem dX4_readOne_13 : decode cX4_readOne 13 = .ok (.aload_n 0, 1) := by decide +kernel
theorem dX4_readOne_14 : decode cX4_readOne 14 = .ok (.getfield 53, 3) := by decide +kernel
theorem dX4_readOne_17 : decode cX4_readOne 17 = .ok (.invokevirtual 56, 3) := by decide +kernel
theorem dX4_readOne_20 : decode cX4_readOne 20 = .ok (.aload_n 0, 1) := by decide +kernel
theorem dX4_readOne_21 : decode cX4_readOne 21 = .ok (.invokevirtual 34, 3) := by decide +kernel
theorem dX4_readOne_24 : decode cX4_readOne 24 = .ok (.goto 78, 3) := by decide +kernel
theorem dX4_readOne_27 : decode cX4_readOne 27 = .ok (.aload_n 0, 1) := by decide +kernel
theorem dX4_readOne_28 : decode cX4_readOne 28 = .ok (.getfield 53, 3) := by decide +kernel
theorem dX4_readOne_31 : decode cX4_readOne 31 = .ok (.bipush (-10), 2) := by decide +kernel
theorem dX4_readOne_33 : decode cX4_readOne 33 = .ok (.if_icmp .ne 31, 3) := by decide +kernel
theorem dX4_readOne_36 : decode cX4_readOne 36 = .ok (.iload_n 1, 1) := by decide +kernel
theorem dX4_readOne_37 : decode cX4_readOne 37 = .ok (.iconst 5, 1) := by decide +kernel
theorem dX4_readOne_38 : decode cX4_readOne 38 = .ok (.if_icmp .ge 26, 3) := by decide +kernel
theorem dX4_readOne_41 : decode cX4_readOne 41 = .ok (.aload_n 0, 1) := by decide +kernel
theorem dX4_readOne_42 : decode cX4_readOne 42 = .ok (.invokevirtual 34, 3) := by decide +kernel
theorem dX4_readOne_45 : decode cX4_readOne 45 = .ok (.aload_n 0, 1) := by decide +kernel
theorem dX4_readOne_46 : decode cX4_readOne 46 = .ok (.iload_n 1, 1) := by decide +kernel
theorem dX4_readOne_47 : decode cX4_readOne 47 = .ok (.iconst 1, 1) := by decide +kernel
theorem dX4_readOne_48 : decode cX4_readOne 48 = .ok (.iadd, 1) := by decide +kernel
theorem dX4_readOne_49 : decode cX4_readOne 49 = .ok (.invokevirtual 68, 3) := by decide +kernel
theorem dX4_readOne_52 : decode cX4_readOne 52 = .ok (.aload_n 0, 1) := by decide +kernel
theorem dX4_readOne_53 : decode cX4_readOne 53 = .ok (.getfield 19, 3) := by decide +kernel
theorem dX4_readOne_56 : decode cX4_readOne 56 = .ok (.bipush (-8), 2) := by decide +kernel
theorem dX4_readOne_58 : decode cX4_readOne 58 = .ok (.invokevirtual 56, 3) := by decide +kernel
theorem dX4_readOne_61 : decode cX4_readOne 61 = .ok (.goto 41, 3) := by decide +kernel
theorem dX4_readOne_64 : decode cX4_readOne 64 = .ok (.aload_n 0, 1) := by decide +kernel
theorem dX4_readOne_65 : decode cX4_readOne 65 = .ok (.getfield 53, 3) := by decide +kernel
theorem dX4_readOne_68 : decode cX4_readOne 68 = .ok (.bipush (-20), 2) := by decide +kernel
theorem dX4_readOne_70 : decode cX4_readOne 70 = .ok (.if_icmp .ne 28, 3) := by decide +kernel
theorem dX4_readOne_73 : decode cX4_readOne 73 = .ok (.iload_n 1, 1) := by decide +kernel
theorem dX4_readOne_74 : decode cX4_readOne 74 = .ok (.iconst 5, 1) := by decide +kernel
theorem dX4_readOne_75 : decode cX4_readOne 75 = .ok (.if_icmp .ge 23, 3) := by decide +kernel
theorem dX4_readOne_78 : decode cX4_readOne 78 = .ok (.aload_n 0, 1) := by decide +kernel
theorem dX4_readOne_79 : decode cX4_readOne 79 = .ok (.invokevirtual 34, 3) := by decide +kernel
theorem dX4_readOne_82 : decode cX4_readOne 82 = .ok (.aload_n 0, 1) := by decide +kernel
theorem dX4_readOne_83 : decode cX4_readOne 83 = .ok (.iload_n 1, 1) := by decide +kernel
theorem dX4_readOne_84 : decode cX4_readOne 84 = .ok (.iconst 1, 1) := by decide +kernel
theorem dX4_readOne_85 : decode cX4_readOne 85 = .ok (.iadd, 1) := by decide +kernel
theorem dX4_readOne_86 : decode cX4_readOne 86 = .ok (.invokevirtual 44, 3) := by decide +kernel
theorem dX4_readOne_89 : decode cX4_readOne 89 = .ok (.aload_n 0, 1) := by decide +kernel
theorem dX4_readOne_90 : decode cX4_readOne 90 = .ok (.bipush (-21), 2) := by decide +kernel
theorem dX4_readOne_92 : decode cX4_readOne 92 = .ok (.invokevirtual 41, 3) := by decide +kernel
theorem dX4_readOne_95 : decode cX4_readOne 95 = .ok (.goto 7, 3) := by decide +kernel
theorem dX4_readOne_98 : decode cX4_readOne 98 = .ok (.aload_n 0, 1) := by decide +kernel
theorem dX4_readOne_99 : decode cX4_readOne 99 = .ok (.invokevirtual 71, 3) := by decide +kernel
theorem dX4_readOne_102 : decode cX4_readOne 102 = .ok (.return_, 1) := by decide +kernel
set_option maxRecDepth 100000 in
set_option maxHeartbeats 4000000 in
theorem kX4_readOne (l : Launch) (w : wT) (hw : yOk w 55) (f : Nat) (hF : (∀ (K : Hp → Prop) (σ : Hp) (a1 : Int32), VREC f 0 K σ a1 → yMet l w xcf 55 yX4_readOr cX4_readOr 3 none (9 + f) [.ref (w.1 38), .int a1] σ (yQv w xcf 55 K)) ∧ (∀ (K : Hp → Prop) (σ : Hp) (a1 : Int32), VREC f 1 K σ a1 → yMet l w xcf 55 yX4_readAnd cX4_readAnd 3 none (9 + f) [.ref (w.1 38), .int a1] σ (yQv w xcf 55 K)) ∧ (∀ (K : Hp → Prop) (σ : Hp) (a1 : Int32), VREC f 2 K σ a1 → yMet l w xcf 55 yX4_readNot cX4_readNot 3 none (9 + f) [.ref (w.1 38), .int a1] σ (yQv w xcf 55 K)) ∧ (∀ (K : Hp → Prop) (σ : Hp) (a1 : Int32), VREC f 3 K σ a1 → yMet l w xcf 55 yX4_readSum cX4_readSum 4 none (9 + f) [.ref (w.1 38), .int a1] σ (yQv w xcf 55 K)) ∧ (∀ (K : Hp → Prop) (σ : Hp) (a1 : Int32), VREC f 4 K σ a1 → yMet l w xcf 55 yX4_readTerm cX4_readTerm 3 none (9 + f) [.ref (w.1 38), .int a1] σ (yQv w xcf 55 K)) ∧ (∀ (K : Hp → Prop) (σ : Hp) (a1 : Int32), VREC f 5 K σ a1 → yMet l w xcf 55 yX4_readOne cX4_readOne 2 none (9 + f) [.ref (w.1 38), .int a1] σ (yQv w xcf 55 K))) : ∀ (K : Hp → Prop) (σ : Hp) (a1 : Int32), BX4_readOne (VREC f) K σ a1 → yMet l w xcf 55 yX4_readOne cX4_readOne 2 none (9 + f + 1) [.ref (w.1 38), .int a1] σ (yQv w xcf 55 K) := by
  intro K σ a1 hv
  unfold BX4_readOne at hv
  refine y_start (lv0 := [(0, .ref (w.1 38)), (1, .int a1)]) (by decide +kernel) (own := RX4) rfl hw (Nat.le_of_ble_eq_true rfl) rfl (fun p e s m below meth c A E => ?_)
  have hb98 : ∀ (σ : Hp), VX4_readOne_b98 (VREC f) K σ → YY p l e (yRm (9 + f + 1)) s m [.ref (w.1 38), .int a1].toArray below meth c w xcf 55 A (MQ below (yQv w xcf 55 K A) [.ref (w.1 38), .int a1].toArray s 0 0 A) 2 σ 98 [(0, .ref (w.1 38))] [] := by
    intro σ hv
    unfold VX4_readOne_b98 at hv
    refine y_aload_n E dX4_readOne_98 0 rfl ?_
    refine y_callv E (y_runV E (rest := []) (kX4_fail l w E.2.2.1 σ _ hv) (y_cwV 0 E.1.2.2.2.2 wm_201 wm_202 wm_203 wm_157 wm_204 (by decide +kernel) (yRm_le (by omega) (by decide))) (Nat.lt_of_lt_of_le (show 38 < 39 by decide) (by decide)) (xc_X4 (by decide) (by decide)) rfl rfl rfl (Nat.le_of_ble_eq_true rfl) dX4_readOne_99) (fun u25 hk => ?_)
    clear hv
    have hv := hk
    clear hk
    exact y_vret E dX4_readOne_102 hv
  have hb64 : ∀ (σ : Hp) (l1 : Int32), VX4_readOne_b64 (VREC f) K σ l1 → YY p l e (yRm (9 + f + 1)) s m [.ref (w.1 38), .int a1].toArray below meth c w xcf 55 A (MQ below (yQv w xcf 55 K A) [.ref (w.1 38), .int a1].toArray s 0 0 A) 2 σ 64 [(0, .ref (w.1 38)), (1, .int l1)] [] := by
    intro σ l1 hv
    unfold VX4_readOne_b64 at hv
    refine y_aload_n E dX4_readOne_64 0 rfl ?_
    refine gf_X4_2 E (by decide) (by decide) wm_180 dX4_readOne_65 ?_
    refine y_bipush (v := (-20)) E dX4_readOne_68 (by decide) ?_
    refine y_icmp_ne (tgt := 98) E dX4_readOne_70 (by decide) (fun c16 => ?_) (fun c16 => ?_)
    · replace hv := ite_f hv c16
      refine y_lv (lv' := [(0, .ref (w.1 38))]) [0] rfl ?_
      exact hb98 σ hv
    · replace hv := ite_t hv c16
      refine y_iload_n E dX4_readOne_73 1 rfl ?_
      refine y_iconst (v := 5) E dX4_readOne_74 (by decide) ?_
      refine y_icmp_ge (tgt := 98) E dX4_readOne_75 (by decide) (fun c17 => ?_) (fun c17 => ?_)
      · replace hv := ite_t hv c17
        refine y_lv (lv' := [(0, .ref (w.1 38))]) [0] rfl ?_
        exact hb98 σ hv
      · replace hv := ite_f hv c17
        refine y_aload_n E dX4_readOne_78 0 rfl ?_
        refine y_callv E (y_runV E (rest := []) (kX4_goOn l w E.2.2.1 σ _ hv) (y_cwV 0 E.1.2.2.2.2 wm_152 wm_162 wm_163 wm_157 wm_164 (by decide +kernel) (yRm_le (by omega) (by decide))) (Nat.lt_of_lt_of_le (show 38 < 39 by decide) (by decide)) (xc_X4 (by decide) (by decide)) rfl rfl rfl (Nat.le_of_ble_eq_true rfl) dX4_readOne_79) (fun u19 hk => ?_)
        clear hv
        have hv := hk
        clear hk
        refine y_aload_n E dX4_readOne_82 0 rfl ?_
        refine y_iload_n E dX4_readOne_83 1 rfl ?_
        refine y_iconst (v := 1) E dX4_readOne_84 (by decide) ?_
        refine y_iadd E dX4_readOne_85 ?_
        refine y_callv E (y_runV E (rest := []) (hF.1 _ _ (l1 + 1) hv) (y_cwV 1 E.1.2.2.2.2 wm_168 wm_173 wm_174 wm_157 wm_175 (by decide +kernel) (yRm_le (by omega) (by decide))) (Nat.lt_of_lt_of_le (show 38 < 39 by decide) (by decide)) (xc_X4 (by decide) (by decide)) rfl rfl rfl (Nat.le_of_ble_eq_true rfl) dX4_readOne_86) (fun u21 hk => ?_)
        clear hv
        have hv := hk
        clear hk
        refine y_aload_n E dX4_readOne_89 0 rfl ?_
        refine y_bipush (v := (-21)) E dX4_readOne_90 (by decide) ?_
        refine y_callv E (y_runV E (rest := []) (kX4_take l w E.2.2.1 u21 (-21) _ hv) (y_cwV 1 E.1.2.2.2.2 wm_154 wm_155 wm_156 wm_157 wm_158 (by decide +kernel) (yRm_le (by omega) (by decide))) (Nat.lt_of_lt_of_le (show 38 < 39 by decide) (by decide)) (xc_X4 (by decide) (by decide)) rfl rfl rfl (Nat.le_of_ble_eq_true rfl) dX4_readOne_92) (fun u23 hk => ?_)
        clear hv
        have hv := hk
        clear hk
        refine y_goto (tgt := 102) E dX4_readOne_95 (by decide) ?_
        exact y_vret E dX4_readOne_102 hv
  refine y_aload_n E dX4_readOne_0 0 rfl ?_
  refine gf_X4_2 E (by decide) (by decide) wm_180 dX4_readOne_1 ?_
  refine y_bipush (v := (-6)) E dX4_readOne_4 (by decide) ?_
  refine y_icmp_lt (tgt := 27) E dX4_readOne_6 (by decide) (fun c1 => ?_) (fun c1 => ?_)
  · replace hv := ite_t hv c1
    refine y_aload_n E dX4_readOne_27 0 rfl ?_
    refine gf_X4_2 E (by decide) (by decide) wm_180 dX4_readOne_28 ?_
    refine y_bipush (v := (-10)) E dX4_readOne_31 (by decide) ?_
    refine y_icmp_ne (tgt := 64) E dX4_readOne_33 (by decide) (fun c2 => ?_) (fun c2 => ?_)
    · replace hv := ite_f hv c2
      exact hb64 σ a1 hv
    · replace hv := ite_t hv c2
      refine y_iload_n E dX4_readOne_36 1 rfl ?_
      refine y_iconst (v := 5) E dX4_readOne_37 (by decide) ?_
      refine y_icmp_ge (tgt := 64) E dX4_readOne_38 (by decide) (fun c3 => ?_) (fun c3 => ?_)
      · replace hv := ite_t hv c3
        exact hb64 σ a1 hv
      · replace hv := ite_f hv c3
        refine y_aload_n E dX4_readOne_41 0 rfl ?_
        refine y_callv E (y_runV E (rest := []) (kX4_goOn l w E.2.2.1 σ _ hv) (y_cwV 0 E.1.2.2.2.2 wm_152 wm_162 wm_163 wm_157 wm_164 (by decide +kernel) (yRm_le (by omega) (by decide))) (Nat.lt_of_lt_of_le (show 38 < 39 by decide) (by decide)) (xc_X4 (by decide) (by decide)) rfl rfl rfl (Nat.le_of_ble_eq_true rfl) dX4_readOne_42) (fun u5 hk => ?_)
        clear hv
        have hv := hk
        clear hk
        refine y_aload_n E dX4_readOne_45 0 rfl ?_
        refine y_iload_n E dX4_readOne_46 1 rfl ?_
        refine y_iconst (v := 1) E dX4_readOne_47 (by decide) ?_
        refine y_iadd E dX4_readOne_48 ?_
        refine y_callv E (y_runV E (rest := []) (hF.2.2.2.2.2 _ _ (a1 + 1) hv) (y_cwV 1 E.1.2.2.2.2 wm_197 wm_198 wm_199 wm_157 wm_200 (by decide +kernel) (yRm_le (by omega) (by decide))) (Nat.lt_of_lt_of_le (show 38 < 39 by decide) (by decide)) (xc_X4 (by decide) (by decide)) rfl rfl rfl (Nat.le_of_ble_eq_true rfl) dX4_readOne_49) (fun u7 hk => ?_)
        clear hv
        have hv := hk
        clear hk
        refine y_aload_n E dX4_readOne_52 0 rfl ?_
        obtain ⟨hnn, hv⟩ := hv
        refine gf_X4_6 E (by decide) (by decide) hnn wm_148 dX4_readOne_53 ?_
        refine y_nmr (fun x8 hx8 => ?_)
        obtain ⟨hgx8, hv⟩ := hv x8 hx8
        refine y_bipush (v := (-8)) E dX4_readOne_56 (by decide) ?_
        refine y_callv E (y_runV E (rest := []) (kX9_add l w E.2.2.1 u7 x8 (-8) _ hv) (y_cwV 1 E.1.2.2.2.2 wm_181 wm_182 wm_183 wm_113 wm_184 (by decide +kernel) (yRm_le (by omega) (by decide))) (Nat.lt_of_lt_of_le hgx8.2 (by decide)) (xc_X9 hgx8.1 hgx8.2) rfl rfl rfl (Nat.le_of_ble_eq_true rfl) dX4_readOne_58) (fun u10 hk => ?_)
        clear hv
        have hv := hk
        clear hk
        refine y_goto (tgt := 102) E dX4_readOne_61 (by decide) ?_
        exact y_vret E dX4_readOne_102 hv
  · replace hv := ite_f hv c1
    refine y_aload_n E dX4_readOne_9 0 rfl ?_
    obtain ⟨hnn, hv⟩ := hv
    refine gf_X4_6 E (by decide) (by decide) hnn wm_148 dX4_readOne_10 ?_
    refine y_nmr (fun x11 hx11 => ?_)
    obtain ⟨hgx11, hv⟩ := hv x11 hx11
    refine y_aload_n E dX4_readOne_13 0 rfl ?_
    refine gf_X4_2 E (by decide) (by decide) wm_180 dX4_readOne_14 ?_
    refine y_callv E (y_runV E (rest := []) (kX9_add l w E.2.2.1 σ x11 (σ 38 2) _ hv) (y_cwV 1 E.1.2.2.2.2 wm_181 wm_182 wm_183 wm_113 wm_184 (by decide +kernel) (yRm_le (by omega) (by decide))) (Nat.lt_of_lt_of_le hgx11.2 (by decide)) (xc_X9 hgx11.1 hgx11.2) rfl rfl rfl (Nat.le_of_ble_eq_true rfl) dX4_readOne_17) (fun u13 hk => ?_)
    clear hv
    have hv := hk
    clear hk
    refine y_aload_n E dX4_readOne_20 0 rfl ?_
    refine y_callv E (y_runV E (rest := []) (kX4_goOn l w E.2.2.1 u13 _ hv) (y_cwV 0 E.1.2.2.2.2 wm_152 wm_162 wm_163 wm_157 wm_164 (by decide +kernel) (yRm_le (by omega) (by decide))) (Nat.lt_of_lt_of_le (show 38 < 39 by decide) (by decide)) (xc_X4 (by decide) (by decide)) rfl rfl rfl (Nat.le_of_ble_eq_true rfl) dX4_readOne_21) (fun u15 hk => ?_)
    clear hv
    have hv := hk
    clear hk
    refine y_goto (tgt := 102) E dX4_readOne_24 (by decide) ?_
    exact y_vret E dX4_readOne_102 hv
set_option maxHeartbeats 4000000 in
theorem kREC (l : Launch) (w : wT) (hw : yOk w 55) : ∀ f : Nat, (∀ (K : Hp → Prop) (σ : Hp) (a1 : Int32), VREC f 0 K σ a1 → yMet l w xcf 55 yX4_readOr cX4_readOr 3 none (9 + f) [.ref (w.1 38), .int a1] σ (yQv w xcf 55 K)) ∧ (∀ (K : Hp → Prop) (σ : Hp) (a1 : Int32), VREC f 1 K σ a1 → yMet l w xcf 55 yX4_readAnd cX4_readAnd 3 none (9 + f) [.ref (w.1 38), .int a1] σ (yQv w xcf 55 K)) ∧ (∀ (K : Hp → Prop) (σ : Hp) (a1 : Int32), VREC f 2 K σ a1 → yMet l w xcf 55 yX4_readNot cX4_readNot 3 none (9 + f) [.ref (w.1 38), .int a1] σ (yQv w xcf 55 K)) ∧ (∀ (K : Hp → Prop) (σ : Hp) (a1 : Int32), VREC f 3 K σ a1 → yMet l w xcf 55 yX4_readSum cX4_readSum 4 none (9 + f) [.ref (w.1 38), .int a1] σ (yQv w xcf 55 K)) ∧ (∀ (K : Hp → Prop) (σ : Hp) (a1 : Int32), VREC f 4 K σ a1 → yMet l w xcf 55 yX4_readTerm cX4_readTerm 3 none (9 + f) [.ref (w.1 38), .int a1] σ (yQv w xcf 55 K)) ∧ (∀ (K : Hp → Prop) (σ : Hp) (a1 : Int32), VREC f 5 K σ a1 → yMet l w xcf 55 yX4_readOne cX4_readOne 2 none (9 + f) [.ref (w.1 38), .int a1] σ (yQv w xcf 55 K)) := by
  intro f
  induction f with
  | zero => exact ⟨fun _ _ _ hv => (by unfold VREC at hv; exact hv.elim), fun _ _ _ hv => (by unfold VREC at hv; exact hv.elim), fun _ _ _ hv => (by unfold VREC at hv; exact hv.elim), fun _ _ _ hv => (by unfold VREC at hv; exact hv.elim), fun _ _ _ hv => (by unfold VREC at hv; exact hv.elim), fun _ _ _ hv => (by unfold VREC at hv; exact hv.elim)⟩
  | succ f ih => exact ⟨fun K σ a1 hv => kX4_readOr l w hw f ih K σ a1 (by unfold VREC at hv; simpa using hv), fun K σ a1 hv => kX4_readAnd l w hw f ih K σ a1 (by unfold VREC at hv; simpa using hv), fun K σ a1 hv => kX4_readNot l w hw f ih K σ a1 (by unfold VREC at hv; simpa using hv), fun K σ a1 hv => kX4_readSum l w hw f ih K σ a1 (by unfold VREC at hv; simpa using hv), fun K σ a1 hv => kX4_readTerm l w hw f ih K σ a1 (by unfold VREC at hv; simpa using hv), fun K σ a1 hv => kX4_readOne l w hw f ih K σ a1 (by unfold VREC at hv; simpa using hv)⟩
end
section
set_option maxRecDepth 100000 in
set_option maxHeartbeats 4000000 in
theorem kT9_clear (l : Launch) (w : wT) (hw : yOk w 4) (σ : Hp)  (K : Hp → Prop) (hv : VT9_clear K σ ) : yMet l w tcf 4 yX9_clear cX9_clear 1 none 1 [.ref (w.1 0)] σ (yQv w tcf 4 K) := by
  unfold VT9_clear at hv
  refine y_start (lv0 := [(0, .ref (w.1 0))]) (by decide +kernel) (own := RX9) rfl hw (Nat.le_of_ble_eq_true rfl) rfl (fun p e s m below meth c A E => ?_)
  refine y_aload_n E dX9_clear_0 0 rfl ?_
  refine y_iconst (v := 0) E dX9_clear_1 (by decide) ?_
  refine pft_X9_3 E (by decide) (by decide) wm_245 dX9_clear_2 ?_
  refine y_nmH (fun u1 hu1 => ?_)
  replace hv := hv u1 hu1
  refine y_aload_n E dX9_clear_5 0 rfl ?_
  refine y_iconst (v := 0) E dX9_clear_6 (by decide) ?_
  refine pft_X9_4 E (by decide) (by decide) wm_246 dX9_clear_7 ?_
  refine y_nmH (fun u2 hu2 => ?_)
  replace hv := hv u2 hu2
  exact y_vret E dX9_clear_10 hv
set_option maxRecDepth 100000 in
set_option maxHeartbeats 4000000 in
theorem kT9_add (l : Launch) (w : wT) (hw : yOk w 4) (σ : Hp) (a1 : Int32) (K : Hp → Prop) (hv : VT9_add K σ a1) : yMet l w tcf 4 yX9_add cX9_add 2 none 1 [.ref (w.1 0), .int a1] σ (yQv w tcf 4 K) := by
  unfold VT9_add at hv
  refine y_start (lv0 := [(0, .ref (w.1 0)), (1, .int a1)]) (by decide +kernel) (own := RX9) rfl hw (Nat.le_of_ble_eq_true rfl) rfl (fun p e s m below meth c A E => ?_)
  refine y_aload_n E dX9_add_0 0 rfl ?_
  refine gft_X9_3 E (by decide) (by decide) wm_245 dX9_add_1 ?_
  refine y_sipush (v := 160) E dX9_add_4 (by decide) ?_
  refine y_icmp_ge (tgt := 30) E dX9_add_7 (by decide) (fun c1 => ?_) (fun c1 => ?_)
  · replace hv := ite_t hv c1
    exact y_vret E dX9_add_30 hv
  · replace hv := ite_f hv c1
    refine y_aload_n E dX9_add_10 0 rfl ?_
    refine gft_X9_0 E (by decide) (by decide) wm_247 dX9_add_11 ?_
    refine y_aload_n E dX9_add_14 0 rfl ?_
    refine gft_X9_3 E (by decide) (by decide) wm_245 dX9_add_15 ?_
    refine y_iload_n E dX9_add_18 1 rfl ?_
    obtain ⟨hi, hv⟩ := hv
    refine y_iast E (Nat.lt_of_lt_of_le (show 1 < 2 by decide) (by decide)) (fun _ => tc_codes (by decide) (by decide)) hi dX9_add_19 ?_
    refine y_nmH (fun u2 hu2 => ?_)
    replace hv := hv u2 hu2
    refine y_aload_n E dX9_add_20 0 rfl ?_
    refine y_dup E dX9_add_21 rfl ?_
    refine gft_X9_3 E (by decide) (by decide) wm_245 dX9_add_22 ?_
    refine y_iconst (v := 1) E dX9_add_25 (by decide) ?_
    refine y_iadd E dX9_add_26 ?_
    refine pft_X9_3 E (by decide) (by decide) wm_245 dX9_add_27 ?_
    refine y_nmH (fun u3 hu3 => ?_)
    replace hv := hv u3 hu3
    exact y_vret E dX9_add_30 hv
set_option maxRecDepth 100000 in
set_option maxHeartbeats 4000000 in
theorem kT9_endPart (l : Launch) (w : wT) (hw : yOk w 4) (σ : Hp)  (K : Hp → Prop) (hv : VT9_endPart K σ ) : yMet l w tcf 4 yX9_endPart cX9_endPart 1 none 1 [.ref (w.1 0)] σ (yQv w tcf 4 K) := by
  unfold VT9_endPart at hv
  refine y_start (lv0 := [(0, .ref (w.1 0))]) (by decide +kernel) (own := RX9) rfl hw (Nat.le_of_ble_eq_true rfl) rfl (fun p e s m below meth c A E => ?_)
  refine y_aload_n E dX9_endPart_0 0 rfl ?_
  refine gft_X9_4 E (by decide) (by decide) wm_246 dX9_endPart_1 ?_
  refine y_iconst (v := 3) E dX9_endPart_4 (by decide) ?_
  refine y_icmp_ge (tgt := 31) E dX9_endPart_5 (by decide) (fun c1 => ?_) (fun c1 => ?_)
  · replace hv := ite_t hv c1
    exact y_vret E dX9_endPart_31 hv
  · replace hv := ite_f hv c1
    refine y_aload_n E dX9_endPart_8 0 rfl ?_
    refine y_dup E dX9_endPart_9 rfl ?_
    refine gft_X9_4 E (by decide) (by decide) wm_246 dX9_endPart_10 ?_
    refine y_iconst (v := 1) E dX9_endPart_13 (by decide) ?_
    refine y_iadd E dX9_endPart_14 ?_
    refine pft_X9_4 E (by decide) (by decide) wm_246 dX9_endPart_15 ?_
    refine y_nmH (fun u2 hu2 => ?_)
    replace hv := hv u2 hu2
    refine y_aload_n E dX9_endPart_18 0 rfl ?_
    refine gft_X9_1 E (by decide) (by decide) wm_248 dX9_endPart_19 ?_
    refine y_aload_n E dX9_endPart_22 0 rfl ?_
    refine gft_X9_4 E (by decide) (by decide) wm_246 dX9_endPart_23 ?_
    refine y_aload_n E dX9_endPart_26 0 rfl ?_
    refine gft_X9_3 E (by decide) (by decide) wm_245 dX9_endPart_27 ?_
    obtain ⟨hi, hv⟩ := hv
    refine y_iast E (Nat.lt_of_lt_of_le (show 2 < 3 by decide) (by decide)) (fun _ => tc_starts (by decide) (by decide)) hi dX9_endPart_30 ?_
    refine y_nmH (fun u3 hu3 => ?_)
    replace hv := hv u3 hu3
    exact y_vret E dX9_endPart_31 hv
set_option maxRecDepth 100000 in
set_option maxHeartbeats 4000000 in
theorem kT9_becomeNumbers (l : Launch) (w : wT) (hw : yOk w 4) (σ : Hp) (a1 : Int32) (a2 : Int32) (a3 : Int32) (K : Hp → Prop) (hv : VT9_becomeNumbers K σ a1 a2 a3) : yMet l w tcf 4 yX9_becomeNumbers cX9_becomeNumbers 4 none 2 [.ref (w.1 0), .int a1, .int a2, .int a3] σ (yQv w tcf 4 K) := by
  unfold VT9_becomeNumbers at hv
  refine y_start (lv0 := [(0, .ref (w.1 0)), (1, .int a1), (2, .int a2), (3, .int a3)]) (by decide +kernel) (own := RX9) rfl hw (Nat.le_of_ble_eq_true rfl) rfl (fun p e s m below meth c A E => ?_)
  refine y_aload_n E dX9_becomeNumbers_0 0 rfl ?_
  refine y_callv E (y_runV E (rest := []) (kT9_clear l w E.2.2.1 σ _ hv) (y_cwV 0 E.1.2.2.2.2 wm_249 wm_165 wm_166 wm_113 wm_167 (by decide +kernel) (yRm_le (by decide) (by decide))) (Nat.lt_of_lt_of_le (show 0 < 1 by decide) (by decide)) (tc_X9 (by decide) (by decide)) rfl rfl rfl (Nat.le_of_ble_eq_true rfl) dX9_becomeNumbers_1) (fun u2 hk => ?_)
  clear hv
  have hv := hk
  clear hk
  refine y_aload_n E dX9_becomeNumbers_4 0 rfl ?_
  refine y_iload_n E dX9_becomeNumbers_5 1 rfl ?_
  refine y_callv E (y_runV E (rest := []) (kT9_add l w E.2.2.1 u2 a1 _ hv) (y_cwV 1 E.1.2.2.2.2 wm_250 wm_182 wm_183 wm_113 wm_184 (by decide +kernel) (yRm_le (by decide) (by decide))) (Nat.lt_of_lt_of_le (show 0 < 1 by decide) (by decide)) (tc_X9 (by decide) (by decide)) rfl rfl rfl (Nat.le_of_ble_eq_true rfl) dX9_becomeNumbers_6) (fun u4 hk => ?_)
  clear hv
  have hv := hk
  clear hk
  refine y_aload_n E dX9_becomeNumbers_9 0 rfl ?_
  refine y_callv E (y_runV E (rest := []) (kT9_endPart l w E.2.2.1 u4 _ hv) (y_cwV 0 E.1.2.2.2.2 wm_251 wm_170 wm_171 wm_113 wm_172 (by decide +kernel) (yRm_le (by decide) (by decide))) (Nat.lt_of_lt_of_le (show 0 < 1 by decide) (by decide)) (tc_X9 (by decide) (by decide)) rfl rfl rfl (Nat.le_of_ble_eq_true rfl) dX9_becomeNumbers_10) (fun u6 hk => ?_)
  clear hv
  have hv := hk
  clear hk
  refine y_aload_n E dX9_becomeNumbers_13 0 rfl ?_
  refine y_iload_n E dX9_becomeNumbers_14 2 rfl ?_
  refine y_callv E (y_runV E (rest := []) (kT9_add l w E.2.2.1 u6 a2 _ hv) (y_cwV 1 E.1.2.2.2.2 wm_250 wm_182 wm_183 wm_113 wm_184 (by decide +kernel) (yRm_le (by decide) (by decide))) (Nat.lt_of_lt_of_le (show 0 < 1 by decide) (by decide)) (tc_X9 (by decide) (by decide)) rfl rfl rfl (Nat.le_of_ble_eq_true rfl) dX9_becomeNumbers_15) (fun u8 hk => ?_)
  clear hv
  have hv := hk
  clear hk
  refine y_aload_n E dX9_becomeNumbers_18 0 rfl ?_
  refine y_callv E (y_runV E (rest := []) (kT9_endPart l w E.2.2.1 u8 _ hv) (y_cwV 0 E.1.2.2.2.2 wm_251 wm_170 wm_171 wm_113 wm_172 (by decide +kernel) (yRm_le (by decide) (by decide))) (Nat.lt_of_lt_of_le (show 0 < 1 by decide) (by decide)) (tc_X9 (by decide) (by decide)) rfl rfl rfl (Nat.le_of_ble_eq_true rfl) dX9_becomeNumbers_19) (fun u10 hk => ?_)
  clear hv
  have hv := hk
  clear hk
  refine y_aload_n E dX9_becomeNumbers_22 0 rfl ?_
  refine y_iload_n E dX9_becomeNumbers_23 3 rfl ?_
  refine y_callv E (y_runV E (rest := []) (kT9_add l w E.2.2.1 u10 a3 _ hv) (y_cwV 1 E.1.2.2.2.2 wm_250 wm_182 wm_183 wm_113 wm_184 (by decide +kernel) (yRm_le (by decide) (by decide))) (Nat.lt_of_lt_of_le (show 0 < 1 by decide) (by decide)) (tc_X9 (by decide) (by decide)) rfl rfl rfl (Nat.le_of_ble_eq_true rfl) dX9_becomeNumbers_24) (fun u12 hk => ?_)
  clear hv
  have hv := hk
  clear hk
  refine y_aload_n E dX9_becomeNumbers_27 0 rfl ?_
  refine y_callv E (y_runV E (rest := []) (kT9_endPart l w E.2.2.1 u12 _ hv) (y_cwV 0 E.1.2.2.2.2 wm_251 wm_170 wm_171 wm_113 wm_172 (by decide +kernel) (yRm_le (by decide) (by decide))) (Nat.lt_of_lt_of_le (show 0 < 1 by decide) (by decide)) (tc_X9 (by decide) (by decide)) rfl rfl rfl (Nat.le_of_ble_eq_true rfl) dX9_becomeNumbers_28) (fun u14 hk => ?_)
  clear hv
  have hv := hk
  clear hk
  exact y_vret E dX9_becomeNumbers_31 hv
end
section
/-! ===== rows for constructors: a world that grows, as a list of cells ===== -/
def YI (p : Program) (l : Launch) (e : Env) (R : Room) (s : State) (m : MethodId) (args : Array Value) (below : List Frame) (meth : Method) (c : Code) (w : wT) (A : Nat → Prop) (Q : State → Prop) (nL : Nat) (cs ss : Nat) (ws : va_W) (pc : Nat) (lv : List (Nat × Value)) (st : List Value) : Prop :=
  ∀ (H : Heap) (locs : List Loc) (ls : Array Slot), va_P w.2.2.1 vwCl ws H → va_D A ws → va_S A s.heap H locs → lv_has ls nL lv → W p l e R s m args below meth c H locs cs ss Q (F0 m pc ls st)
def yRmI (d mc ms : Nat) : Room := { frames := d, cells := mc, slots := ms, locals := 40 * d }
def yMetI {S : Type} (l : Launch) (w : wT) (y : MethodName) (b : ByteArray) (nL d mc ms : Nat) (av : List Value) (ws0 : va_W) (ws1 : S → va_W) (K : S → Prop) : Prop :=
  ∀ sz : Nat, Met l y (.code y b nL none :: wG) (yRmI d mc ms) (va_Pc av (fun U => U.heap.size = sz ∧ va_P w.2.2.1 vwCl ws0 U.heap ∧ va_D (fun _ => True) ws0 ∧ yG w (va_A ws0 sz) U)) (va_Qv (S := S) K (fun u t => va_P w.2.2.1 vwCl (ws1 u) t.heap ∧ va_D (va_A ws0 sz) (ws1 u)) (va_A ws0 sz)) mc ms (va_A ws0 sz)
section YIROWS
variable {p : Program} {l : Launch} {e : Env} {R : Room} {s : State} {m : MethodId} {args : Array Value} {below : List Frame} {meth : Method} {c : Code}
variable {w : wT} {A : Nat → Prop} {Q : State → Prop} {nL : Nat} {cs ss : Nat} {ws ws' : va_W} {pc : Nat} {lv : List (Nat × Value)} {st rest : List Value} {cc : ByteArray} {own : String} {r : Option FieldType}
theorem yi_iconst (E : YE p m meth c cc nL s args own r w 0 A) {i : Int} {v : Int32} (hd : decode cc pc = .ok (.iconst i, 1)) (hv : Int32.ofInt i = v) (k : YI p l e R s m args below meth c w A Q nL cs ss ws (pc + 1) lv (.int v :: rest)) : YI p l e R s m args below meth c w A Q nL cs ss ws pc lv (rest) := fun H locs ls hP hD hS hl => lv_iconst E.1.1 E.1.2.1 hd hv (k H locs ls hP hD hS hl)
theorem yi_bipush (E : YE p m meth c cc nL s args own r w 0 A) {i : Int} {v : Int32} (hd : decode cc pc = .ok (.bipush i, 2)) (hv : (Int8.ofInt i).toInt32 = v) (k : YI p l e R s m args below meth c w A Q nL cs ss ws (pc + 2) lv (.int v :: rest)) : YI p l e R s m args below meth c w A Q nL cs ss ws pc lv (rest) := fun H locs ls hP hD hS hl => lv_bipush E.1.1 E.1.2.1 hd hv (k H locs ls hP hD hS hl)
theorem yi_sipush (E : YE p m meth c cc nL s args own r w 0 A) {i : Int} {v : Int32} (hd : decode cc pc = .ok (.sipush i, 3)) (hv : (Int16.ofInt i).toInt32 = v) (k : YI p l e R s m args below meth c w A Q nL cs ss ws (pc + 3) lv (.int v :: rest)) : YI p l e R s m args below meth c w A Q nL cs ss ws pc lv (rest) := fun H locs ls hP hD hS hl => lv_sipush E.1.1 E.1.2.1 hd hv (k H locs ls hP hD hS hl)
theorem yi_iload_n (E : YE p m meth c cc nL s args own r w 0 A) {kk : Fin 4} {x : Int32} (hd : decode cc pc = .ok (.iload_n kk, 1)) (j : Nat) (hj : lv[j]? = some ((kk : Nat), .int x)) (k : YI p l e R s m args below meth c w A Q nL cs ss ws (pc + 1) lv (.int x :: rest)) : YI p l e R s m args below meth c w A Q nL cs ss ws pc lv (rest) := fun H locs ls hP hD hS hl => lv_iload_n E.1.1 E.1.2.1 hd rfl (lv_at hl j hj) (k H locs ls hP hD hS hl)
theorem yi_aload_n (E : YE p m meth c cc nL s args own r w 0 A) {kk : Fin 4} {x : Nat} (hd : decode cc pc = .ok (.aload_n kk, 1)) (j : Nat) (hj : lv[j]? = some ((kk : Nat), .ref x)) (k : YI p l e R s m args below meth c w A Q nL cs ss ws (pc + 1) lv (.ref x :: rest)) : YI p l e R s m args below meth c w A Q nL cs ss ws pc lv (rest) := fun H locs ls hP hD hS hl => lv_aload_n E.1.1 E.1.2.1 hd rfl (lv_at hl j hj) (k H locs ls hP hD hS hl)
theorem yi_dup (E : YE p m meth c cc nL s args own r w 0 A) {va : Value} (hd : decode cc pc = .ok (.dup, 1)) (hva : va.category = 1) (k : YI p l e R s m args below meth c w A Q nL cs ss ws (pc + 1) lv (va :: va :: rest)) : YI p l e R s m args below meth c w A Q nL cs ss ws pc lv (va :: rest) := fun H locs ls hP hD hS hl => lv_dup E.1.1 E.1.2.1 hd hva (k H locs ls hP hD hS hl)
theorem yi_pop (E : YE p m meth c cc nL s args own r w 0 A) {va : Value} (hd : decode cc pc = .ok (.pop, 1)) (hva : va.category = 1) (k : YI p l e R s m args below meth c w A Q nL cs ss ws (pc + 1) lv (rest)) : YI p l e R s m args below meth c w A Q nL cs ss ws pc lv (va :: rest) := fun H locs ls hP hD hS hl => lv_pop E.1.1 E.1.2.1 hd hva (k H locs ls hP hD hS hl)
theorem yi_goto (E : YE p m meth c cc nL s args own r w 0 A) {off : Int} {tgt : Nat} (hd : decode cc pc = .ok (.goto off, 3)) (ht : (pc : Int) + off = (tgt : Int)) (k : YI p l e R s m args below meth c w A Q nL cs ss ws tgt lv st) : YI p l e R s m args below meth c w A Q nL cs ss ws pc lv st := fun H locs ls hP hD hS hl => lv_goto E.1.1 E.1.2.1 hd ht (k H locs ls hP hD hS hl)
theorem yi_icmp_ge (E : YE p m meth c cc nL s args own r w 0 A) {x y : Int32} {off : Int} {tgt : Nat} (hd : decode cc pc = .ok (.if_icmp .ge off, 3)) (ht : (pc : Int) + off = (tgt : Int)) (kt : y ≤ x → YI p l e R s m args below meth c w A Q nL cs ss ws tgt lv rest) (kf : ¬ y ≤ x → YI p l e R s m args below meth c w A Q nL cs ss ws (pc + 3) lv rest) : YI p l e R s m args below meth c w A Q nL cs ss ws pc lv (.int y :: .int x :: rest) := fun H locs ls hP hD hS hl => lv_icmp_ge E.1.1 E.1.2.1 hd ht (fun h => kt h H locs ls hP hD hS hl) (fun h => kf h H locs ls hP hD hS hl)
theorem yi_istore_n (E : YE p m meth c cc nL s args own r w 0 A) {kk : Fin 4} {x : Int32} {lv' : List (Nat × Value)} (hd : decode cc pc = .ok (.istore_n kk, 1)) (hn : (kk : Nat) < nL) (hl' : ((kk : Nat), Value.int x) :: lv.filter (fun q => !(q.1 == (kk : Nat)) && !(q.1 + 1 == (kk : Nat) && q.2.category == 2)) = lv') (k : YI p l e R s m args below meth c w A Q nL cs ss ws (pc + 1) lv' rest) : YI p l e R s m args below meth c w A Q nL cs ss ws pc lv (.int x :: rest) := fun H locs _ hP hD hS hl => lv_istore_n E.1.1 E.1.2.1 hd rfl hl hn hl' (fun ls hl2 => k H locs ls hP hD hS hl2)
theorem yi_astore_n (E : YE p m meth c cc nL s args own r w 0 A) {kk : Fin 4} {x : Nat} {lv' : List (Nat × Value)} (hd : decode cc pc = .ok (.astore_n kk, 1)) (hn : (kk : Nat) < nL) (hl' : ((kk : Nat), Value.ref x) :: lv.filter (fun q => !(q.1 == (kk : Nat)) && !(q.1 + 1 == (kk : Nat) && q.2.category == 2)) = lv') (k : YI p l e R s m args below meth c w A Q nL cs ss ws (pc + 1) lv' rest) : YI p l e R s m args below meth c w A Q nL cs ss ws pc lv (.ref x :: rest) := fun H locs _ hP hD hS hl => lv_astore_n E.1.1 E.1.2.1 hd rfl hl hn hl' (fun ls hl2 => k H locs ls hP hD hS hl2)
theorem yi_iinc (E : YE p m meth c cc nL s args own r w 0 A) {i : Nat} {z : Int} {x v : Int32} {lv' : List (Nat × Value)} (hd : decode cc pc = .ok (.iinc i z, 3)) (j : Nat) (hj : lv[j]? = some (i, .int x)) (hv : x + Int32.ofInt z = v) (hn : i < nL) (hl' : (i, Value.int v) :: lv.filter (fun q => !(q.1 == i) && !(q.1 + 1 == i && q.2.category == 2)) = lv') (k : YI p l e R s m args below meth c w A Q nL cs ss ws (pc + 3) lv' rest) : YI p l e R s m args below meth c w A Q nL cs ss ws pc lv rest := fun H locs _ hP hD hS hl => lv_iinc E.1.1 E.1.2.1 hd hl hj hv hn hl' (fun ls hl2 => k H locs ls hP hD hS hl2)
theorem yi_objInit (E : YE p m meth c cc nL s args own r w 0 A) {index a : Nat} (h1 : .methodLink own index objectInit ∈ wG) (h2 : .instanceMethod objectInit ∈ wG) (h3 : .code objectInit ⟨#[0xb1]⟩ 1 none ∈ wG) (hf : 1 ≤ R.frames) (hlo : ((rest.map fun v => v.category).sum) + 12 ≤ R.locals) (hd : decode cc pc = .ok (.invokespecial index, 3)) (kk : YI p l e R s m args below meth c w A Q nL cs ss ws (pc + 3) lv rest) : YI p l e R s m args below meth c w A Q nL cs ss ws pc lv (.ref a :: rest) := fun H locs ls hP hD hS hl =>
  W.objInit E.1.1 E.1.2.1 E.1.2.2.2.1 (E.1.2.2.2.2 _ h1) (E.1.2.2.2.2 _ h2) (E.1.2.2.2.2 _ h3) rfl (by rw [E.1.2.2.1]; exact hl.1) rfl hd hf (by show 2 * 0 + _ + 12 ≤ _; omega) (kk H locs ls hP hD hS hl)
theorem yi_get (E : YE p m meth c cc nL s args own r w 0 A) {q a ci index k N : Nat} {C : String} {T : u_T} {fs : List Value} {v : Value} (he : ws[q]? = some (a, .inr (ci, fs))) (hc : vwCl[ci]? = some (C, T, N)) (hin : ∀ x ∈ u_ws C T N, x ∈ wG) (hk : k < N) (hlink : Cond.fieldLink own index (T k).1 (T k).2.1 (T k).2.2.1 ∈ wG) (hv : fs[k]? = some v) (hd : decode cc pc = .ok (.getfield index, 3)) (kk : YI p l e R s m args below meth c w A Q nL cs ss ws (pc + 3) lv (v :: rest)) : YI p l e R s m args below meth c w A Q nL cs ss ws pc lv (.ref a :: rest) := fun H locs ls hP hD hS hl =>
  va_get (tys := yTys w) E.1.1 E.1.2.1 E.1.2.2.2.2 hin E.1.2.2.2.1 E.2.1.1 hP q he hc k hk (E.1.2.2.2.2 _ hlink) (fun _ h => h) hv hd (kk H locs ls hP hD hS hl)
theorem yi_put (E : YE p m meth c cc nL s args own r w 0 A) {q a ci index k N : Nat} {C : String} {T : u_T} {fs : List Value} {v : Value} {ty : FieldType} (he : ws[q]? = some (a, .inr (ci, fs))) (hc : vwCl[ci]? = some (C, T, N)) (hin : ∀ x ∈ u_ws C T N, x ∈ wG) (ty0 : Nat → FieldType) (hty : ∀ k, k < N → parseFieldDescriptor (T k).2.2.1 = some (ty0 k)) (hnm : ∀ a, a < N → ∀ b, b < N → a ≠ b → (T a).2.1 ≠ (T b).2.1) (hk : k < N) (hlink : Cond.fieldLink own index (T k).1 (T k).2.1 (T k).2.2.1 ∈ wG) (hfin : (T k).2.2.2 = false) (hdd : parseFieldDescriptor (T k).2.2.1 = some ty) (hn : narrow ty v = v) (hfit : fits ty v = true) (hl0 : k < fs.length) (hw : ws.set q (a, .inr (ci, fs.set k v)) = ws') (hd : decode cc pc = .ok (.putfield index, 3)) (kk : YI p l e R s m args below meth c w A Q nL cs ss ws' (pc + 3) lv rest) : YI p l e R s m args below meth c w A Q nL cs ss ws pc lv (v :: .ref a :: rest) := fun H locs ls hP hD hS hl =>
  va_put (tys := yTys w) E.1.1 E.1.2.1 E.1.2.2.2.2 hin ty0 hty hnm E.1.2.2.2.1 E.2.1.1 hP hD hS q he hc k hk (E.1.2.2.2.2 _ hlink) (fun _ h => h) hfin hdd hn hfit hl0 hd (fun H1 locs1 hP1 hD1 hS1 => kk H1 locs1 ls (hw ▸ hP1) (hw ▸ hD1) hS1 hl)
theorem yi_putF (E : YE p m meth c cc nL s args own r w 0 A) {q a ci index k N : Nat} {C : String} {T : u_T} {fs : List Value} {v : Value} {ty : FieldType} (he : ws[q]? = some (a, .inr (ci, fs))) (hc : vwCl[ci]? = some (C, T, N)) (hin : ∀ x ∈ u_ws C T N, x ∈ wG) (ty0 : Nat → FieldType) (hty : ∀ k, k < N → parseFieldDescriptor (T k).2.2.1 = some (ty0 k)) (hnm : ∀ a, a < N → ∀ b, b < N → a ≠ b → (T a).2.1 ≠ (T b).2.1) (hk : k < N) (hlink : Cond.fieldLink own index (T k).1 (T k).2.1 (T k).2.2.1 ∈ wG) (hfin : (T k).2.2.2 = true) (hin2 : meth.name = "<init>") (hdecl : (T k).1 = own) (hdd : parseFieldDescriptor (T k).2.2.1 = some ty) (hn : narrow ty v = v) (hfit : fits ty v = true) (hl0 : k < fs.length) (hw : ws.set q (a, .inr (ci, fs.set k v)) = ws') (hd : decode cc pc = .ok (.putfield index, 3)) (kk : YI p l e R s m args below meth c w A Q nL cs ss ws' (pc + 3) lv rest) : YI p l e R s m args below meth c w A Q nL cs ss ws pc lv (v :: .ref a :: rest) := fun H locs ls hP hD hS hl =>
  va_putF (tys := yTys w) E.1.1 E.1.2.1 E.1.2.2.2.2 hin ty0 hty hnm E.1.2.2.2.1 E.2.1.1 hP hD hS q he hc k hk (E.1.2.2.2.2 _ hlink) (fun _ h => h) hfin hin2 hdecl hdd hn hfit hl0 hd (fun H1 locs1 hP1 hD1 hS1 => kk H1 locs1 ls (hw ▸ hP1) (hw ▸ hD1) hS1 hl)
theorem yi_iald (E : YE p m meth c cc nL s args own r w 0 A) {q a N : Nat} {f : Nat → Int32} {i v : Int32} (he : ws[q]? = some (a, .inl (w.2.1 1, N, .inl f))) (hin : vp_in i N) (hv : f i.toNatClampNeg = v) (hd : decode cc pc = .ok (.iaload, 1)) (kk : YI p l e R s m args below meth c w A Q nL cs ss ws (pc + 1) lv (.int v :: rest)) : YI p l e R s m args below meth c w A Q nL cs ss ws pc lv (.int i :: .ref a :: rest) := fun H locs ls hP hD hS hl =>
  va_iald (tys := yTys w) E.1.1 E.1.2.1 E.2.1.1 hP q 1 he rfl hin hd (by rw [hv]; exact kk H locs ls hP hD hS hl)
theorem yi_iast (E : YE p m meth c cc nL s args own r w 0 A) {q a N : Nat} {f : Nat → Int32} {i x : Int32} (he : ws[q]? = some (a, .inl (w.2.1 1, N, .inl f))) (hin : vp_in i N) (hd : decode cc pc = .ok (.iastore, 1)) (kk : ∀ f' : Nat → Int32, f' = upd f i.toNatClampNeg x → YI p l e R s m args below meth c w A Q nL cs ss (ws.set q (a, .inl (w.2.1 1, N, .inl f'))) (pc + 1) lv rest) : YI p l e R s m args below meth c w A Q nL cs ss ws pc lv (.int x :: .int i :: .ref a :: rest) := fun H locs ls hP hD hS hl =>
  va_iast (tys := yTys w) E.1.1 E.1.2.1 E.2.1.1 hP hD hS q 1 he rfl hin hd (fun H1 locs1 hP1 hD1 hS1 => kk _ rfl H1 locs1 ls hP1 hD1 hS1 hl)
theorem yi_iastc (E : YE p m meth c cc nL s args own r w 0 A) {q a N : Nat} {f f' : Nat → Int32} {i x : Int32} (he : ws[q]? = some (a, .inl (w.2.1 1, N, .inl f))) (hin : vp_in i N) (hf : upd f i.toNatClampNeg x = f') (hw : ws.set q (a, .inl (w.2.1 1, N, .inl f')) = ws') (hd : decode cc pc = .ok (.iastore, 1)) (kk : YI p l e R s m args below meth c w A Q nL cs ss ws' (pc + 1) lv rest) : YI p l e R s m args below meth c w A Q nL cs ss ws pc lv (.int x :: .int i :: .ref a :: rest) := fun H locs ls hP hD hS hl =>
  va_iast (tys := yTys w) E.1.1 E.1.2.1 E.2.1.1 hP hD hS q 1 he rfl hin hd (fun H1 locs1 hP1 hD1 hS1 => kk H1 locs1 ls (by rw [hf, hw] at hP1; exact hP1) (by rw [hf, hw] at hD1; exact hD1) hS1 hl)
theorem yi_aald (E : YE p m meth c cc nL s args own r w 0 A) {q a N t0 : Nat} {cA : ClassId} {C : String} {f : Nat → Option Nat} {i : Int32} {v : Nat} (he : ws[q]? = some (a, .inl (cA, N, .inr (.inr (.inr (.inr f)))))) (ht : (yTys w)[t0]? = some (cA, .object C)) (hin : vp_in i N) (hv : f i.toNatClampNeg = some v) (hd : decode cc pc = .ok (.aaload, 1)) (kk : YI p l e R s m args below meth c w A Q nL cs ss ws (pc + 1) lv (.ref v :: rest)) : YI p l e R s m args below meth c w A Q nL cs ss ws pc lv (.int i :: .ref a :: rest) := fun H locs ls hP hD hS hl =>
  va_aldq (tys := yTys w) E.1.1 E.1.2.1 E.2.1.1 hP q t0 he ht hin hd (by rw [hv]; exact kk H locs ls hP hD hS hl)
theorem yi_aast (E : YE p m meth c cc nL s args own r w 0 A) {q a N t0 qk ci v : Nat} {cA : ClassId} {rr : vw_C} {vs : List Value} {f : Nat → Option Nat} {i : Int32} (ha : ws[q]? = some (a, .inl (cA, N, .inr (.inr (.inr (.inr f)))))) (ht : (yTys w)[t0]? = some (cA, .object rr.1)) (hv : ws[qk]? = some (v, .inr (ci, vs))) (hc : vwCl[ci]? = some rr) (hin : vp_in i N) (hd : decode cc pc = .ok (.aastore, 1)) (kk : ∀ f' : Nat → Option Nat, f' = va_up f i.toNatClampNeg (some v) → YI p l e R s m args below meth c w A Q nL cs ss (ws.set q (a, .inl (cA, N, .inr (.inr (.inr (.inr f')))))) (pc + 1) lv rest) : YI p l e R s m args below meth c w A Q nL cs ss ws pc lv (.ref v :: .int i :: .ref a :: rest) := fun H locs ls hP hD hS hl =>
  va_astq (tys := yTys w) E.1.1 E.1.2.1 E.2.1.1 hP hD hS q t0 qk ci ha ht hv hc hin hd (fun H1 locs1 hP1 hD1 hS1 => kk _ rfl H1 locs1 ls hP1 hD1 hS1 hl)
theorem yi_aastS (E : YE p m meth c cc nL s args own r w 0 A) {q a N t0 qk ci v : Nat} {cA : ClassId} {C D : String} {T : u_T} {n0 : Nat} {vs : List Value} {f : Nat → Option Nat} {i : Int32} (ha : ws[q]? = some (a, .inl (cA, N, .inr (.inr (.inr (.inr f)))))) (ht : (yTys w)[t0]? = some (cA, .object C)) (hv : ws[qk]? = some (v, .inr (ci, vs))) (hc : vwCl[ci]? = some (D, T, n0)) (hsub : va_Nw (.castable D C) s) (hin : vp_in i N) (hd : decode cc pc = .ok (.aastore, 1)) (kk : ∀ f' : Nat → Option Nat, f' = va_up f i.toNatClampNeg (some v) → YI p l e R s m args below meth c w A Q nL cs ss (ws.set q (a, .inl (cA, N, .inr (.inr (.inr (.inr f')))))) (pc + 1) lv rest) : YI p l e R s m args below meth c w A Q nL cs ss ws pc lv (.ref v :: .int i :: .ref a :: rest) := fun H locs ls hP hD hS hl =>
  va_astqO (tys := yTys w) E.1.1 E.1.2.1 E.2.1.1 hP hD hS q t0 qk ci ha ht hsub hv hc hin hd (fun H1 locs1 hP1 hD1 hS1 => kk _ rfl H1 locs1 ls hP1 hD1 hS1 hl)
theorem yi_new (E : YE p m meth c cc nL s args own r w 0 A) {ci index N : Nat} {C : String} {T : u_T} {fs : List Value} (hc : vwCl[ci]? = some (C, T, N)) (hin : ∀ x ∈ u_ws C T N, x ∈ wG) (ty : Nat → FieldType) (hty : ∀ k, k < N → parseFieldDescriptor (T k).2.2.1 = some (ty k)) (h1 : .classLink own index C ∈ wG) (h2 : .instantiable C N ∈ wG) (h3 : .initialized C ∈ wG) (hfs : ∀ j, j < N → defaultValue (ty j) = vp_V fs j) (hcs : cs + 1 ≤ R.cells ∧ ss + N ≤ R.slots) (hd : decode cc pc = .ok (.new index, 3)) (kk : ∀ q : Nat, YI p l e R s m args below meth c w A Q nL (cs + 1) (ss + N) (ws ++ [(q, .inr (ci, fs))]) (pc + 3) lv (.ref q :: rest)) : YI p l e R s m args below meth c w A Q nL cs ss ws pc lv rest := fun H locs ls hP hD hS hl =>
  va_new (tys := yTys w) E.1.1 E.1.2.1 E.1.2.2.2.2 hin ty hty E.1.2.2.2.1 (E.1.2.2.2.2 _ h1) (E.1.2.2.2.2 _ h2) (E.1.2.2.2.2 _ h3) E.2.1.1 hP hD hS E.2.2.2.2.1 hc hfs hcs.1 hcs.2 hd (fun q H1 hP1 hD1 hS1 => kk q H1 locs ls hP1 hD1 hS1 hl)
theorem yi_newaI (E : YE p m meth c cc nL s args own r w 0 A) {n : Int32} {N' : Nat} (harr : Cond.arrayClass (newarray.typeOf .int) ∈ wG) (hn : ¬ n < 0) (hN : n.toNatClampNeg = N') (hbytes : N' * componentBytes .int ≤ 536870912) (hcs : cs + 1 ≤ R.cells ∧ ss + N' ≤ R.slots) (hd : decode cc pc = .ok (.newarray .int, 2)) (kk : ∀ q : Nat, YI p l e R s m args below meth c w A Q nL (cs + 1) (ss + N') (ws ++ [(q, .inl (w.2.1 1, N', .inl (fun _ => 0)))]) (pc + 2) lv (.ref q :: rest)) : YI p l e R s m args below meth c w A Q nL cs ss ws pc lv (.int n :: rest) := fun H locs ls hP hD hS hl =>
  va_newa (tys := yTys w) (ty := .int) (a0 := (N', .inl (fun _ => 0))) E.1.1 E.1.2.1 (E.1.2.2.2.2 _ harr) rfl E.2.1.1 hP hD hS E.2.2.2.2.1 (fun cA => rfl) hn hN hbytes hcs.1 hcs.2 hd (fun q cA H1 hK1 hP1 hD1 hS1 => by
    have e1 : s.vm.findClass ("[" ++ (.int : FieldType).toString) = some cA := (hK1.2 5 (cA, .int) rfl).2
    have e2 : s.vm.findClass ("[" ++ (.int : FieldType).toString) = some (w.2.1 1) := (E.2.1.1.2 1 (w.2.1 1, .int) rfl).2
    have e3 : cA = w.2.1 1 := Option.some.inj (e1.symm.trans e2)
    subst e3
    exact kk q H1 locs ls hP1 hD1 hS1 hl)
theorem yi_newaB (E : YE p m meth c cc nL s args own r w 0 A) {n : Int32} {N' : Nat} (harr : Cond.arrayClass (newarray.typeOf .byte) ∈ wG) (hn : ¬ n < 0) (hN : n.toNatClampNeg = N') (hbytes : N' * componentBytes .byte ≤ 536870912) (hcs : cs + 1 ≤ R.cells ∧ ss + N' ≤ R.slots) (hd : decode cc pc = .ok (.newarray .byte, 2)) (kk : ∀ q : Nat, YI p l e R s m args below meth c w A Q nL (cs + 1) (ss + N') (ws ++ [(q, .inl (w.2.1 0, N', .inl (fun _ => 0)))]) (pc + 2) lv (.ref q :: rest)) : YI p l e R s m args below meth c w A Q nL cs ss ws pc lv (.int n :: rest) := fun H locs ls hP hD hS hl =>
  va_newa (tys := yTys w) (ty := .byte) (a0 := (N', .inl (fun _ => 0))) E.1.1 E.1.2.1 (E.1.2.2.2.2 _ harr) rfl E.2.1.1 hP hD hS E.2.2.2.2.1 (fun cA => rfl) hn hN hbytes hcs.1 hcs.2 hd (fun q cA H1 hK1 hP1 hD1 hS1 => by
    have e1 : s.vm.findClass ("[" ++ (.byte : FieldType).toString) = some cA := (hK1.2 5 (cA, .byte) rfl).2
    have e2 : s.vm.findClass ("[" ++ (.byte : FieldType).toString) = some (w.2.1 0) := (E.2.1.1.2 0 (w.2.1 0, .byte) rfl).2
    have e3 : cA = w.2.1 0 := Option.some.inj (e1.symm.trans e2)
    subst e3
    exact kk q H1 locs ls hP1 hD1 hS1 hl)
theorem yi_newq (E : YE p m meth c cc nL s args own r w 0 A) {C : String} {index t0 : Nat} {cA0 : ClassId} {n : Int32} {N' : Nat} (ht : (yTys w)[t0]? = some (cA0, .object C)) (h1 : .classLink own index C ∈ wG) (hover : va_AO C s) (hn : ¬ n < 0) (hN : n.toNatClampNeg = N') (hbytes : N' * 4 ≤ 536870912) (hcs : cs + 1 ≤ R.cells ∧ ss + N' ≤ R.slots) (hd : decode cc pc = .ok (.anewarray index, 3)) (kk : ∀ q : Nat, YI p l e R s m args below meth c w A Q nL (cs + 1) (ss + N') (ws ++ [(q, .inl (cA0, N', .inr (.inr (.inr (.inr (fun _ => none))))))]) (pc + 3) lv (.ref q :: rest)) : YI p l e R s m args below meth c w A Q nL cs ss ws pc lv (.int n :: rest) := fun H locs ls hP hD hS hl =>
  va_newq (tys := yTys w) E.1.1 E.1.2.1 E.1.2.2.2.1 (E.1.2.2.2.2 _ h1) hover E.2.1.1 hP hD hS E.2.2.2.2.1 hn hN hbytes hcs.1 hcs.2 hd (fun q cA H1 hK1 hP1 hD1 hS1 => by
    obtain ⟨_, _, _, _, _, e1⟩ := (hK1.2 5 (cA, .object C) rfl).2
    obtain ⟨_, _, _, _, _, e2⟩ := (E.2.1.1.2 t0 (cA0, .object C) ht).2
    have e3 : cA = cA0 := Option.some.inj (e1.symm.trans e2)
    subst e3
    exact kk q H1 locs ls hP1 hD1 hS1 hl)
theorem yi_ws (E : YE p m meth c cc nL s args own r w 0 A) (is : List Nat) (hs : is.filterMap (fun i => ws[i]?) = ws') (hn : va_nd is = true) (kk : YI p l e R s m args below meth c w A Q nL cs ss ws' pc lv st) : YI p l e R s m args below meth c w A Q nL cs ss ws pc lv st := fun H locs ls hP hD hS hl => kk H locs ls (hP.sub is hs) (hD.sub is hn hs) hS hl
theorem yi_eq {ws' : va_W} (hs : ws = ws') (kk : YI p l e R s m args below meth c w A Q nL cs ss ws' pc lv st) : YI p l e R s m args below meth c w A Q nL cs ss ws pc lv st := hs ▸ kk
theorem yi_lv {lv' : List (Nat × Value)} (ks : List Nat) (hl : lv_pick lv ks = lv') (k : YI p l e R s m args below meth c w A Q nL cs ss ws pc lv' st) : YI p l e R s m args below meth c w A Q nL cs ss ws pc lv st := fun H locs ls hP hD hS h => k H locs ls hP hD hS (lv_sub h ks hl)
theorem yi_vret {S : Type} {K : S → Prop} {W1 : S → va_W} (E : YE p m meth c cc nL s args own none w 0 A) (hd : decode cc pc = .ok (.return_, 1)) (u : S) (hK : K u) (hw : ws = W1 u) : YI p l e R s m args below meth c w A (MQ below (va_Qv (S := S) K (fun u t => va_P w.2.2.1 vwCl (W1 u) t.heap ∧ va_D A (W1 u)) A) args s cs ss A) nL cs ss ws pc lv [] := fun H locs ls hP hD hS hl =>
  W.vret E.1.1 E.1.2.1 E.2.2.2.2.2.1 (fun t ht hW => ⟨⟨u, rfl, hK, by rw [ht, ← hw]; exact hP, by rw [← hw]; exact hD⟩, hS.F ht⟩) hS.2.2 hd E.2.2.2.2.2.2
theorem yi_preI (E : YE p m meth c cc nL s args own r w 0 A) {H : Heap} {locs : List Loc} {wsC : va_W} (hPC : va_P w.2.2.1 vwCl wsC H) (hDC : va_D (fun _ => True) wsC) (hS : va_S A s.heap H locs) (hfr : ∀ q, va_A wsC H.size q → A q) {av : List Value} {a : Array Value} (ha : a = av.toArray) : ∀ U : State, U.heap = H → s.WarmedH U.vm → va_Pc av (fun U => U.heap.size = H.size ∧ va_P w.2.2.1 vwCl wsC U.heap ∧ va_D (fun _ => True) wsC ∧ yG w (va_A wsC H.size) U) a U := by
  intro U hU hW
  refine ⟨ha, by rw [hU], by rw [hU]; exact hPC, hDC, E.2.1.at hW ?_ hfr⟩
  intro q h1 h2
  rw [hU]
  exact hS.2.1 q h1 h2
theorem yi_blind {w : wT} {wsC : va_W} {sz : Nat} {av : List Value} : FrameBlind (va_Pc av (fun U => U.heap.size = sz ∧ va_P w.2.2.1 vwCl wsC U.heap ∧ va_D (fun _ => True) wsC ∧ yG w (va_A wsC sz) U)) := fun a U g mk q => ⟨q.1, q.2.1, q.2.2.1, q.2.2.2.1, q.2.2.2.2.calling g mk a⟩
variable {y : MethodName} {b : ByteArray} {nL' d mc ms k index a : Nat} {As : List Value} {wsC wsR : va_W} {S : Type} {W1 : S → va_W} {K : S → Prop} {host : String}
theorem yi_init (E : YE p m meth c cc nL s args own r w 0 A) (isC isR : List Nat) (hM : yMetI l w y b nL' d mc ms (.ref a :: As) wsC W1 K) (cw : CallB R s args own index y b nL' none (.code y b nL' none :: wG) (yRmI d mc ms) mc ms k ∧ y.name = "<init>" ∧ (Cond.instanceMethod y).before args s = true) (hC : isC.map (fun i => ws[i]?) = wsC.map some) (hC2 : isC.filterMap (fun i => ws[i]?) = wsC) (hnC : va_nd isC = true) (hR : isR.map (fun i => ws[i]?) = wsR.map some) (hn : va_nd isR = true) (hdis : ∀ i ∈ isR, i ∉ isC) (hk : As.length = k) (hst : st = As.reverse ++ .ref a :: rest) (hr : (rest.map fun v => v.category).sum ≤ 8) (hcs : cs + mc ≤ R.cells ∧ ss + ms ≤ R.slots) (hd : decode cc pc = .ok (.invokespecial index, 3)) (kk : ∀ u : S, K u → YI p l e R s m args below meth c w A Q nL (cs + mc) (ss + ms) (wsR ++ W1 u) (pc + 3) lv rest) : YI p l e R s m args below meth c w A Q nL cs ss ws pc lv st := fun H locs ls hP hD hS hl => by
  have hPC : va_P w.2.2.1 vwCl wsC H := hP.sub isC hC2
  have hDC : va_D A wsC := hD.sub isC hnC hC2
  have hF : ∀ q, va_A wsC H.size q → A q := va_free hD hS E.2.2.2.2.1 isC hC
  refine va_callv (S := S) (post := K) (B := fun u t => va_P w.2.2.1 vwCl (W1 u) t.heap ∧ va_D (va_A wsC H.size) (W1 u)) (A1 := va_A wsC H.size) (va_runI E.1 (hM H.size) cw ⟨yi_blind, yi_preI E hPC (hDC.weaken (fun _ _ _ _ => trivial)) hS hF rfl⟩ rfl hk hl.1 hst (lv_room hr) hd hcs) hS (fun q _ h => hF q h) hF (fun u t H1 locs1 ht hvm hw hB hz1 hk1 hS1 => ?_)
  obtain ⟨hP1, hD1⟩ := hB
  rw [ht] at hP1
  obtain ⟨hP2, hD2⟩ := va_join hP hD isC isR hC hR hn hdis hk1 hF hP1 hD1
  exact kk u hw H1 locs1 ls hP2 hD2 hS1 hl
theorem yi_initN (E : YE p m meth c cc nL s args own r w 0 A) (isC isR : List Nat) (hM : yMetI l w y b nL' d mc ms (.ref a :: As) wsC W1 K) (cw : va_CN R s args own index y host b nL' none (.code y b nL' none :: wG) (yRmI d mc ms) mc ms k ∧ y.name = "<init>" ∧ (Cond.instanceMethod y).before args s = true) (hC : isC.map (fun i => ws[i]?) = wsC.map some) (hC2 : isC.filterMap (fun i => ws[i]?) = wsC) (hnC : va_nd isC = true) (hR : isR.map (fun i => ws[i]?) = wsR.map some) (hn : va_nd isR = true) (hdis : ∀ i ∈ isR, i ∉ isC) (hk : As.length = k) (hst : st = As.reverse ++ .ref a :: rest) (hr : (rest.map fun v => v.category).sum ≤ 8) (hcs : cs + mc ≤ R.cells ∧ ss + ms ≤ R.slots) (hd : decode cc pc = .ok (.invokespecial index, 3)) (kk : ∀ u : S, K u → YI p l e R s m args below meth c w A Q nL (cs + mc) (ss + ms) (wsR ++ W1 u) (pc + 3) lv rest) : YI p l e R s m args below meth c w A Q nL cs ss ws pc lv st := fun H locs ls hP hD hS hl => by
  have hPC : va_P w.2.2.1 vwCl wsC H := hP.sub isC hC2
  have hDC : va_D A wsC := hD.sub isC hnC hC2
  have hF : ∀ q, va_A wsC H.size q → A q := va_free hD hS E.2.2.2.2.1 isC hC
  refine va_callv (S := S) (post := K) (B := fun u t => va_P w.2.2.1 vwCl (W1 u) t.heap ∧ va_D (va_A wsC H.size) (W1 u)) (A1 := va_A wsC H.size) (va_runIN E.1 (hM H.size) cw ⟨yi_blind, yi_preI E hPC (hDC.weaken (fun _ _ _ _ => trivial)) hS hF rfl⟩ rfl hk hl.1 hst (lv_room hr) hd hcs) hS (fun q _ h => hF q h) hF (fun u t H1 locs1 ht hvm hw hB hz1 hk1 hS1 => ?_)
  obtain ⟨hP1, hD1⟩ := hB
  rw [ht] at hP1
  obtain ⟨hP2, hD2⟩ := va_join hP hD isC isR hC hR hn hdis hk1 hF hP1 hD1
  exact kk u hw H1 locs1 ls hP2 hD2 hS1 hl
theorem yw_sub {w : wT} {cf : cT} {n : Nat} {σ : Hp} {A : Nat → Prop} (hD : va_D A (yw w cf n σ)) : yOk w n ∧ ∀ k, k < n → A (w.1 k) := by
  refine ⟨fun i j hi hj h => ?_, fun k hk => ?_⟩
  · exact hD.1 i j _ _ (yw_get hi) (yw_get hj) h
  · exact hD.2 k _ (yw_get hk)
theorem va_A_yw {w : wT} {cf : cT} {n sz : Nat} {σ : Hp} : va_A (yw w cf n σ) sz = YA w n sz := by
  funext q
  apply propext
  constructor
  · rintro (⟨k, e, h⟩ | h)
    · obtain ⟨h1, h2⟩ := yw_inv h
      exact Or.inl ⟨k, h1, h2⟩
    · exact Or.inr h
  · rintro (⟨k, h, rfl⟩ | h)
    · exact Or.inl ⟨k, _, yw_get h⟩
    · exact Or.inr h
theorem yG.ad {w w' : wT} {A : Nat → Prop} {U : State} (hw : w'.2 = w.2) (h : yG w A U) : yG w' A U := by
  obtain ⟨a, b⟩ := w
  obtain ⟨a', b'⟩ := w'
  cases hw
  exact h
theorem yi_callY {cf : cT} {n : Nat} {w' : wT} {σ : Hp} {r' : Option FieldType} {KK : Hp → Prop} {Qk : (Nat → Prop) → Array Value → State → Outcome → State → Prop} {C : String} {T : u_T} {N ci o : Nat} {fs : List Value} (E : YE p m meth c cc nL s args own r w 0 A) (isC isR : List Nat) (hM : yOk w' n → yMet l w' cf n y b nL' r' d (.ref a :: As) σ Qk) (hw' : w'.2 = w.2) (cw : CallW R s args own C index y b nL' r' (.code y b nL' r' :: wG) (yRm d) 0 0 k) (hC2 : isC.filterMap (fun i => ws[i]?) = yw w' cf n σ) (hC : isC.map (fun i => ws[i]?) = (yw w' cf n σ).map some) (hnC : va_nd isC = true) (hR : isR.map (fun i => ws[i]?) = wsR.map some) (hn : va_nd isR = true) (hdis : ∀ i ∈ isR, i ∉ isC) (hk : As.length = k) (hrecv : ws[o]? = some (a, .inr (ci, fs))) (hvc : vwCl[ci]? = some (C, T, N)) (hst : st = As.reverse ++ .ref a :: rest) (hr : (rest.map fun v => v.category).sum ≤ 8) (hd : decode cc pc = .ok (.invokevirtual index, 3)) (hcs : cs + 0 ≤ R.cells ∧ ss + 0 ≤ R.slots) :
    ∀ (H : Heap) (locs : List Loc) (ls : Array Slot), va_P w.2.2.1 vwCl ws H → va_D A ws → va_S A s.heap H locs → lv_has ls nL lv → va_Run p l e R s m args below meth c H locs cs ss 0 0 (F0 m pc ls st) rest (Qk (YA w' n H.size) (Value.ref a :: As).toArray) (YA w' n H.size) := fun H locs ls hP hD hS hl => by
  have e1 : w'.2.2.1 = w.2.2.1 := by rw [hw']
  have hPC : va_P w'.2.2.1 vwCl (yw w' cf n σ) H := by rw [e1]; exact hP.sub isC hC2
  have hF : ∀ q, YA w' n H.size q → A q := by
    rw [← va_A_yw (cf := cf) (σ := σ)]
    exact va_free hD hS E.2.2.2.2.1 isC hC
  have hok : yOk w' n := (yw_sub (hD.sub isC hnC hC2)).1
  refine va_runV E.1 (hM hok H.size) cw ⟨yPre.blind, va_recv E.2.1.1 hP (ci := ci) (q0 := o) hvc hrecv, fun U hU hW => ?_⟩ rfl hk hl.1 hst (lv_room hr) hd hcs
  refine ⟨rfl, by rw [hU], by rw [hU]; exact hPC, (E.2.1.at hW ?_ hF).ad hw'⟩
  intro q h1 h2
  rw [hU]
  exact hS.2.1 q h1 h2
theorem yi_callYv {cf : cT} {n : Nat} {w' : wT} {σ : Hp} {KK : Hp → Prop} (E : YE p m meth c cc nL s args own r w 0 A) (isC isR : List Nat) (hw' : w'.2 = w.2) (hC : isC.map (fun i => ws[i]?) = (yw w' cf n σ).map some) (hC2 : isC.filterMap (fun i => ws[i]?) = yw w' cf n σ) (hnC : va_nd isC = true) (hR : isR.map (fun i => ws[i]?) = wsR.map some) (hn : va_nd isR = true) (hdis : ∀ i ∈ isR, i ∉ isC) {aa : Array Value}
    (hrun : ∀ (H : Heap) (locs : List Loc) (ls : Array Slot), va_P w.2.2.1 vwCl ws H → va_D A ws → va_S A s.heap H locs → lv_has ls nL lv → va_Run p l e R s m args below meth c H locs cs ss 0 0 (F0 m pc ls st) rest (yQv w' cf n KK (YA w' n H.size) aa) (YA w' n H.size))
    (kk : ∀ u : Hp, KK u → YI p l e R s m args below meth c w A Q nL cs ss (wsR ++ yw w' cf n u) (pc + 3) lv rest) : YI p l e R s m args below meth c w A Q nL cs ss ws pc lv st := fun H locs ls hP hD hS hl => by
  have e1 : w'.2.2.1 = w.2.2.1 := by rw [hw']
  have hok : yOk w' n := (yw_sub (hD.sub isC hnC hC2)).1
  have hFA : ∀ q, va_A (yw w' cf n σ) H.size q → A q := va_free hD hS E.2.2.2.2.1 isC hC
  have hF : ∀ q, YA w' n H.size q → A q := by rw [← va_A_yw (cf := cf) (σ := σ)]; exact hFA
  refine va_callv (S := Hp) (post := KK) (B := yB w' cf n) (A1 := YA w' n H.size) (hrun H locs ls hP hD hS hl) hS (fun q _ h => hF q h) hF (fun u t H1 locs1 ht _ hku hB _ hk1 hS1 => ?_)
  have hP1 : va_P w.2.2.1 vwCl (yw w' cf n u) H1 := by rw [← e1, ← ht]; exact hB
  have hk1' : ∀ q : Nat, q < H.size → ¬ va_A (yw w' cf n σ) H.size q → H1[q]? = H[q]? := by rw [va_A_yw]; exact hk1
  have hD1 : va_D (va_A (yw w' cf n σ) H.size) (yw w' cf n u) := by
    rw [va_A_yw]
    exact y_D hok (fun k hk => Or.inl ⟨k, hk, rfl⟩)
  obtain ⟨hP2, hD2⟩ := va_join hP hD isC isR hC hR hn hdis hk1' hFA hP1 hD1
  exact kk u hku H1 locs1 ls hP2 hD2 hS1 hl
theorem yi_callYi {cf : cT} {n : Nat} {w' : wT} {σ : Hp} {KK : Int32 → Hp → Prop} (E : YE p m meth c cc nL s args own r w 0 A) (isC isR : List Nat) (hw' : w'.2 = w.2) (hC : isC.map (fun i => ws[i]?) = (yw w' cf n σ).map some) (hC2 : isC.filterMap (fun i => ws[i]?) = yw w' cf n σ) (hnC : va_nd isC = true) (hR : isR.map (fun i => ws[i]?) = wsR.map some) (hn : va_nd isR = true) (hdis : ∀ i ∈ isR, i ∉ isC) {aa : Array Value}
    (hrun : ∀ (H : Heap) (locs : List Loc) (ls : Array Slot), va_P w.2.2.1 vwCl ws H → va_D A ws → va_S A s.heap H locs → lv_has ls nL lv → va_Run p l e R s m args below meth c H locs cs ss 0 0 (F0 m pc ls st) rest (yQi w' cf n KK (YA w' n H.size) aa) (YA w' n H.size))
    (kk : ∀ (v : Int32) (u : Hp), KK v u → YI p l e R s m args below meth c w A Q nL cs ss (wsR ++ yw w' cf n u) (pc + 3) lv (.int v :: rest)) : YI p l e R s m args below meth c w A Q nL cs ss ws pc lv st := fun H locs ls hP hD hS hl => by
  have e1 : w'.2.2.1 = w.2.2.1 := by rw [hw']
  have hok : yOk w' n := (yw_sub (hD.sub isC hnC hC2)).1
  have hFA : ∀ q, va_A (yw w' cf n σ) H.size q → A q := va_free hD hS E.2.2.2.2.1 isC hC
  have hF : ∀ q, YA w' n H.size q → A q := by rw [← va_A_yw (cf := cf) (σ := σ)]; exact hFA
  refine va_calli (S := Hp) (post := KK) (B := yB w' cf n) (A1 := YA w' n H.size) (hrun H locs ls hP hD hS hl) hS (fun q _ h => hF q h) hF (fun v u t H1 locs1 ht _ hku hB _ hk1 hS1 => ?_)
  have hP1 : va_P w.2.2.1 vwCl (yw w' cf n u) H1 := by rw [← e1, ← ht]; exact hB
  have hk1' : ∀ q : Nat, q < H.size → ¬ va_A (yw w' cf n σ) H.size q → H1[q]? = H[q]? := by rw [va_A_yw]; exact hk1
  have hD1 : va_D (va_A (yw w' cf n σ) H.size) (yw w' cf n u) := by
    rw [va_A_yw]
    exact y_D hok (fun k hk => Or.inl ⟨k, hk, rfl⟩)
  obtain ⟨hP2, hD2⟩ := va_join hP hD isC isR hC hR hn hdis hk1' hFA hP1 hD1
  exact kk v u hku H1 locs1 ls hP2 hD2 hS1 hl
theorem va_at_q {D : va_G} {cl : List vw_C} {H : Heap} {a N : Nat} {cA : ClassId} {f g : Nat → Option Nat} (h : ∀ j, j < N → f j = g j) (ha : va_at D cl (a, .inl (cA, N, .inr (.inr (.inr (.inr f))))) H) : va_at D cl (a, .inl (cA, N, .inr (.inr (.inr (.inr g))))) H := by
  have e : vp_cell cA (N, .inr (.inr (.inr (.inr f)))) = vp_cell cA (N, .inr (.inr (.inr (.inr g)))) := by
    rw [vp_cell_q, vp_cell_q]
    unfold arrV
    congr 1
    apply Array.ext
    · simp
    · intro i h1 h2
      simp at h1
      simp [h i h1]
  show H[a]? = some (vp_cell _ _)
  rw [← e]
  exact ha
theorem yOk_of {w : wT} {A : Nat → Prop} {ws : va_W} {qs : List Nat} {n : Nat} (hD : va_D A ws) (hm : ws.map (fun q => q.1) = qs) (hn : qs.length = n) : yOk ((fun k => qs.getD k 0), w.2) n ∧ ∀ k, k < n → A (qs.getD k 0) := by
  subst hm
  have key : ∀ k, k < n → ∃ e, ws[k]? = some ((ws.map (fun q => q.1)).getD k 0, e) := by
    intro k hk
    have hk2 : k < ws.length := by simpa using (hn ▸ hk)
    refine ⟨ws[k].2, ?_⟩
    rw [List.getElem?_eq_getElem hk2]
    simp [hk2]
  refine ⟨fun i j hi hj h => ?_, fun k hk => ?_⟩
  · obtain ⟨e1, h1⟩ := key i hi
    obtain ⟨e2, h2⟩ := key j hj
    exact hD.1 i j _ _ h1 h2 h
  · obtain ⟨e1, h1⟩ := key k hk
    exact hD.2 k _ h1
theorem yi_vretP {S : Type} {K : S → Prop} {W1 : S → va_W} (E : YE p m meth c cc nL s args own none w 0 A) (hd : decode cc pc = .ok (.return_, 1)) (u : S) (hK : K u) (hw : ∀ H : Heap, va_P w.2.2.1 vwCl ws H → va_P w.2.2.1 vwCl (W1 u) H) (hw2 : va_D A ws → va_D A (W1 u)) : YI p l e R s m args below meth c w A (MQ below (va_Qv (S := S) K (fun u t => va_P w.2.2.1 vwCl (W1 u) t.heap ∧ va_D A (W1 u)) A) args s cs ss A) nL cs ss ws pc lv [] := fun H locs ls hP hD hS hl =>
  W.vret E.1.1 E.1.2.1 E.2.2.2.2.2.1 (fun t ht hW => ⟨⟨u, rfl, hK, by rw [ht]; exact hw H hP, hw2 hD⟩, hS.F ht⟩) hS.2.2 hd E.2.2.2.2.2.2
end YIROWS
theorem yi_start {S : Type} {l : Launch} {w : wT} {y : MethodName} {b : ByteArray} {nL d mc ms : Nat} {av : List Value} {ws0 : va_W} {W1 : S → va_W} {K : S → Prop} {own : String} {lv0 : List (Nat × Value)} (hy : plainName y.cls = true) (hown : y.cls = own) (hlen : (lg_sl av).length ≤ nL) (hlv : lv_args 0 av = lv0)
    (body : ∀ p e s m below meth c A, meth.name = y.name → YE p m meth c b nL s av.toArray own none w 0 A → YI p l e (yRmI d mc ms) s m av.toArray below meth c w A (MQ below (va_Qv (S := S) K (fun u t => va_P w.2.2.1 vwCl (W1 u) t.heap ∧ va_D A (W1 u)) A) av.toArray s mc ms A) nL 0 0 ws0 0 lv0 []) : yMetI l w y b nL d mc ms av ws0 W1 K := by
  intro sz
  refine Met.ofW (cc := b) (maxL := nL) (ret := none) hy rfl ?_
  intro p e s m args below meth c s₁ B hml hv
  obtain ⟨rfl, hsz, hP, hD0, hG⟩ := hv
  subst hsz
  have hts := atoms_spec (ws := .code y b nL none :: wG) B.pre
  have hown2 : s.vm.findClass own = some m.cls := by rw [← hown]; exact findClass_of_methodNamed B.named
  have hname : meth.name = y.name := (name_of_methodNamed B.named B.method).1
  have h := body p e s m below meth c (va_A ws0 s.heap.size) hname ⟨⟨B.exec, B.bytes, hml, hown2, fun w hw => hts w (List.mem_cons_of_mem _ hw)⟩, hG, fun i j hi _ _ => absurd hi (Nat.not_lt_zero i), fun k hk => absurd hk (Nat.not_lt_zero k), fun q hq => Or.inr hq, B.returns, B.notSynchronized⟩
  have hl := lv_entry av (n := nL) hlen
  rw [hlv] at hl
  rw [lg_entry_eq]
  exact h s.heap [] _ hP hD0.self va_S.rf hl
end
section
theorem dX10_init_0 : decode cX10_init 0 = .ok (.aload_n 0, 1) := by decide +kernel
theorem dX10_init_1 : decode cX10_init 1 = .ok (.invokespecial 3, 3) := by decide +kernel
theorem dX10_init_4 : decode cX10_init 4 = .ok (.return_, 1) := by decide +kernel
set_option maxRecDepth 100000 in
set_option maxHeartbeats 4000000 in
theorem kIX10_10 (l : Launch) (w : wT) (h0 : Nat) : yMetI (S := Nat → Nat) l w yX10_init cX10_init 1 1 0 0 [.ref h0] [(h0, .inr (10, []))] (fun u => [(h0, .inr (10, []))]) (fun _ => True) := by
  refine yi_start (lv0 := [(0, .ref h0)]) (by decide +kernel) (own := RX10) rfl (Nat.le_of_ble_eq_true rfl) rfl (fun p e s m below meth c A hin E => ?_)
  refine yi_aload_n E dX10_init_0 0 rfl ?_
  refine yi_objInit E wm_688 wm_689 wm_690 (by decide) (Nat.le_of_ble_eq_true rfl) dX10_init_1 ?_
  exact yi_vret E dX10_init_4 (fun k => ([] : List Nat).getD k 0) trivial rfl
set_option maxRecDepth 100000 in
set_option maxHeartbeats 4000000 in
theorem kIX10_7 (l : Launch) (w : wT) (h0 : Nat) : yMetI (S := Nat → Nat) l w yX10_init cX10_init 1 1 0 0 [.ref h0] [(h0, .inr (7, []))] (fun u => [(h0, .inr (7, []))]) (fun _ => True) := by
  refine yi_start (lv0 := [(0, .ref h0)]) (by decide +kernel) (own := RX10) rfl (Nat.le_of_ble_eq_true rfl) rfl (fun p e s m below meth c A hin E => ?_)
  refine yi_aload_n E dX10_init_0 0 rfl ?_
  refine yi_objInit E wm_688 wm_689 wm_690 (by decide) (Nat.le_of_ble_eq_true rfl) dX10_init_1 ?_
  exact yi_vret E dX10_init_4 (fun k => ([] : List Nat).getD k 0) trivial rfl
set_option maxRecDepth 100000 in
set_option maxHeartbeats 4000000 in
theorem kIX10_5 (l : Launch) (w : wT) (h0 : Nat) : yMetI (S := Nat → Nat) l w yX10_init cX10_init 1 1 0 0 [.ref h0] [(h0, .inr (5, []))] (fun u => [(h0, .inr (5, []))]) (fun _ => True) := by
  refine yi_start (lv0 := [(0, .ref h0)]) (by decide +kernel) (own := RX10) rfl (Nat.le_of_ble_eq_true rfl) rfl (fun p e s m below meth c A hin E => ?_)
  refine yi_aload_n E dX10_init_0 0 rfl ?_
  refine yi_objInit E wm_688 wm_689 wm_690 (by decide) (Nat.le_of_ble_eq_true rfl) dX10_init_1 ?_
  exact yi_vret E dX10_init_4 (fun k => ([] : List Nat).getD k 0) trivial rfl
set_option maxRecDepth 100000 in
set_option maxHeartbeats 4000000 in
theorem kIX10_8 (l : Launch) (w : wT) (h0 : Nat) : yMetI (S := Nat → Nat) l w yX10_init cX10_init 1 1 0 0 [.ref h0] [(h0, .inr (8, []))] (fun u => [(h0, .inr (8, []))]) (fun _ => True) := by
  refine yi_start (lv0 := [(0, .ref h0)]) (by decide +kernel) (own := RX10) rfl (Nat.le_of_ble_eq_true rfl) rfl (fun p e s m below meth c A hin E => ?_)
  refine yi_aload_n E dX10_init_0 0 rfl ?_
  refine yi_objInit E wm_688 wm_689 wm_690 (by decide) (Nat.le_of_ble_eq_true rfl) dX10_init_1 ?_
  exact yi_vret E dX10_init_4 (fun k => ([] : List Nat).getD k 0) trivial rfl
set_option maxRecDepth 100000 in
set_option maxHeartbeats 4000000 in
theorem kIX10_0 (l : Launch) (w : wT) (h0 : Nat) : yMetI (S := Nat → Nat) l w yX10_init cX10_init 1 1 0 0 [.ref h0] [(h0, .inr (0, []))] (fun u => [(h0, .inr (0, []))]) (fun _ => True) := by
  refine yi_start (lv0 := [(0, .ref h0)]) (by decide +kernel) (own := RX10) rfl (Nat.le_of_ble_eq_true rfl) rfl (fun p e s m below meth c A hin E => ?_)
  refine yi_aload_n E dX10_init_0 0 rfl ?_
  refine yi_objInit E wm_688 wm_689 wm_690 (by decide) (Nat.le_of_ble_eq_true rfl) dX10_init_1 ?_
  exact yi_vret E dX10_init_4 (fun k => ([] : List Nat).getD k 0) trivial rfl
set_option maxRecDepth 100000 in
set_option maxHeartbeats 4000000 in
theorem kIX10_2 (l : Launch) (w : wT) (h0 : Nat) : yMetI (S := Nat → Nat) l w yX10_init cX10_init 1 1 0 0 [.ref h0] [(h0, .inr (2, []))] (fun u => [(h0, .inr (2, []))]) (fun _ => True) := by
  refine yi_start (lv0 := [(0, .ref h0)]) (by decide +kernel) (own := RX10) rfl (Nat.le_of_ble_eq_true rfl) rfl (fun p e s m below meth c A hin E => ?_)
  refine yi_aload_n E dX10_init_0 0 rfl ?_
  refine yi_objInit E wm_688 wm_689 wm_690 (by decide) (Nat.le_of_ble_eq_true rfl) dX10_init_1 ?_
  exact yi_vret E dX10_init_4 (fun k => ([] : List Nat).getD k 0) trivial rfl
theorem dX7_init_0 : decode cX7_init 0 = .ok (.aload_n 0, 1) := by decide +kernel
theorem dX7_init_1 : decode cX7_init 1 = .ok (.invokespecial 3, 3) := by decide +kernel
theorem dX7_init_4 : decode cX7_init 4 = .ok (.return_, 1) := by decide +kernel
set_option maxRecDepth 100000 in
set_option maxHeartbeats 4000000 in
theorem kIX7_7 (l : Launch) (w : wT) (h0 : Nat) : yMetI (S := Nat → Nat) l w yX7_init cX7_init 1 2 0 0 [.ref h0] [(h0, .inr (7, []))] (fun u => [(h0, .inr (7, []))]) (fun _ => True) := by
  refine yi_start (lv0 := [(0, .ref h0)]) (by decide +kernel) (own := RX7) rfl (Nat.le_of_ble_eq_true rfl) rfl (fun p e s m below meth c A hin E => ?_)
  refine yi_aload_n E dX7_init_0 0 rfl ?_
  refine yi_initN (wsR := []) [0] [] (kIX10_7 l w h0) ⟨va_cnB (host := RX11) 0 E.1.2.2.2.2 (gI wm_692) rfl rfl rfl (E.2.1.2.1.1 _ (List.mem_of_getElem? (i := 9) rfl)) (E.1.2.2.2.2 _ wm_93) (by decide +kernel) ⟨Nat.le_of_ble_eq_true rfl, Nat.le_of_ble_eq_true rfl⟩, rfl, E.1.2.2.2.2 _ wm_691⟩ rfl rfl rfl rfl rfl (by decide) rfl rfl (Nat.le_of_ble_eq_true rfl) ⟨Nat.le_of_ble_eq_true rfl, Nat.le_of_ble_eq_true rfl⟩ dX7_init_1 (fun u1 _ => ?_)
  refine yi_eq (ws' := [(h0, .inr (7, []))]) rfl ?_
  exact yi_vret E dX7_init_4 (fun k => ([] : List Nat).getD k 0) trivial rfl
set_option maxRecDepth 100000 in
set_option maxHeartbeats 4000000 in
theorem kIX7_8 (l : Launch) (w : wT) (h0 : Nat) : yMetI (S := Nat → Nat) l w yX7_init cX7_init 1 2 0 0 [.ref h0] [(h0, .inr (8, []))] (fun u => [(h0, .inr (8, []))]) (fun _ => True) := by
  refine yi_start (lv0 := [(0, .ref h0)]) (by decide +kernel) (own := RX7) rfl (Nat.le_of_ble_eq_true rfl) rfl (fun p e s m below meth c A hin E => ?_)
  refine yi_aload_n E dX7_init_0 0 rfl ?_
  refine yi_initN (wsR := []) [0] [] (kIX10_8 l w h0) ⟨va_cnB (host := RX11) 0 E.1.2.2.2.2 (gI wm_692) rfl rfl rfl (E.2.1.2.1.1 _ (List.mem_of_getElem? (i := 9) rfl)) (E.1.2.2.2.2 _ wm_93) (by decide +kernel) ⟨Nat.le_of_ble_eq_true rfl, Nat.le_of_ble_eq_true rfl⟩, rfl, E.1.2.2.2.2 _ wm_691⟩ rfl rfl rfl rfl rfl (by decide) rfl rfl (Nat.le_of_ble_eq_true rfl) ⟨Nat.le_of_ble_eq_true rfl, Nat.le_of_ble_eq_true rfl⟩ dX7_init_1 (fun u1 _ => ?_)
  refine yi_eq (ws' := [(h0, .inr (8, []))]) rfl ?_
  exact yi_vret E dX7_init_4 (fun k => ([] : List Nat).getD k 0) trivial rfl
theorem dX5_init_0 : decode cX5_init 0 = .ok (.aload_n 0, 1) := by decide +kernel
theorem dX5_init_1 : decode cX5_init 1 = .ok (.invokespecial 1, 3) := by decide +kernel
theorem dX5_init_4 : decode cX5_init 4 = .ok (.return_, 1) := by decide +kernel
set_option maxRecDepth 100000 in
set_option maxHeartbeats 4000000 in
theorem kIX5_5 (l : Launch) (w : wT) (h0 : Nat) : yMetI (S := Nat → Nat) l w yX5_init cX5_init 1 2 0 0 [.ref h0] [(h0, .inr (5, []))] (fun u => [(h0, .inr (5, []))]) (fun _ => True) := by
  refine yi_start (lv0 := [(0, .ref h0)]) (by decide +kernel) (own := RX5) rfl (Nat.le_of_ble_eq_true rfl) rfl (fun p e s m below meth c A hin E => ?_)
  refine yi_aload_n E dX5_init_0 0 rfl ?_
  refine yi_initN (wsR := []) [0] [] (kIX10_5 l w h0) ⟨va_cnB (host := RX11) 0 E.1.2.2.2.2 (gI wm_692) rfl rfl rfl (E.2.1.2.1.1 _ (List.mem_of_getElem? (i := 10) rfl)) (E.1.2.2.2.2 _ wm_93) (by decide +kernel) ⟨Nat.le_of_ble_eq_true rfl, Nat.le_of_ble_eq_true rfl⟩, rfl, E.1.2.2.2.2 _ wm_691⟩ rfl rfl rfl rfl rfl (by decide) rfl rfl (Nat.le_of_ble_eq_true rfl) ⟨Nat.le_of_ble_eq_true rfl, Nat.le_of_ble_eq_true rfl⟩ dX5_init_1 (fun u1 _ => ?_)
  refine yi_eq (ws' := [(h0, .inr (5, []))]) rfl ?_
  exact yi_vret E dX5_init_4 (fun k => ([] : List Nat).getD k 0) trivial rfl
set_option maxRecDepth 100000 in
set_option maxHeartbeats 4000000 in
theorem kIX5_0 (l : Launch) (w : wT) (h0 : Nat) : yMetI (S := Nat → Nat) l w yX5_init cX5_init 1 2 0 0 [.ref h0] [(h0, .inr (0, []))] (fun u => [(h0, .inr (0, []))]) (fun _ => True) := by
  refine yi_start (lv0 := [(0, .ref h0)]) (by decide +kernel) (own := RX5) rfl (Nat.le_of_ble_eq_true rfl) rfl (fun p e s m below meth c A hin E => ?_)
  refine yi_aload_n E dX5_init_0 0 rfl ?_
  refine yi_initN (wsR := []) [0] [] (kIX10_0 l w h0) ⟨va_cnB (host := RX11) 0 E.1.2.2.2.2 (gI wm_692) rfl rfl rfl (E.2.1.2.1.1 _ (List.mem_of_getElem? (i := 10) rfl)) (E.1.2.2.2.2 _ wm_93) (by decide +kernel) ⟨Nat.le_of_ble_eq_true rfl, Nat.le_of_ble_eq_true rfl⟩, rfl, E.1.2.2.2.2 _ wm_691⟩ rfl rfl rfl rfl rfl (by decide) rfl rfl (Nat.le_of_ble_eq_true rfl) ⟨Nat.le_of_ble_eq_true rfl, Nat.le_of_ble_eq_true rfl⟩ dX5_init_1 (fun u1 _ => ?_)
  refine yi_eq (ws' := [(h0, .inr (0, []))]) rfl ?_
  exact yi_vret E dX5_init_4 (fun k => ([] : List Nat).getD k 0) trivial rfl
theorem dX8_init_0 : decode cX8_init 0 = .ok (.aload_n 0, 1) := by decide +kernel
theorem dX8_init_1 : decode cX8_init 1 = .ok (.invokespecial 1, 3) := by decide +kernel
theorem dX8_init_4 : decode cX8_init 4 = .ok (.return_, 1) := by decide +kernel
set_option maxRecDepth 100000 in
set_option maxHeartbeats 4000000 in
theorem kIX8_8 (l : Launch) (w : wT) (h0 : Nat) : yMetI (S := Nat → Nat) l w yX8_init cX8_init 1 3 0 0 [.ref h0] [(h0, .inr (8, []))] (fun u => [(h0, .inr (8, []))]) (fun _ => True) := by
  refine yi_start (lv0 := [(0, .ref h0)]) (by decide +kernel) (own := RX8) rfl (Nat.le_of_ble_eq_true rfl) rfl (fun p e s m below meth c A hin E => ?_)
  refine yi_aload_n E dX8_init_0 0 rfl ?_
  refine yi_initN (wsR := []) [0] [] (kIX7_8 l w h0) ⟨va_cnB (host := RX11) 0 E.1.2.2.2.2 (gI wm_694) rfl rfl rfl (E.2.1.2.1.1 _ (List.mem_of_getElem? (i := 12) rfl)) (E.1.2.2.2.2 _ wm_239) (by decide +kernel) ⟨Nat.le_of_ble_eq_true rfl, Nat.le_of_ble_eq_true rfl⟩, rfl, E.1.2.2.2.2 _ wm_693⟩ rfl rfl rfl rfl rfl (by decide) rfl rfl (Nat.le_of_ble_eq_true rfl) ⟨Nat.le_of_ble_eq_true rfl, Nat.le_of_ble_eq_true rfl⟩ dX8_init_1 (fun u1 _ => ?_)
  refine yi_eq (ws' := [(h0, .inr (8, []))]) rfl ?_
  exact yi_vret E dX8_init_4 (fun k => ([] : List Nat).getD k 0) trivial rfl
theorem dX0_init_0 : decode cX0_init 0 = .ok (.aload_n 0, 1) := by decide +kernel
theorem dX0_init_1 : decode cX0_init 1 = .ok (.invokespecial 3, 3) := by decide +kernel
theorem dX0_init_4 : decode cX0_init 4 = .ok (.return_, 1) := by decide +kernel
set_option maxRecDepth 100000 in
set_option maxHeartbeats 4000000 in
theorem kIX0_0 (l : Launch) (w : wT) (h0 : Nat) : yMetI (S := Nat → Nat) l w yX0_init cX0_init 1 3 0 0 [.ref h0] [(h0, .inr (0, []))] (fun u => [(h0, .inr (0, []))]) (fun _ => True) := by
  refine yi_start (lv0 := [(0, .ref h0)]) (by decide +kernel) (own := RX0) rfl (Nat.le_of_ble_eq_true rfl) rfl (fun p e s m below meth c A hin E => ?_)
  refine yi_aload_n E dX0_init_0 0 rfl ?_
  refine yi_initN (wsR := []) [0] [] (kIX5_0 l w h0) ⟨va_cnB (host := RX11) 0 E.1.2.2.2.2 (gI wm_696) rfl rfl rfl (E.2.1.2.1.1 _ (List.mem_of_getElem? (i := 13) rfl)) (E.1.2.2.2.2 _ wm_87) (by decide +kernel) ⟨Nat.le_of_ble_eq_true rfl, Nat.le_of_ble_eq_true rfl⟩, rfl, E.1.2.2.2.2 _ wm_695⟩ rfl rfl rfl rfl rfl (by decide) rfl rfl (Nat.le_of_ble_eq_true rfl) ⟨Nat.le_of_ble_eq_true rfl, Nat.le_of_ble_eq_true rfl⟩ dX0_init_1 (fun u1 _ => ?_)
  refine yi_eq (ws' := [(h0, .inr (0, []))]) rfl ?_
  exact yi_vret E dX0_init_4 (fun k => ([] : List Nat).getD k 0) trivial rfl
theorem dX2_init_0 : decode cX2_init 0 = .ok (.aload_n 0, 1) := by decide +kernel
theorem dX2_init_1 : decode cX2_init 1 = .ok (.invokespecial 3, 3) := by decide +kernel
theorem dX2_init_4 : decode cX2_init 4 = .ok (.return_, 1) := by decide +kernel
set_option maxRecDepth 100000 in
set_option maxHeartbeats 4000000 in
theorem kIX2_2 (l : Launch) (w : wT) (h0 : Nat) : yMetI (S := Nat → Nat) l w yX2_init cX2_init 1 2 0 0 [.ref h0] [(h0, .inr (2, []))] (fun u => [(h0, .inr (2, []))]) (fun _ => True) := by
  refine yi_start (lv0 := [(0, .ref h0)]) (by decide +kernel) (own := RX2) rfl (Nat.le_of_ble_eq_true rfl) rfl (fun p e s m below meth c A hin E => ?_)
  refine yi_aload_n E dX2_init_0 0 rfl ?_
  refine yi_initN (wsR := []) [0] [] (kIX10_2 l w h0) ⟨va_cnB (host := RX11) 0 E.1.2.2.2.2 (gI wm_692) rfl rfl rfl (E.2.1.2.1.1 _ (List.mem_of_getElem? (i := 11) rfl)) (E.1.2.2.2.2 _ wm_93) (by decide +kernel) ⟨Nat.le_of_ble_eq_true rfl, Nat.le_of_ble_eq_true rfl⟩, rfl, E.1.2.2.2.2 _ wm_691⟩ rfl rfl rfl rfl rfl (by decide) rfl rfl (Nat.le_of_ble_eq_true rfl) ⟨Nat.le_of_ble_eq_true rfl, Nat.le_of_ble_eq_true rfl⟩ dX2_init_1 (fun u1 _ => ?_)
  refine yi_eq (ws' := [(h0, .inr (2, []))]) rfl ?_
  exact yi_vret E dX2_init_4 (fun k => ([] : List Nat).getD k 0) trivial rfl
theorem dX3_init_0 : decode cX3_init 0 = .ok (.aload_n 0, 1) := by decide +kernel
theorem dX3_init_1 : decode cX3_init 1 = .ok (.invokespecial 3, 3) := by decide +kernel
theorem dX3_init_4 : decode cX3_init 4 = .ok (.aload_n 0, 1) := by decide +kernel
theorem dX3_init_5 : decode cX3_init 5 = .ok (.iconst 5, 1) := by decide +kernel
theorem dX3_init_6 : decode cX3_init 6 = .ok (.newarray .int, 2) := by decide +kernel
theorem dX3_init_8 : decode cX3_init 8 = .ok (.putfield 9, 3) := by decide +kernel
theorem dX3_init_11 : decode cX3_init 11 = .ok (.aload_n 0, 1) := by decide +kernel
theorem dX3_init_12 : decode cX3_init 12 = .ok (.iconst 5, 1) := by decide +kernel
theorem dX3_init_13 : decode cX3_init 13 = .ok (.newarray .int, 2) := by decide +kernel
theorem dX3_init_15 : decode cX3_init 15 = .ok (.putfield 15, 3) := by decide +kernel
theorem dX3_init_18 : decode cX3_init 18 = .ok (.aload_n 0, 1) := by decide +kernel
theorem dX3_init_19 : decode cX3_init 19 = .ok (.iconst 5, 1) := by decide +kernel
theorem dX3_init_20 : decode cX3_init 20 = .ok (.newarray .int, 2) := by decide +kernel
theorem dX3_init_22 : decode cX3_init 22 = .ok (.putfield 18, 3) := by decide +kernel
theorem dX3_init_25 : decode cX3_init 25 = .ok (.aload_n 0, 1) := by decide +kernel
theorem dX3_init_26 : decode cX3_init 26 = .ok (.iconst 5, 1) := by decide +kernel
theorem dX3_init_27 : decode cX3_init 27 = .ok (.newarray .int, 2) := by decide +kernel
theorem dX3_init_29 : decode cX3_init 29 = .ok (.putfield 21, 3) := by decide +kernel
theorem dX3_init_32 : decode cX3_init 32 = .ok (.return_, 1) := by decide +kernel
set_option maxRecDepth 100000 in
set_option maxHeartbeats 4000000 in
theorem kIX3_3 (l : Launch) (w : wT) (h0 : Nat) : yMetI (S := Nat → Nat) l w yX3_init cX3_init 1 1 4 20 [.ref h0] [(h0, .inr (3, [.int 0, .int 0, .int 0, .int 0, .int 0, .int 0, .null, .null, .null, .null]))] (fun u => [(h0, .inr (3, [.int 0, .int 0, .int 0, .int 0, .int 0, .int 0, .ref (u 0), .ref (u 1), .ref (u 2), .ref (u 3)])), ((u 0), .inl (w.2.1 1, 5, .inl (fun _ => 0))), ((u 1), .inl (w.2.1 1, 5, .inl (fun _ => 0))), ((u 2), .inl (w.2.1 1, 5, .inl (fun _ => 0))), ((u 3), .inl (w.2.1 1, 5, .inl (fun _ => 0)))]) (fun _ => True) := by
  refine yi_start (lv0 := [(0, .ref h0)]) (by decide +kernel) (own := RX3) rfl (Nat.le_of_ble_eq_true rfl) rfl (fun p e s m below meth c A hin E => ?_)
  refine yi_aload_n E dX3_init_0 0 rfl ?_
  refine yi_objInit E wm_697 wm_689 wm_690 (by decide) (Nat.le_of_ble_eq_true rfl) dX3_init_1 ?_
  refine yi_aload_n E dX3_init_4 0 rfl ?_
  refine yi_iconst (v := 5) E dX3_init_5 (by decide) ?_
  refine yi_newaI (N' := 5) E wm_698 (by decide) (by decide) (Nat.le_of_ble_eq_true rfl) ⟨Nat.le_of_ble_eq_true rfl, Nat.le_of_ble_eq_true rfl⟩ dX3_init_6 (fun q1 => ?_)
  refine yi_eq (ws' := [(h0, .inr (3, [.int 0, .int 0, .int 0, .int 0, .int 0, .int 0, .null, .null, .null, .null])), (q1, .inl (w.2.1 1, 5, .inl (fun _ => 0)))]) rfl ?_
  refine yi_putF (q := 0) (ci := 3) (k := 6) (N := 10) (C := RX3) (T := TX3) (v := .ref q1) (ty := (.array .int)) (ws' := [(h0, .inr (3, [.int 0, .int 0, .int 0, .int 0, .int 0, .int 0, .ref q1, .null, .null, .null])), (q1, .inl (w.2.1 1, 5, .inl (fun _ => 0)))]) E rfl rfl wu_X3 tyX3 tyX3_ok nmX3 (by decide) wm_138 rfl hin rfl (by decide +kernel) rfl rfl (by decide) rfl dX3_init_8 ?_
  refine yi_aload_n E dX3_init_11 0 rfl ?_
  refine yi_iconst (v := 5) E dX3_init_12 (by decide) ?_
  refine yi_newaI (N' := 5) E wm_698 (by decide) (by decide) (Nat.le_of_ble_eq_true rfl) ⟨Nat.le_of_ble_eq_true rfl, Nat.le_of_ble_eq_true rfl⟩ dX3_init_13 (fun q2 => ?_)
  refine yi_eq (ws' := [(h0, .inr (3, [.int 0, .int 0, .int 0, .int 0, .int 0, .int 0, .ref q1, .null, .null, .null])), (q1, .inl (w.2.1 1, 5, .inl (fun _ => 0))), (q2, .inl (w.2.1 1, 5, .inl (fun _ => 0)))]) rfl ?_
  refine yi_putF (q := 0) (ci := 3) (k := 7) (N := 10) (C := RX3) (T := TX3) (v := .ref q2) (ty := (.array .int)) (ws' := [(h0, .inr (3, [.int 0, .int 0, .int 0, .int 0, .int 0, .int 0, .ref q1, .ref q2, .null, .null])), (q1, .inl (w.2.1 1, 5, .inl (fun _ => 0))), (q2, .inl (w.2.1 1, 5, .inl (fun _ => 0)))]) E rfl rfl wu_X3 tyX3 tyX3_ok nmX3 (by decide) wm_140 rfl hin rfl (by decide +kernel) rfl rfl (by decide) rfl dX3_init_15 ?_
  refine yi_aload_n E dX3_init_18 0 rfl ?_
  refine yi_iconst (v := 5) E dX3_init_19 (by decide) ?_
  refine yi_newaI (N' := 5) E wm_698 (by decide) (by decide) (Nat.le_of_ble_eq_true rfl) ⟨Nat.le_of_ble_eq_true rfl, Nat.le_of_ble_eq_true rfl⟩ dX3_init_20 (fun q3 => ?_)
  refine yi_eq (ws' := [(h0, .inr (3, [.int 0, .int 0, .int 0, .int 0, .int 0, .int 0, .ref q1, .ref q2, .null, .null])), (q1, .inl (w.2.1 1, 5, .inl (fun _ => 0))), (q2, .inl (w.2.1 1, 5, .inl (fun _ => 0))), (q3, .inl (w.2.1 1, 5, .inl (fun _ => 0)))]) rfl ?_
  refine yi_putF (q := 0) (ci := 3) (k := 8) (N := 10) (C := RX3) (T := TX3) (v := .ref q3) (ty := (.array .int)) (ws' := [(h0, .inr (3, [.int 0, .int 0, .int 0, .int 0, .int 0, .int 0, .ref q1, .ref q2, .ref q3, .null])), (q1, .inl (w.2.1 1, 5, .inl (fun _ => 0))), (q2, .inl (w.2.1 1, 5, .inl (fun _ => 0))), (q3, .inl (w.2.1 1, 5, .inl (fun _ => 0)))]) E rfl rfl wu_X3 tyX3 tyX3_ok nmX3 (by decide) wm_141 rfl hin rfl (by decide +kernel) rfl rfl (by decide) rfl dX3_init_22 ?_
  refine yi_aload_n E dX3_init_25 0 rfl ?_
  refine yi_iconst (v := 5) E dX3_init_26 (by decide) ?_
  refine yi_newaI (N' := 5) E wm_698 (by decide) (by decide) (Nat.le_of_ble_eq_true rfl) ⟨Nat.le_of_ble_eq_true rfl, Nat.le_of_ble_eq_true rfl⟩ dX3_init_27 (fun q4 => ?_)
  refine yi_eq (ws' := [(h0, .inr (3, [.int 0, .int 0, .int 0, .int 0, .int 0, .int 0, .ref q1, .ref q2, .ref q3, .null])), (q1, .inl (w.2.1 1, 5, .inl (fun _ => 0))), (q2, .inl (w.2.1 1, 5, .inl (fun _ => 0))), (q3, .inl (w.2.1 1, 5, .inl (fun _ => 0))), (q4, .inl (w.2.1 1, 5, .inl (fun _ => 0)))]) rfl ?_
  refine yi_putF (q := 0) (ci := 3) (k := 9) (N := 10) (C := RX3) (T := TX3) (v := .ref q4) (ty := (.array .int)) (ws' := [(h0, .inr (3, [.int 0, .int 0, .int 0, .int 0, .int 0, .int 0, .ref q1, .ref q2, .ref q3, .ref q4])), (q1, .inl (w.2.1 1, 5, .inl (fun _ => 0))), (q2, .inl (w.2.1 1, 5, .inl (fun _ => 0))), (q3, .inl (w.2.1 1, 5, .inl (fun _ => 0))), (q4, .inl (w.2.1 1, 5, .inl (fun _ => 0)))]) E rfl rfl wu_X3 tyX3 tyX3_ok nmX3 (by decide) wm_142 rfl hin rfl (by decide +kernel) rfl rfl (by decide) rfl dX3_init_29 ?_
  exact yi_vret E dX3_init_32 (fun k => ([q1, q2, q3, q4] : List Nat).getD k 0) trivial rfl
theorem dX4_init_0 : decode cX4_init 0 = .ok (.aload_n 0, 1) := by decide +kernel
theorem dX4_init_1 : decode cX4_init 1 = .ok (.invokespecial 3, 3) := by decide +kernel
theorem dX4_init_4 : decode cX4_init 4 = .ok (.aload_n 0, 1) := by decide +kernel
theorem dX4_init_5 : decode cX4_init 5 = .ok (.sipush 160, 3) := by decide +kernel
theorem dX4_init_8 : decode cX4_init 8 = .ok (.newarray .byte, 2) := by decide +kernel
theorem dX4_init_10 : decode cX4_init 10 = .ok (.putfield 9, 3) := by decide +kernel
theorem dX4_init_13 : decode cX4_init 13 = .ok (.return_, 1) := by decide +kernel
set_option maxRecDepth 100000 in
set_option maxHeartbeats 4000000 in
theorem kIX4_4 (l : Launch) (w : wT) (h0 : Nat) : yMetI (S := Nat → Nat) l w yX4_init cX4_init 1 1 1 160 [.ref h0] [(h0, .inr (4, [.null, .int 0, .int 0, .int 0, .int 0, .int 0, .null]))] (fun u => [(h0, .inr (4, [.ref (u 0), .int 0, .int 0, .int 0, .int 0, .int 0, .null])), ((u 0), .inl (w.2.1 0, 160, .inl (fun _ => 0)))]) (fun _ => True) := by
  refine yi_start (lv0 := [(0, .ref h0)]) (by decide +kernel) (own := RX4) rfl (Nat.le_of_ble_eq_true rfl) rfl (fun p e s m below meth c A hin E => ?_)
  refine yi_aload_n E dX4_init_0 0 rfl ?_
  refine yi_objInit E wm_699 wm_689 wm_690 (by decide) (Nat.le_of_ble_eq_true rfl) dX4_init_1 ?_
  refine yi_aload_n E dX4_init_4 0 rfl ?_
  refine yi_sipush (v := 160) E dX4_init_5 (by decide) ?_
  refine yi_newaB (N' := 160) E wm_700 (by decide) (by decide) (Nat.le_of_ble_eq_true rfl) ⟨Nat.le_of_ble_eq_true rfl, Nat.le_of_ble_eq_true rfl⟩ dX4_init_8 (fun q1 => ?_)
  refine yi_eq (ws' := [(h0, .inr (4, [.null, .int 0, .int 0, .int 0, .int 0, .int 0, .null])), (q1, .inl (w.2.1 0, 160, .inl (fun _ => 0)))]) rfl ?_
  refine yi_putF (q := 0) (ci := 4) (k := 0) (N := 7) (C := RX4) (T := TX4) (v := .ref q1) (ty := (.array .byte)) (ws' := [(h0, .inr (4, [.ref q1, .int 0, .int 0, .int 0, .int 0, .int 0, .null])), (q1, .inl (w.2.1 0, 160, .inl (fun _ => 0)))]) E rfl rfl wu_X4 tyX4 tyX4_ok nmX4 (by decide) wm_147 rfl hin rfl (by decide +kernel) rfl rfl (by decide) rfl dX4_init_10 ?_
  exact yi_vret E dX4_init_13 (fun k => ([q1] : List Nat).getD k 0) trivial rfl
theorem dX6_init_0 : decode cX6_init 0 = .ok (.aload_n 0, 1) := by decide +kernel
theorem dX6_init_1 : decode cX6_init 1 = .ok (.invokespecial 3, 3) := by decide +kernel
theorem dX6_init_4 : decode cX6_init 4 = .ok (.aload_n 0, 1) := by decide +kernel
theorem dX6_init_5 : decode cX6_init 5 = .ok (.bipush 40, 2) := by decide +kernel
theorem dX6_init_7 : decode cX6_init 7 = .ok (.newarray .int, 2) := by decide +kernel
theorem dX6_init_9 : decode cX6_init 9 = .ok (.putfield 9, 3) := by decide +kernel
theorem dX6_init_12 : decode cX6_init 12 = .ok (.aload_n 0, 1) := by decide +kernel
theorem dX6_init_13 : decode cX6_init 13 = .ok (.iconst (-1), 1) := by decide +kernel
theorem dX6_init_14 : decode cX6_init 14 = .ok (.putfield 15, 3) := by decide +kernel
theorem dX6_init_17 : decode cX6_init 17 = .ok (.return_, 1) := by decide +kernel
set_option maxRecDepth 100000 in
set_option maxHeartbeats 4000000 in
theorem kIX6_6 (l : Launch) (w : wT) (h0 : Nat) : yMetI (S := Nat → Nat) l w yX6_init cX6_init 1 1 1 40 [.ref h0] [(h0, .inr (6, [.null, .int 0, .int 0]))] (fun u => [(h0, .inr (6, [.ref (u 0), .int (-1), .int 0])), ((u 0), .inl (w.2.1 1, 40, .inl (fun _ => 0)))]) (fun _ => True) := by
  refine yi_start (lv0 := [(0, .ref h0)]) (by decide +kernel) (own := RX6) rfl (Nat.le_of_ble_eq_true rfl) rfl (fun p e s m below meth c A hin E => ?_)
  refine yi_aload_n E dX6_init_0 0 rfl ?_
  refine yi_objInit E wm_701 wm_689 wm_690 (by decide) (Nat.le_of_ble_eq_true rfl) dX6_init_1 ?_
  refine yi_aload_n E dX6_init_4 0 rfl ?_
  refine yi_bipush (v := 40) E dX6_init_5 (by decide) ?_
  refine yi_newaI (N' := 40) E wm_698 (by decide) (by decide) (Nat.le_of_ble_eq_true rfl) ⟨Nat.le_of_ble_eq_true rfl, Nat.le_of_ble_eq_true rfl⟩ dX6_init_7 (fun q1 => ?_)
  refine yi_eq (ws' := [(h0, .inr (6, [.null, .int 0, .int 0])), (q1, .inl (w.2.1 1, 40, .inl (fun _ => 0)))]) rfl ?_
  refine yi_putF (q := 0) (ci := 6) (k := 0) (N := 3) (C := RX6) (T := TX6) (v := .ref q1) (ty := (.array .int)) (ws' := [(h0, .inr (6, [.ref q1, .int 0, .int 0])), (q1, .inl (w.2.1 1, 40, .inl (fun _ => 0)))]) E rfl rfl wu_X6 tyX6 tyX6_ok nmX6 (by decide) wm_232 rfl hin rfl (by decide +kernel) rfl rfl (by decide) rfl dX6_init_9 ?_
  refine yi_aload_n E dX6_init_12 0 rfl ?_
  refine yi_iconst (v := (-1)) E dX6_init_13 (by decide) ?_
  refine yi_put (q := 0) (ci := 6) (k := 1) (N := 3) (C := RX6) (T := TX6) (v := .int (-1)) (ty := .int) (ws' := [(h0, .inr (6, [.ref q1, .int (-1), .int 0])), (q1, .inl (w.2.1 1, 40, .inl (fun _ => 0)))]) E rfl rfl wu_X6 tyX6 tyX6_ok nmX6 (by decide) wm_230 rfl (by decide +kernel) rfl rfl (by decide) rfl dX6_init_14 ?_
  exact yi_vret E dX6_init_17 (fun k => ([q1] : List Nat).getD k 0) trivial rfl
theorem dX9_init_0 : decode cX9_init 0 = .ok (.aload_n 0, 1) := by decide +kernel
theorem dX9_init_1 : decode cX9_init 1 = .ok (.invokespecial 3, 3) := by decide +kernel
theorem dX9_init_4 : decode cX9_init 4 = .ok (.aload_n 0, 1) := by decide +kernel
theorem dX9_init_5 : decode cX9_init 5 = .ok (.sipush 160, 3) := by decide +kernel
theorem dX9_init_8 : decode cX9_init 8 = .ok (.newarray .int, 2) := by decide +kernel
theorem dX9_init_10 : decode cX9_init 10 = .ok (.putfield 9, 3) := by decide +kernel
theorem dX9_init_13 : decode cX9_init 13 = .ok (.aload_n 0, 1) := by decide +kernel
theorem dX9_init_14 : decode cX9_init 14 = .ok (.iconst 4, 1) := by decide +kernel
theorem dX9_init_15 : decode cX9_init 15 = .ok (.newarray .int, 2) := by decide +kernel
theorem dX9_init_17 : decode cX9_init 17 = .ok (.putfield 15, 3) := by decide +kernel
theorem dX9_init_20 : decode cX9_init 20 = .ok (.aload_n 0, 1) := by decide +kernel
theorem dX9_init_21 : decode cX9_init 21 = .ok (.aload_n 1, 1) := by decide +kernel
theorem dX9_init_22 : decode cX9_init 22 = .ok (.putfield 18, 3) := by decide +kernel
theorem dX9_init_25 : decode cX9_init 25 = .ok (.return_, 1) := by decide +kernel
set_option maxRecDepth 100000 in
set_option maxHeartbeats 4000000 in
theorem kIX9_9 (l : Launch) (w : wT) (h0 h1 : Nat) : yMetI (S := Nat → Nat) l w yX9_init cX9_init 2 1 2 164 [.ref h0, .ref h1] [(h0, .inr (9, [.null, .null, .null, .int 0, .int 0]))] (fun u => [(h0, .inr (9, [.ref (u 0), .ref (u 1), .ref h1, .int 0, .int 0])), ((u 0), .inl (w.2.1 1, 160, .inl (fun _ => 0))), ((u 1), .inl (w.2.1 1, 4, .inl (fun _ => 0)))]) (fun _ => True) := by
  refine yi_start (lv0 := [(0, .ref h0), (1, .ref h1)]) (by decide +kernel) (own := RX9) rfl (Nat.le_of_ble_eq_true rfl) rfl (fun p e s m below meth c A hin E => ?_)
  refine yi_aload_n E dX9_init_0 0 rfl ?_
  refine yi_objInit E wm_702 wm_689 wm_690 (by decide) (Nat.le_of_ble_eq_true rfl) dX9_init_1 ?_
  refine yi_aload_n E dX9_init_4 0 rfl ?_
  refine yi_sipush (v := 160) E dX9_init_5 (by decide) ?_
  refine yi_newaI (N' := 160) E wm_698 (by decide) (by decide) (Nat.le_of_ble_eq_true rfl) ⟨Nat.le_of_ble_eq_true rfl, Nat.le_of_ble_eq_true rfl⟩ dX9_init_8 (fun q1 => ?_)
  refine yi_eq (ws' := [(h0, .inr (9, [.null, .null, .null, .int 0, .int 0])), (q1, .inl (w.2.1 1, 160, .inl (fun _ => 0)))]) rfl ?_
  refine yi_putF (q := 0) (ci := 9) (k := 0) (N := 5) (C := RX9) (T := TX9) (v := .ref q1) (ty := (.array .int)) (ws' := [(h0, .inr (9, [.ref q1, .null, .null, .int 0, .int 0])), (q1, .inl (w.2.1 1, 160, .inl (fun _ => 0)))]) E rfl rfl wu_X9 tyX9 tyX9_ok nmX9 (by decide) wm_247 rfl hin rfl (by decide +kernel) rfl rfl (by decide) rfl dX9_init_10 ?_
  refine yi_aload_n E dX9_init_13 0 rfl ?_
  refine yi_iconst (v := 4) E dX9_init_14 (by decide) ?_
  refine yi_newaI (N' := 4) E wm_698 (by decide) (by decide) (Nat.le_of_ble_eq_true rfl) ⟨Nat.le_of_ble_eq_true rfl, Nat.le_of_ble_eq_true rfl⟩ dX9_init_15 (fun q2 => ?_)
  refine yi_eq (ws' := [(h0, .inr (9, [.ref q1, .null, .null, .int 0, .int 0])), (q1, .inl (w.2.1 1, 160, .inl (fun _ => 0))), (q2, .inl (w.2.1 1, 4, .inl (fun _ => 0)))]) rfl ?_
  refine yi_putF (q := 0) (ci := 9) (k := 1) (N := 5) (C := RX9) (T := TX9) (v := .ref q2) (ty := (.array .int)) (ws' := [(h0, .inr (9, [.ref q1, .ref q2, .null, .int 0, .int 0])), (q1, .inl (w.2.1 1, 160, .inl (fun _ => 0))), (q2, .inl (w.2.1 1, 4, .inl (fun _ => 0)))]) E rfl rfl wu_X9 tyX9 tyX9_ok nmX9 (by decide) wm_248 rfl hin rfl (by decide +kernel) rfl rfl (by decide) rfl dX9_init_17 ?_
  refine yi_aload_n E dX9_init_20 0 rfl ?_
  refine yi_aload_n E dX9_init_21 1 rfl ?_
  refine yi_putF (q := 0) (ci := 9) (k := 2) (N := 5) (C := RX9) (T := TX9) (v := .ref h1) (ty := (.array .int)) (ws' := [(h0, .inr (9, [.ref q1, .ref q2, .ref h1, .int 0, .int 0])), (q1, .inl (w.2.1 1, 160, .inl (fun _ => 0))), (q2, .inl (w.2.1 1, 4, .inl (fun _ => 0)))]) E rfl rfl wu_X9 tyX9 tyX9_ok nmX9 (by decide) wm_252 rfl hin rfl (by decide +kernel) rfl rfl (by decide) rfl dX9_init_22 ?_
  exact yi_vret E dX9_init_25 (fun k => ([q1, q2] : List Nat).getD k 0) trivial rfl
theorem dX1_init_0 : decode cX1_init 0 = .ok (.aload_n 0, 1) := by decide +kernel
theorem dX1_init_1 : decode cX1_init 1 = .ok (.invokespecial 3, 3) := by decide +kernel
theorem dX1_init_4 : decode cX1_init 4 = .ok (.aload_n 0, 1) := by decide +kernel
theorem dX1_init_5 : decode cX1_init 5 = .ok (.aload_n 1, 1) := by decide +kernel
theorem dX1_init_6 : decode cX1_init 6 = .ok (.putfield 9, 3) := by decide +kernel
theorem dX1_init_9 : decode cX1_init 9 = .ok (.return_, 1) := by decide +kernel
set_option maxRecDepth 100000 in
set_option maxHeartbeats 4000000 in
theorem kIX1_1 (l : Launch) (w : wT) (h0 h1 : Nat) : yMetI (S := Nat → Nat) l w yX1_init cX1_init 2 1 0 0 [.ref h0, .ref h1] [(h0, .inr (1, [.null, .null, .null, .int 0, .int 0, .int 0, .int 0, .int 0]))] (fun u => [(h0, .inr (1, [.ref h1, .null, .null, .int 0, .int 0, .int 0, .int 0, .int 0]))]) (fun _ => True) := by
  refine yi_start (lv0 := [(0, .ref h0), (1, .ref h1)]) (by decide +kernel) (own := RX1) rfl (Nat.le_of_ble_eq_true rfl) rfl (fun p e s m below meth c A hin E => ?_)
  refine yi_aload_n E dX1_init_0 0 rfl ?_
  refine yi_objInit E wm_703 wm_689 wm_690 (by decide) (Nat.le_of_ble_eq_true rfl) dX1_init_1 ?_
  refine yi_aload_n E dX1_init_4 0 rfl ?_
  refine yi_aload_n E dX1_init_5 1 rfl ?_
  refine yi_putF (q := 0) (ci := 1) (k := 0) (N := 8) (C := RX1) (T := TX1) (v := .ref h1) (ty := (.object "WhereTheSpoonWent$House")) (ws' := [(h0, .inr (1, [.ref h1, .null, .null, .int 0, .int 0, .int 0, .int 0, .int 0]))]) E rfl rfl wu_X1 tyX1 tyX1_ok nmX1 (by decide) wm_100 rfl hin rfl (by decide +kernel) rfl rfl (by decide) rfl dX1_init_6 ?_
  exact yi_vret E dX1_init_9 (fun k => ([] : List Nat).getD k 0) trivial rfl
end
