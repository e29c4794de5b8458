-- ===== PART A: goes FIRST, ahead of the names: the tables' words, and 'selects' of the private methods out of them =====
/-- a private method of a class that the tables say can be made, by its rows of tables_1 -/
def lw_okq (q : MethodName × Nat) : Prop := (q.1.cls ≠ "java/lang/invoke/MethodHandle" ∧ q.1.cls ≠ "java/lang/invoke/VarHandle") ∧ Cond.instantiable q.1.cls q.2 ∈ tables_1 ∧ Cond.privateMethod q.1 ∈ tables_1 ∧ Cond.instanceMethod q.1 ∈ tables_1
theorem lw_p0 : lw_okq (⟨"MachineMover", "isKindWithGroup", "(II)Z"⟩, 11) := ⟨⟨by decide +kernel, by decide +kernel⟩, List.mem_of_getElem? (i := 10) (by decide +kernel), List.mem_of_getElem? (i := 291) (by decide +kernel), List.mem_of_getElem? (i := 292) (by decide +kernel)⟩
theorem lw_p1 : lw_okq (⟨"MachineMover$Stock", "leastFriend", "(II)I"⟩, 13) := ⟨⟨by decide +kernel, by decide +kernel⟩, List.mem_of_getElem? (i := 18) (by decide +kernel), List.mem_of_getElem? (i := 303) (by decide +kernel), List.mem_of_getElem? (i := 304) (by decide +kernel)⟩
theorem lw_p2 : lw_okq (⟨"MachineMover", "isBlockAtHand", "(I)Z"⟩, 11) := ⟨⟨by decide +kernel, by decide +kernel⟩, List.mem_of_getElem? (i := 10) (by decide +kernel), List.mem_of_getElem? (i := 335) (by decide +kernel), List.mem_of_getElem? (i := 336) (by decide +kernel)⟩
theorem lw_p3 : lw_okq (⟨"MachineMover", "makeMove", "(II)V"⟩, 11) := ⟨⟨by decide +kernel, by decide +kernel⟩, List.mem_of_getElem? (i := 10) (by decide +kernel), List.mem_of_getElem? (i := 343) (by decide +kernel), List.mem_of_getElem? (i := 344) (by decide +kernel)⟩
theorem lw_p4 : lw_okq (⟨"MachineMover$Search", "goalHolds", "()Z"⟩, 13) := ⟨⟨by decide +kernel, by decide +kernel⟩, List.mem_of_getElem? (i := 125) (by decide +kernel), List.mem_of_getElem? (i := 390) (by decide +kernel), List.mem_of_getElem? (i := 391) (by decide +kernel)⟩
theorem lw_p5 : lw_okq (⟨"MachineMover$Search", "giveFrom", "(II)V"⟩, 13) := ⟨⟨by decide +kernel, by decide +kernel⟩, List.mem_of_getElem? (i := 125) (by decide +kernel), List.mem_of_getElem? (i := 396) (by decide +kernel), List.mem_of_getElem? (i := 397) (by decide +kernel)⟩
theorem lw_p6 : lw_okq (⟨"MachineMover$Search", "nextWork", "(I)I"⟩, 13) := ⟨⟨by decide +kernel, by decide +kernel⟩, List.mem_of_getElem? (i := 125) (by decide +kernel), List.mem_of_getElem? (i := 400) (by decide +kernel), List.mem_of_getElem? (i := 401) (by decide +kernel)⟩
theorem lw_p7 : lw_okq (⟨"MachineMover$Search", "keep", "(I)V"⟩, 13) := ⟨⟨by decide +kernel, by decide +kernel⟩, List.mem_of_getElem? (i := 125) (by decide +kernel), List.mem_of_getElem? (i := 408) (by decide +kernel), List.mem_of_getElem? (i := 409) (by decide +kernel)⟩
theorem lw_p8 : lw_okq (⟨"MachineMover$Search", "countTry", "()Z"⟩, 13) := ⟨⟨by decide +kernel, by decide +kernel⟩, List.mem_of_getElem? (i := 125) (by decide +kernel), List.mem_of_getElem? (i := 417) (by decide +kernel), List.mem_of_getElem? (i := 418) (by decide +kernel)⟩
theorem lw_p9 : lw_okq (⟨"MachineMover", "isGoal", "(IIII)Z"⟩, 11) := ⟨⟨by decide +kernel, by decide +kernel⟩, List.mem_of_getElem? (i := 10) (by decide +kernel), List.mem_of_getElem? (i := 427) (by decide +kernel), List.mem_of_getElem? (i := 428) (by decide +kernel)⟩
theorem lw_p10 : lw_okq (⟨"MachineMover$Orders", "gather", "([II)V"⟩, 9) := ⟨⟨by decide +kernel, by decide +kernel⟩, List.mem_of_getElem? (i := 181) (by decide +kernel), List.mem_of_getElem? (i := 461) (by decide +kernel), List.mem_of_getElem? (i := 462) (by decide +kernel)⟩
theorem lw_p11 : lw_okq (⟨"MachineMover$Orders", "addJob", "(II)V"⟩, 9) := ⟨⟨by decide +kernel, by decide +kernel⟩, List.mem_of_getElem? (i := 181) (by decide +kernel), List.mem_of_getElem? (i := 471) (by decide +kernel), List.mem_of_getElem? (i := 472) (by decide +kernel)⟩
theorem lw_p12 : lw_okq (⟨"MachineMover$Orders", "seekAnew", "()Z"⟩, 9) := ⟨⟨by decide +kernel, by decide +kernel⟩, List.mem_of_getElem? (i := 181) (by decide +kernel), List.mem_of_getElem? (i := 475) (by decide +kernel), List.mem_of_getElem? (i := 476) (by decide +kernel)⟩
theorem lw_p13 : lw_okq (⟨"MachineMover$Orders", "seek", "(II)Z"⟩, 9) := ⟨⟨by decide +kernel, by decide +kernel⟩, List.mem_of_getElem? (i := 181) (by decide +kernel), List.mem_of_getElem? (i := 479) (by decide +kernel), List.mem_of_getElem? (i := 480) (by decide +kernel)⟩
theorem lw_p14 : lw_okq (⟨"MachineMover", "lacksOrder", "()Z"⟩, 11) := ⟨⟨by decide +kernel, by decide +kernel⟩, List.mem_of_getElem? (i := 10) (by decide +kernel), List.mem_of_getElem? (i := 493) (by decide +kernel), List.mem_of_getElem? (i := 494) (by decide +kernel)⟩
theorem lw_p15 : lw_okq (⟨"MachineMover$Orders", "hasThird", "([III)Z"⟩, 9) := ⟨⟨by decide +kernel, by decide +kernel⟩, List.mem_of_getElem? (i := 181) (by decide +kernel), List.mem_of_getElem? (i := 501) (by decide +kernel), List.mem_of_getElem? (i := 502) (by decide +kernel)⟩
def lw_privs_1 : List (MethodName × Nat) := [(⟨"MachineMover", "isKindWithGroup", "(II)Z"⟩, 11), (⟨"MachineMover$Stock", "leastFriend", "(II)I"⟩, 13), (⟨"MachineMover", "isBlockAtHand", "(I)Z"⟩, 11), (⟨"MachineMover", "makeMove", "(II)V"⟩, 11), (⟨"MachineMover$Search", "goalHolds", "()Z"⟩, 13), (⟨"MachineMover$Search", "giveFrom", "(II)V"⟩, 13), (⟨"MachineMover$Search", "nextWork", "(I)I"⟩, 13), (⟨"MachineMover$Search", "keep", "(I)V"⟩, 13), (⟨"MachineMover$Search", "countTry", "()Z"⟩, 13), (⟨"MachineMover", "isGoal", "(IIII)Z"⟩, 11), (⟨"MachineMover$Orders", "gather", "([II)V"⟩, 9), (⟨"MachineMover$Orders", "addJob", "(II)V"⟩, 9), (⟨"MachineMover$Orders", "seekAnew", "()Z"⟩, 9), (⟨"MachineMover$Orders", "seek", "(II)Z"⟩, 9), (⟨"MachineMover", "lacksOrder", "()Z"⟩, 11), (⟨"MachineMover$Orders", "hasThird", "([III)Z"⟩, 9)]
theorem lw_r1 : ∀ q ∈ lw_privs_1, lw_okq q := List.forall_mem_cons.mpr ⟨lw_p0, List.forall_mem_cons.mpr ⟨lw_p1, List.forall_mem_cons.mpr ⟨lw_p2, List.forall_mem_cons.mpr ⟨lw_p3, List.forall_mem_cons.mpr ⟨lw_p4, List.forall_mem_cons.mpr ⟨lw_p5, List.forall_mem_cons.mpr ⟨lw_p6, List.forall_mem_cons.mpr ⟨lw_p7, List.forall_mem_cons.mpr ⟨lw_p8, List.forall_mem_cons.mpr ⟨lw_p9, List.forall_mem_cons.mpr ⟨lw_p10, List.forall_mem_cons.mpr ⟨lw_p11, List.forall_mem_cons.mpr ⟨lw_p12, List.forall_mem_cons.mpr ⟨lw_p13, List.forall_mem_cons.mpr ⟨lw_p14, List.forall_mem_cons.mpr ⟨lw_p15, fun _ h => absurd h List.not_mem_nil⟩⟩⟩⟩⟩⟩⟩⟩⟩⟩⟩⟩⟩⟩⟩⟩
theorem lw_p16 : lw_okq (⟨"MachineMover$Orders", "hasStop", "([II)Z"⟩, 9) := ⟨⟨by decide +kernel, by decide +kernel⟩, List.mem_of_getElem? (i := 181) (by decide +kernel), List.mem_of_getElem? (i := 514) (by decide +kernel), List.mem_of_getElem? (i := 515) (by decide +kernel)⟩
theorem lw_p17 : lw_okq (⟨"MachineMover$Waits", "weigh", "(III)Z"⟩, 5) := ⟨⟨by decide +kernel, by decide +kernel⟩, List.mem_of_getElem? (i := 220) (by decide +kernel), List.mem_of_getElem? (i := 541) (by decide +kernel), List.mem_of_getElem? (i := 542) (by decide +kernel)⟩
theorem lw_p18 : lw_okq (⟨"MachineMoverModel", "isMachine", "(I)Z"⟩, 28) := ⟨⟨by decide +kernel, by decide +kernel⟩, List.mem_of_getElem? (i := 565) (by decide +kernel), List.mem_of_getElem? (i := 667) (by decide +kernel), List.mem_of_getElem? (i := 668) (by decide +kernel)⟩
theorem lw_p19 : lw_okq (⟨"MachineMoverModel", "fitsNinth", "(IIIII)Z"⟩, 28) := ⟨⟨by decide +kernel, by decide +kernel⟩, List.mem_of_getElem? (i := 565) (by decide +kernel), List.mem_of_getElem? (i := 671) (by decide +kernel), List.mem_of_getElem? (i := 672) (by decide +kernel)⟩
theorem lw_p20 : lw_okq (⟨"MachineMoverModel", "freeA", "(I)I"⟩, 28) := ⟨⟨by decide +kernel, by decide +kernel⟩, List.mem_of_getElem? (i := 565) (by decide +kernel), List.mem_of_getElem? (i := 675) (by decide +kernel), List.mem_of_getElem? (i := 676) (by decide +kernel)⟩
theorem lw_p21 : lw_okq (⟨"MachineMoverModel", "freeB", "(I)I"⟩, 28) := ⟨⟨by decide +kernel, by decide +kernel⟩, List.mem_of_getElem? (i := 565) (by decide +kernel), List.mem_of_getElem? (i := 679) (by decide +kernel), List.mem_of_getElem? (i := 680) (by decide +kernel)⟩
theorem lw_p22 : lw_okq (⟨"MachineMoverModel", "isRight", "()Z"⟩, 28) := ⟨⟨by decide +kernel, by decide +kernel⟩, List.mem_of_getElem? (i := 565) (by decide +kernel), List.mem_of_getElem? (i := 683) (by decide +kernel), List.mem_of_getElem? (i := 684) (by decide +kernel)⟩
theorem lw_p23 : lw_okq (⟨"MachineMoverModel", "isLike", "(III)Z"⟩, 28) := ⟨⟨by decide +kernel, by decide +kernel⟩, List.mem_of_getElem? (i := 565) (by decide +kernel), List.mem_of_getElem? (i := 687) (by decide +kernel), List.mem_of_getElem? (i := 688) (by decide +kernel)⟩
theorem lw_p24 : lw_okq (⟨"MachineMoverModel", "blockOf", "(I)I"⟩, 28) := ⟨⟨by decide +kernel, by decide +kernel⟩, List.mem_of_getElem? (i := 565) (by decide +kernel), List.mem_of_getElem? (i := 699) (by decide +kernel), List.mem_of_getElem? (i := 700) (by decide +kernel)⟩
theorem lw_p25 : lw_okq (⟨"MachineMoverModel", "many", "(I)I"⟩, 28) := ⟨⟨by decide +kernel, by decide +kernel⟩, List.mem_of_getElem? (i := 565) (by decide +kernel), List.mem_of_getElem? (i := 707) (by decide +kernel), List.mem_of_getElem? (i := 708) (by decide +kernel)⟩
theorem lw_p26 : lw_okq (⟨"MachineMoverModel", "search", "()Z"⟩, 28) := ⟨⟨by decide +kernel, by decide +kernel⟩, List.mem_of_getElem? (i := 565) (by decide +kernel), List.mem_of_getElem? (i := 715) (by decide +kernel), List.mem_of_getElem? (i := 716) (by decide +kernel)⟩
theorem lw_p27 : lw_okq (⟨"MachineMoverModel", "searchRoom", "()Z"⟩, 28) := ⟨⟨by decide +kernel, by decide +kernel⟩, List.mem_of_getElem? (i := 565) (by decide +kernel), List.mem_of_getElem? (i := 719) (by decide +kernel), List.mem_of_getElem? (i := 720) (by decide +kernel)⟩
theorem lw_p28 : lw_okq (⟨"MachineMoverModel", "go", "()Z"⟩, 28) := ⟨⟨by decide +kernel, by decide +kernel⟩, List.mem_of_getElem? (i := 565) (by decide +kernel), List.mem_of_getElem? (i := 723) (by decide +kernel), List.mem_of_getElem? (i := 724) (by decide +kernel)⟩
theorem lw_p29 : lw_okq (⟨"MachineMoverModel", "next", "(II)I"⟩, 28) := ⟨⟨by decide +kernel, by decide +kernel⟩, List.mem_of_getElem? (i := 565) (by decide +kernel), List.mem_of_getElem? (i := 727) (by decide +kernel), List.mem_of_getElem? (i := 728) (by decide +kernel)⟩
theorem lw_p30 : lw_okq (⟨"MachineMoverModel", "isTry", "(II)Z"⟩, 28) := ⟨⟨by decide +kernel, by decide +kernel⟩, List.mem_of_getElem? (i := 565) (by decide +kernel), List.mem_of_getElem? (i := 731) (by decide +kernel), List.mem_of_getElem? (i := 732) (by decide +kernel)⟩
theorem lw_p31 : lw_okq (⟨"MachineMoverModel", "onto", "(III)I"⟩, 28) := ⟨⟨by decide +kernel, by decide +kernel⟩, List.mem_of_getElem? (i := 565) (by decide +kernel), List.mem_of_getElem? (i := 735) (by decide +kernel), List.mem_of_getElem? (i := 736) (by decide +kernel)⟩
def lw_privs_2 : List (MethodName × Nat) := [(⟨"MachineMover$Orders", "hasStop", "([II)Z"⟩, 9), (⟨"MachineMover$Waits", "weigh", "(III)Z"⟩, 5), (⟨"MachineMoverModel", "isMachine", "(I)Z"⟩, 28), (⟨"MachineMoverModel", "fitsNinth", "(IIIII)Z"⟩, 28), (⟨"MachineMoverModel", "freeA", "(I)I"⟩, 28), (⟨"MachineMoverModel", "freeB", "(I)I"⟩, 28), (⟨"MachineMoverModel", "isRight", "()Z"⟩, 28), (⟨"MachineMoverModel", "isLike", "(III)Z"⟩, 28), (⟨"MachineMoverModel", "blockOf", "(I)I"⟩, 28), (⟨"MachineMoverModel", "many", "(I)I"⟩, 28), (⟨"MachineMoverModel", "search", "()Z"⟩, 28), (⟨"MachineMoverModel", "searchRoom", "()Z"⟩, 28), (⟨"MachineMoverModel", "go", "()Z"⟩, 28), (⟨"MachineMoverModel", "next", "(II)I"⟩, 28), (⟨"MachineMoverModel", "isTry", "(II)Z"⟩, 28), (⟨"MachineMoverModel", "onto", "(III)I"⟩, 28)]
theorem lw_r2 : ∀ q ∈ lw_privs_2, lw_okq q := List.forall_mem_cons.mpr ⟨lw_p16, List.forall_mem_cons.mpr ⟨lw_p17, List.forall_mem_cons.mpr ⟨lw_p18, List.forall_mem_cons.mpr ⟨lw_p19, List.forall_mem_cons.mpr ⟨lw_p20, List.forall_mem_cons.mpr ⟨lw_p21, List.forall_mem_cons.mpr ⟨lw_p22, List.forall_mem_cons.mpr ⟨lw_p23, List.forall_mem_cons.mpr ⟨lw_p24, List.forall_mem_cons.mpr ⟨lw_p25, List.forall_mem_cons.mpr ⟨lw_p26, List.forall_mem_cons.mpr ⟨lw_p27, List.forall_mem_cons.mpr ⟨lw_p28, List.forall_mem_cons.mpr ⟨lw_p29, List.forall_mem_cons.mpr ⟨lw_p30, List.forall_mem_cons.mpr ⟨lw_p31, fun _ h => absurd h List.not_mem_nil⟩⟩⟩⟩⟩⟩⟩⟩⟩⟩⟩⟩⟩⟩⟩⟩
theorem lw_p32 : lw_okq (⟨"MachineMoverModel", "used", "(II)I"⟩, 28) := ⟨⟨by decide +kernel, by decide +kernel⟩, List.mem_of_getElem? (i := 565) (by decide +kernel), List.mem_of_getElem? (i := 739) (by decide +kernel), List.mem_of_getElem? (i := 740) (by decide +kernel)⟩
theorem lw_p33 : lw_okq (⟨"MachineMoverModel", "take", "()V"⟩, 28) := ⟨⟨by decide +kernel, by decide +kernel⟩, List.mem_of_getElem? (i := 565) (by decide +kernel), List.mem_of_getElem? (i := 744) (by decide +kernel), List.mem_of_getElem? (i := 745) (by decide +kernel)⟩
theorem lw_p34 : lw_okq (⟨"MachineMoverModel", "weigh", "()I"⟩, 28) := ⟨⟨by decide +kernel, by decide +kernel⟩, List.mem_of_getElem? (i := 565) (by decide +kernel), List.mem_of_getElem? (i := 748) (by decide +kernel), List.mem_of_getElem? (i := 749) (by decide +kernel)⟩
theorem lw_p35 : lw_okq (⟨"MachineMoverModel", "isBlock", "(I)Z"⟩, 28) := ⟨⟨by decide +kernel, by decide +kernel⟩, List.mem_of_getElem? (i := 565) (by decide +kernel), List.mem_of_getElem? (i := 752) (by decide +kernel), List.mem_of_getElem? (i := 753) (by decide +kernel)⟩
theorem lw_p36 : lw_okq (⟨"MachineMoverModel", "costOf", "(I)I"⟩, 28) := ⟨⟨by decide +kernel, by decide +kernel⟩, List.mem_of_getElem? (i := 565) (by decide +kernel), List.mem_of_getElem? (i := 772) (by decide +kernel), List.mem_of_getElem? (i := 773) (by decide +kernel)⟩
theorem lw_p37 : lw_okq (⟨"MachineMoverModel", "isOf", "(II)Z"⟩, 28) := ⟨⟨by decide +kernel, by decide +kernel⟩, List.mem_of_getElem? (i := 565) (by decide +kernel), List.mem_of_getElem? (i := 776) (by decide +kernel), List.mem_of_getElem? (i := 777) (by decide +kernel)⟩
theorem lw_p38 : lw_okq (⟨"MachineMoverModel", "listMoves", "()V"⟩, 28) := ⟨⟨by decide +kernel, by decide +kernel⟩, List.mem_of_getElem? (i := 565) (by decide +kernel), List.mem_of_getElem? (i := 784) (by decide +kernel), List.mem_of_getElem? (i := 785) (by decide +kernel)⟩
theorem lw_p39 : lw_okq (⟨"MachineMoverModel", "canAll", "(I)Z"⟩, 28) := ⟨⟨by decide +kernel, by decide +kernel⟩, List.mem_of_getElem? (i := 565) (by decide +kernel), List.mem_of_getElem? (i := 788) (by decide +kernel), List.mem_of_getElem? (i := 789) (by decide +kernel)⟩
theorem lw_p40 : lw_okq (⟨"MachineMoverModel", "place", "(III)V"⟩, 28) := ⟨⟨by decide +kernel, by decide +kernel⟩, List.mem_of_getElem? (i := 565) (by decide +kernel), List.mem_of_getElem? (i := 792) (by decide +kernel), List.mem_of_getElem? (i := 793) (by decide +kernel)⟩
theorem lw_p41 : lw_okq (⟨"MachineMoverModel", "comes", "(II)Z"⟩, 28) := ⟨⟨by decide +kernel, by decide +kernel⟩, List.mem_of_getElem? (i := 565) (by decide +kernel), List.mem_of_getElem? (i := 796) (by decide +kernel), List.mem_of_getElem? (i := 797) (by decide +kernel)⟩
theorem lw_p42 : lw_okq (⟨"MachineMoverModel", "firstOf", "(I)I"⟩, 28) := ⟨⟨by decide +kernel, by decide +kernel⟩, List.mem_of_getElem? (i := 565) (by decide +kernel), List.mem_of_getElem? (i := 804) (by decide +kernel), List.mem_of_getElem? (i := 805) (by decide +kernel)⟩
theorem lw_p43 : lw_okq (⟨"MachineMoverModel", "canByThird", "(II)Z"⟩, 28) := ⟨⟨by decide +kernel, by decide +kernel⟩, List.mem_of_getElem? (i := 565) (by decide +kernel), List.mem_of_getElem? (i := 813) (by decide +kernel), List.mem_of_getElem? (i := 814) (by decide +kernel)⟩
theorem lw_p44 : lw_okq (⟨"MachineMoverModel", "carry", "(II)V"⟩, 28) := ⟨⟨by decide +kernel, by decide +kernel⟩, List.mem_of_getElem? (i := 565) (by decide +kernel), List.mem_of_getElem? (i := 825) (by decide +kernel), List.mem_of_getElem? (i := 826) (by decide +kernel)⟩
theorem lw_p45 : lw_okq (⟨"MachineMoverModel", "costAt", "(II)J"⟩, 28) := ⟨⟨by decide +kernel, by decide +kernel⟩, List.mem_of_getElem? (i := 565) (by decide +kernel), List.mem_of_getElem? (i := 841) (by decide +kernel), List.mem_of_getElem? (i := 842) (by decide +kernel)⟩
def lw_privs_3 : List (MethodName × Nat) := [(⟨"MachineMoverModel", "used", "(II)I"⟩, 28), (⟨"MachineMoverModel", "take", "()V"⟩, 28), (⟨"MachineMoverModel", "weigh", "()I"⟩, 28), (⟨"MachineMoverModel", "isBlock", "(I)Z"⟩, 28), (⟨"MachineMoverModel", "costOf", "(I)I"⟩, 28), (⟨"MachineMoverModel", "isOf", "(II)Z"⟩, 28), (⟨"MachineMoverModel", "listMoves", "()V"⟩, 28), (⟨"MachineMoverModel", "canAll", "(I)Z"⟩, 28), (⟨"MachineMoverModel", "place", "(III)V"⟩, 28), (⟨"MachineMoverModel", "comes", "(II)Z"⟩, 28), (⟨"MachineMoverModel", "firstOf", "(I)I"⟩, 28), (⟨"MachineMoverModel", "canByThird", "(II)Z"⟩, 28), (⟨"MachineMoverModel", "carry", "(II)V"⟩, 28), (⟨"MachineMoverModel", "costAt", "(II)J"⟩, 28)]
theorem lw_r3 : ∀ q ∈ lw_privs_3, lw_okq q := List.forall_mem_cons.mpr ⟨lw_p32, List.forall_mem_cons.mpr ⟨lw_p33, List.forall_mem_cons.mpr ⟨lw_p34, List.forall_mem_cons.mpr ⟨lw_p35, List.forall_mem_cons.mpr ⟨lw_p36, List.forall_mem_cons.mpr ⟨lw_p37, List.forall_mem_cons.mpr ⟨lw_p38, List.forall_mem_cons.mpr ⟨lw_p39, List.forall_mem_cons.mpr ⟨lw_p40, List.forall_mem_cons.mpr ⟨lw_p41, List.forall_mem_cons.mpr ⟨lw_p42, List.forall_mem_cons.mpr ⟨lw_p43, List.forall_mem_cons.mpr ⟨lw_p44, List.forall_mem_cons.mpr ⟨lw_p45, fun _ h => absurd h List.not_mem_nil⟩⟩⟩⟩⟩⟩⟩⟩⟩⟩⟩⟩⟩⟩
def lw_privs : List (MethodName × Nat) := lw_privs_1 ++ (lw_privs_2 ++ (lw_privs_3))
def lw_tbl : List Cond := k2_sels lw_privs ++ tables_1
theorem lw_privs_ok : ∀ q ∈ lw_privs, lw_okq q := by
  show ∀ q ∈ lw_privs_1 ++ (lw_privs_2 ++ (lw_privs_3)), lw_okq q
  exact List.forall_mem_append.mpr ⟨lw_r1, List.forall_mem_append.mpr ⟨lw_r2, lw_r3⟩⟩

/-! ===== BEGIN words of one list among another's, by their places ===== -/
theorem goodIn_r {big : List Cond} (ws : List Cond) (ps : List Nat) (hp : ws = ps.filterMap (fun i => big[i]?)) (h : ws.all goodWord = true) : GoodIn big ws := by
  intro w hw
  have h1 := List.all_eq_true.mp h w hw
  rw [hp] at hw
  obtain ⟨i, -, hi⟩ := List.mem_filterMap.mp hw
  have hm : w ∈ big := by first | exact List.mem_of_getElem? hi | exact List.getElem?_mem hi
  exact ⟨hm, good_of_word h1⟩
theorem goodIn_app {big a b : List Cond} (ha : GoodIn big a) (hb : GoodIn big b) : GoodIn big (a ++ b) := fun w h => (List.mem_append.mp h).elim (ha w) (hb w)
theorem goodIn_ca {big a b : List Cond} {c : Cond} (ha : GoodIn big (c :: a)) (hb : GoodIn big b) : GoodIn big (c :: (a ++ b)) := fun w h => (List.mem_cons.mp h).elim (fun e => ha w (List.mem_cons.mpr (Or.inl e))) (fun h => (List.mem_append.mp h).elim (fun h => ha w (List.mem_cons.mpr (Or.inr h))) (hb w))
theorem goodIn_sub {big ws : List Cond} (hm : ∀ w ∈ ws, w ∈ big) (h : ws.all goodWord = true) : GoodIn big ws := fun w hw => ⟨hm w hw, good_of_word (List.all_eq_true.mp h w hw)⟩
/-! ===== END ===== -/

/-! ===== BEGIN printed: names, fields, word lists, decode rows ===== -/
def RX0 : String := "MachineMover$Orders"
def TX0 : u_T := fun k => match k with
  | 0 => ("MachineMover$Orders", "stock", "LMachineMover$Stock;", true)
  | 1 => ("MachineMover$Orders", "hand", "LMachineMover$Row;", true)
  | 2 => ("MachineMover$Orders", "row", "LMachineMover$Row;", true)
  | 3 => ("MachineMover$Orders", "jobs", "I", false)
  | 4 => ("MachineMover$Orders", "order", "[I", true)
  | 5 => ("MachineMover$Orders", "block", "[I", true)
  | 6 => ("MachineMover$Orders", "to", "[I", true)
  | 7 => ("MachineMover$Orders", "before", "[I", true)
  | _ => ("MachineMover$Orders", "hopeless", "[Z", true)
def tyX0 : Nat → FieldType := fun k => match k with
  | 0 => .object "MachineMover$Stock"
  | 1 => .object "MachineMover$Row"
  | 2 => .object "MachineMover$Row"
  | 3 => .int
  | 4 => .array .int
  | 5 => .array .int
  | 6 => .array .int
  | 7 => .array .int
  | _ => .array .boolean
abbrev wsX00 : List Cond := u_ws RX0 TX0 9
theorem nmX0 : ∀ a, a < 9 → ∀ b, b < 9 → a ≠ b → (TX0 a).2.1 ≠ (TX0 b).2.1 := by decide +kernel
theorem tyX0_ok : ∀ k, k < 9 → parseFieldDescriptor (TX0 k).2.2.1 = some (tyX0 k) := by decide +kernel
abbrev cX0_init : ByteArray := prog_2_method_1_code
def yX0_init : MethodName := ⟨RX0, "<init>", "(LMachineMover$Stock;LMachineMover$Row;)V"⟩
abbrev cX0_findOrder : ByteArray := prog_2_method_2_code
def yX0_findOrder : MethodName := ⟨RX0, "findOrder", "([I)Z"⟩
abbrev cX0_firstThird : ByteArray := prog_2_method_3_code
def yX0_firstThird : MethodName := ⟨RX0, "firstThird", "([I)I"⟩
abbrev cX0_leastStop : ByteArray := prog_2_method_4_code
def yX0_leastStop : MethodName := ⟨RX0, "leastStop", "([I)I"⟩
abbrev cX0_hasThird : ByteArray := prog_2_method_5_code
def yX0_hasThird : MethodName := ⟨RX0, "hasThird", "([III)Z"⟩
abbrev cX0_hasStop : ByteArray := prog_2_method_6_code
def yX0_hasStop : MethodName := ⟨RX0, "hasStop", "([II)Z"⟩
abbrev cX0_gather : ByteArray := prog_2_method_7_code
def yX0_gather : MethodName := ⟨RX0, "gather", "([II)V"⟩
abbrev cX0_addJob : ByteArray := prog_2_method_8_code
def yX0_addJob : MethodName := ⟨RX0, "addJob", "(II)V"⟩
abbrev cX0_seekAnew : ByteArray := prog_2_method_9_code
def yX0_seekAnew : MethodName := ⟨RX0, "seekAnew", "()Z"⟩
abbrev cX0_seek : ByteArray := prog_2_method_10_code
def yX0_seek : MethodName := ⟨RX0, "seek", "(II)Z"⟩
def RX1 : String := "MachineMover$Row"
def TX1 : u_T := fun k => match k with
  | 0 => ("MachineMover$Row", "stock", "LMachineMover$Stock;", true)
  | 1 => ("MachineMover$Row", "at", "[I", true)
  | 2 => ("MachineMover$Row", "usedA", "[I", true)
  | 3 => ("MachineMover$Row", "usedB", "[I", true)
  | 4 => ("MachineMover$Row", "standing", "[I", true)
  | 5 => ("MachineMover$Row", "twins", "[I", true)
  | _ => ("MachineMover$Row", "occupied", "I", false)
def tyX1 : Nat → FieldType := fun k => match k with
  | 0 => .object "MachineMover$Stock"
  | 1 => .array .int
  | 2 => .array .int
  | 3 => .array .int
  | 4 => .array .int
  | 5 => .array .int
  | _ => .int
abbrev wsX10 : List Cond := u_ws RX1 TX1 7
theorem nmX1 : ∀ a, a < 7 → ∀ b, b < 7 → a ≠ b → (TX1 a).2.1 ≠ (TX1 b).2.1 := by decide +kernel
theorem tyX1_ok : ∀ k, k < 7 → parseFieldDescriptor (TX1 k).2.2.1 = some (tyX1 k) := by decide +kernel
abbrev cX1_init : ByteArray := prog_3_method_1_code
def yX1_init : MethodName := ⟨RX1, "<init>", "(LMachineMover$Stock;)V"⟩
abbrev cX1_clear : ByteArray := prog_3_method_2_code
def yX1_clear : MethodName := ⟨RX1, "clear", "()V"⟩
abbrev cX1_copy : ByteArray := prog_3_method_3_code
def yX1_copy : MethodName := ⟨RX1, "copy", "(LMachineMover$Row;)V"⟩
abbrev cX1_freeA : ByteArray := prog_3_method_4_code
def yX1_freeA : MethodName := ⟨RX1, "freeA", "(I)I"⟩
abbrev cX1_freeB : ByteArray := prog_3_method_5_code
def yX1_freeB : MethodName := ⟨RX1, "freeB", "(I)I"⟩
abbrev cX1_takes : ByteArray := prog_3_method_6_code
def yX1_takes : MethodName := ⟨RX1, "takes", "(II)Z"⟩
abbrev cX1_takesBlock : ByteArray := prog_3_method_7_code
def yX1_takesBlock : MethodName := ⟨RX1, "takesBlock", "(II)Z"⟩
abbrev cX1_put : ByteArray := prog_3_method_8_code
def yX1_put : MethodName := ⟨RX1, "put", "(II)V"⟩
abbrev cX1_remove : ByteArray := prog_3_method_9_code
def yX1_remove : MethodName := ⟨RX1, "remove", "(I)V"⟩
abbrev cX1_removeBlock : ByteArray := prog_3_method_10_code
def yX1_removeBlock : MethodName := ⟨RX1, "removeBlock", "(I)V"⟩
abbrev cX1_shift : ByteArray := prog_3_method_11_code
def yX1_shift : MethodName := ⟨RX1, "shift", "(II)V"⟩
abbrev cX1_isMovedIn : ByteArray := prog_3_method_12_code
def yX1_isMovedIn : MethodName := ⟨RX1, "isMovedIn", "(I[I)Z"⟩
abbrev cX1_costTo : ByteArray := prog_3_method_13_code
def yX1_costTo : MethodName := ⟨RX1, "costTo", "([I)I"⟩
abbrev cX1_working : ByteArray := prog_3_method_14_code
def yX1_working : MethodName := ⟨RX1, "working", "()I"⟩
def RX2 : String := "MachineMover$Search"
def TX2 : u_T := fun k => match k with
  | 0 => ("MachineMover$Search", "stock", "LMachineMover$Stock;", true)
  | 1 => ("MachineMover$Search", "hand", "LMachineMover$Row;", true)
  | 2 => ("MachineMover$Search", "row", "LMachineMover$Row;", true)
  | 3 => ("MachineMover$Search", "best", "[I", true)
  | 4 => ("MachineMover$Search", "tries", "I", false)
  | 5 => ("MachineMover$Search", "spent", "Z", false)
  | 6 => ("MachineMover$Search", "fewestMoves", "I", false)
  | 7 => ("MachineMover$Search", "fewestMachines", "I", false)
  | 8 => ("MachineMover$Search", "goal", "I", false)
  | 9 => ("MachineMover$Search", "target", "I", false)
  | 10 => ("MachineMover$Search", "goalA", "I", false)
  | 11 => ("MachineMover$Search", "goalB", "I", false)
  | _ => ("MachineMover$Search", "till", "I", false)
def tyX2 : Nat → FieldType := fun k => match k with
  | 0 => .object "MachineMover$Stock"
  | 1 => .object "MachineMover$Row"
  | 2 => .object "MachineMover$Row"
  | 3 => .array .int
  | 4 => .int
  | 5 => .boolean
  | 6 => .int
  | 7 => .int
  | 8 => .int
  | 9 => .int
  | 10 => .int
  | 11 => .int
  | _ => .int
abbrev wsX20 : List Cond := u_ws RX2 TX2 13
theorem nmX2 : ∀ a, a < 13 → ∀ b, b < 13 → a ≠ b → (TX2 a).2.1 ≠ (TX2 b).2.1 := by decide +kernel
theorem tyX2_ok : ∀ k, k < 13 → parseFieldDescriptor (TX2 k).2.2.1 = some (tyX2 k) := by decide +kernel
abbrev cX2_init : ByteArray := prog_4_method_1_code
def yX2_init : MethodName := ⟨RX2, "<init>", "(LMachineMover$Stock;LMachineMover$Row;)V"⟩
abbrev cX2_aim : ByteArray := prog_4_method_2_code
def yX2_aim : MethodName := ⟨RX2, "aim", "(IIII)V"⟩
abbrev cX2_run : ByteArray := prog_4_method_3_code
def yX2_run : MethodName := ⟨RX2, "run", "(I)V"⟩
abbrev cX2_giveFrom : ByteArray := prog_4_method_4_code
def yX2_giveFrom : MethodName := ⟨RX2, "giveFrom", "(II)V"⟩
abbrev cX2_nextWork : ByteArray := prog_4_method_5_code
def yX2_nextWork : MethodName := ⟨RX2, "nextWork", "(I)I"⟩
abbrev cX2_countTry : ByteArray := prog_4_method_6_code
def yX2_countTry : MethodName := ⟨RX2, "countTry", "()Z"⟩
abbrev cX2_goalHolds : ByteArray := prog_4_method_7_code
def yX2_goalHolds : MethodName := ⟨RX2, "goalHolds", "()Z"⟩
abbrev cX2_keep : ByteArray := prog_4_method_8_code
def yX2_keep : MethodName := ⟨RX2, "keep", "(I)V"⟩
def RX3 : String := "MachineMover$Stock"
def TX3 : u_T := fun k => match k with
  | 0 => ("MachineMover$Stock", "machines", "I", false)
  | 1 => ("MachineMover$Stock", "works", "I", false)
  | 2 => ("MachineMover$Stock", "roomA", "[I", true)
  | 3 => ("MachineMover$Stock", "roomB", "[I", true)
  | 4 => ("MachineMover$Stock", "needA", "[I", true)
  | 5 => ("MachineMover$Stock", "needB", "[I", true)
  | 6 => ("MachineMover$Stock", "kind", "[I", true)
  | 7 => ("MachineMover$Stock", "group", "[I", true)
  | 8 => ("MachineMover$Stock", "twinBit", "[I", true)
  | 9 => ("MachineMover$Stock", "end", "[I", true)
  | 10 => ("MachineMover$Stock", "block", "[I", true)
  | 11 => ("MachineMover$Stock", "blockA", "[I", true)
  | _ => ("MachineMover$Stock", "blockB", "[I", true)
def tyX3 : Nat → FieldType := fun k => match k with
  | 0 => .int
  | 1 => .int
  | 2 => .array .int
  | 3 => .array .int
  | 4 => .array .int
  | 5 => .array .int
  | 6 => .array .int
  | 7 => .array .int
  | 8 => .array .int
  | 9 => .array .int
  | 10 => .array .int
  | 11 => .array .int
  | _ => .array .int
abbrev wsX30 : List Cond := u_ws RX3 TX3 13
theorem nmX3 : ∀ a, a < 13 → ∀ b, b < 13 → a ≠ b → (TX3 a).2.1 ≠ (TX3 b).2.1 := by decide +kernel
theorem tyX3_ok : ∀ k, k < 13 → parseFieldDescriptor (TX3 k).2.2.1 = some (tyX3 k) := by decide +kernel
abbrev cX3_init : ByteArray := prog_5_method_1_code
def yX3_init : MethodName := ⟨RX3, "<init>", "()V"⟩
abbrev cX3_hasMachine : ByteArray := prog_5_method_2_code
def yX3_hasMachine : MethodName := ⟨RX3, "hasMachine", "(I)Z"⟩
abbrev cX3_hasWork : ByteArray := prog_5_method_3_code
def yX3_hasWork : MethodName := ⟨RX3, "hasWork", "(I)Z"⟩
abbrev cX3_addMachine : ByteArray := prog_5_method_4_code
def yX3_addMachine : MethodName := ⟨RX3, "addMachine", "(II)I"⟩
abbrev cX3_describeNewcomer : ByteArray := prog_5_method_5_code
def yX3_describeNewcomer : MethodName := ⟨RX3, "describeNewcomer", "(IIII)I"⟩
abbrev cX3_addNewcomer : ByteArray := prog_5_method_6_code
def yX3_addNewcomer : MethodName := ⟨RX3, "addNewcomer", "()V"⟩
abbrev cX3_moveCost : ByteArray := prog_5_method_7_code
def yX3_moveCost : MethodName := ⟨RX3, "moveCost", "(I)I"⟩
abbrev cX3_endsBy : ByteArray := prog_5_method_8_code
def yX3_endsBy : MethodName := ⟨RX3, "endsBy", "(II)Z"⟩
abbrev cX3_leastFriend : ByteArray := prog_5_method_9_code
def yX3_leastFriend : MethodName := ⟨RX3, "leastFriend", "(II)I"⟩
def RX4 : String := "MachineMover$Waits"
def TX4 : u_T := fun k => match k with
  | 0 => ("MachineMover$Waits", "stock", "LMachineMover$Stock;", true)
  | 1 => ("MachineMover$Waits", "hand", "LMachineMover$Row;", true)
  | 2 => ("MachineMover$Waits", "search", "LMachineMover$Search;", true)
  | 3 => ("MachineMover$Waits", "leastTicks", "I", false)
  | _ => ("MachineMover$Waits", "leastCost", "J", false)
def tyX4 : Nat → FieldType := fun k => match k with
  | 0 => .object "MachineMover$Stock"
  | 1 => .object "MachineMover$Row"
  | 2 => .object "MachineMover$Search"
  | 3 => .int
  | _ => .long
abbrev wsX40 : List Cond := u_ws RX4 TX4 5
theorem nmX4 : ∀ a, a < 5 → ∀ b, b < 5 → a ≠ b → (TX4 a).2.1 ≠ (TX4 b).2.1 := by decide +kernel
theorem tyX4_ok : ∀ k, k < 5 → parseFieldDescriptor (TX4 k).2.2.1 = some (tyX4 k) := by decide +kernel
abbrev cX4_init : ByteArray := prog_6_method_1_code
def yX4_init : MethodName := ⟨RX4, "<init>", "(LMachineMover$Stock;LMachineMover$Row;LMachineMover$Search;)V"⟩
abbrev cX4_least : ByteArray := prog_6_method_2_code
def yX4_least : MethodName := ⟨RX4, "least", "(III)I"⟩
abbrev cX4_weigh : ByteArray := prog_6_method_3_code
def yX4_weigh : MethodName := ⟨RX4, "weigh", "(III)Z"⟩
def RX5 : String := "MachineMover"
def TX5 : u_T := fun k => match k with
  | 0 => ("MachineMover", "stock", "LMachineMover$Stock;", true)
  | 1 => ("MachineMover", "hand", "LMachineMover$Row;", true)
  | 2 => ("MachineMover", "search", "LMachineMover$Search;", true)
  | 3 => ("MachineMover", "orders", "LMachineMover$Orders;", true)
  | 4 => ("MachineMover", "waits", "LMachineMover$Waits;", true)
  | 5 => ("MachineMover", "plan", "[I", true)
  | 6 => ("MachineMover", "planned", "Z", false)
  | 7 => ("MachineMover", "price", "I", false)
  | 8 => ("MachineMover", "now", "I", false)
  | 9 => ("MachineMover", "latestTries", "I", false)
  | _ => ("MachineMover", "paid", "I", false)
def tyX5 : Nat → FieldType := fun k => match k with
  | 0 => .object "MachineMover$Stock"
  | 1 => .object "MachineMover$Row"
  | 2 => .object "MachineMover$Search"
  | 3 => .object "MachineMover$Orders"
  | 4 => .object "MachineMover$Waits"
  | 5 => .array .int
  | 6 => .boolean
  | 7 => .int
  | 8 => .int
  | 9 => .int
  | _ => .int
abbrev wsX50 : List Cond := u_ws RX5 TX5 11
theorem nmX5 : ∀ a, a < 11 → ∀ b, b < 11 → a ≠ b → (TX5 a).2.1 ≠ (TX5 b).2.1 := by decide +kernel
theorem tyX5_ok : ∀ k, k < 11 → parseFieldDescriptor (TX5 k).2.2.1 = some (tyX5 k) := by decide +kernel
abbrev cX5_init : ByteArray := prog_1_method_1_code
def yX5_init : MethodName := ⟨RX5, "<init>", "()V"⟩
abbrev cX5_machine : ByteArray := prog_1_method_2_code
def yX5_machine : MethodName := ⟨RX5, "machine", "(II)I"⟩
abbrev cX5_work : ByteArray := prog_1_method_3_code
def yX5_work : MethodName := ⟨RX5, "work", "(IIIII)I"⟩
abbrev cX5_move : ByteArray := prog_1_method_4_code
def yX5_move : MethodName := ⟨RX5, "move", "(II)I"⟩
abbrev cX5_price : ByteArray := prog_1_method_5_code
def yX5_price : MethodName := ⟨RX5, "price", "(I)I"⟩
abbrev cX5_about : ByteArray := prog_1_method_6_code
def yX5_about : MethodName := ⟨RX5, "about", "(II)I"⟩
abbrev cX5_free : ByteArray := prog_1_method_7_code
def yX5_free : MethodName := ⟨RX5, "free", "(II)I"⟩
abbrev cX5_fewest : ByteArray := prog_1_method_8_code
def yX5_fewest : MethodName := ⟨RX5, "fewest", "()I"⟩
abbrev cX5_plan : ByteArray := prog_1_method_9_code
def yX5_plan : MethodName := ⟨RX5, "plan", "(IIII)I"⟩
abbrev cX5_planAt : ByteArray := prog_1_method_10_code
def yX5_planAt : MethodName := ⟨RX5, "planAt", "(I)I"⟩
abbrev cX5_tries : ByteArray := prog_1_method_11_code
def yX5_tries : MethodName := ⟨RX5, "tries", "()I"⟩
abbrev cX5_cost : ByteArray := prog_1_method_12_code
def yX5_cost : MethodName := ⟨RX5, "cost", "()I"⟩
abbrev cX5_order : ByteArray := prog_1_method_13_code
def yX5_order : MethodName := ⟨RX5, "order", "()I"⟩
abbrev cX5_orderAt : ByteArray := prog_1_method_14_code
def yX5_orderAt : MethodName := ⟨RX5, "orderAt", "(I)I"⟩
abbrev cX5_third : ByteArray := prog_1_method_15_code
def yX5_third : MethodName := ⟨RX5, "third", "()I"⟩
abbrev cX5_byStop : ByteArray := prog_1_method_16_code
def yX5_byStop : MethodName := ⟨RX5, "byStop", "()I"⟩
abbrev cX5_step : ByteArray := prog_1_method_17_code
def yX5_step : MethodName := ⟨RX5, "step", "(Z)I"⟩
abbrev cX5_tick : ByteArray := prog_1_method_18_code
def yX5_tick : MethodName := ⟨RX5, "tick", "(I)I"⟩
abbrev cX5_wait : ByteArray := prog_1_method_19_code
def yX5_wait : MethodName := ⟨RX5, "wait", "(I)I"⟩
abbrev cX5_count : ByteArray := prog_1_method_20_code
def yX5_count : MethodName := ⟨RX5, "count", "(I)I"⟩
abbrev cX5_digest : ByteArray := prog_1_method_21_code
def yX5_digest : MethodName := ⟨RX5, "digest", "()J"⟩
abbrev cX5_isAmount : ByteArray := prog_1_method_22_code
def yX5_isAmount : MethodName := ⟨RX5, "isAmount", "(I)Z"⟩
abbrev cX5_isKindWithGroup : ByteArray := prog_1_method_23_code
def yX5_isKindWithGroup : MethodName := ⟨RX5, "isKindWithGroup", "(II)Z"⟩
abbrev cX5_isGoal : ByteArray := prog_1_method_24_code
def yX5_isGoal : MethodName := ⟨RX5, "isGoal", "(IIII)Z"⟩
abbrev cX5_isBlockAtHand : ByteArray := prog_1_method_25_code
def yX5_isBlockAtHand : MethodName := ⟨RX5, "isBlockAtHand", "(I)Z"⟩
abbrev cX5_lacksOrder : ByteArray := prog_1_method_26_code
def yX5_lacksOrder : MethodName := ⟨RX5, "lacksOrder", "()Z"⟩
abbrev cX5_makeMove : ByteArray := prog_1_method_27_code
def yX5_makeMove : MethodName := ⟨RX5, "makeMove", "(II)V"⟩
def RX6 : String := "MachineMoverModel"
def TX6 : u_T := fun k => match k with
  | 0 => ("MachineMoverModel", "machines", "I", false)
  | 1 => ("MachineMoverModel", "roomA", "[I", true)
  | 2 => ("MachineMoverModel", "roomB", "[I", true)
  | 3 => ("MachineMoverModel", "works", "I", false)
  | 4 => ("MachineMoverModel", "needA", "[I", true)
  | 5 => ("MachineMoverModel", "needB", "[I", true)
  | 6 => ("MachineMoverModel", "kinds", "[I", true)
  | 7 => ("MachineMoverModel", "groups", "[I", true)
  | 8 => ("MachineMoverModel", "at", "[I", true)
  | 9 => ("MachineMoverModel", "isOver", "[Z", true)
  | 10 => ("MachineMoverModel", "now", "I", false)
  | 11 => ("MachineMoverModel", "price", "I", false)
  | 12 => ("MachineMoverModel", "spent", "I", false)
  | 13 => ("MachineMoverModel", "tries", "I", false)
  | 14 => ("MachineMoverModel", "row", "[I", true)
  | 15 => ("MachineMoverModel", "best", "[I", true)
  | 16 => ("MachineMoverModel", "bestMany", "I", false)
  | 17 => ("MachineMoverModel", "goal", "I", false)
  | 18 => ("MachineMoverModel", "goalM", "I", false)
  | 19 => ("MachineMoverModel", "goalA", "I", false)
  | 20 => ("MachineMoverModel", "goalB", "I", false)
  | 21 => ("MachineMoverModel", "hasPlan", "Z", false)
  | 22 => ("MachineMoverModel", "plan", "[I", true)
  | 23 => ("MachineMoverModel", "moves", "I", false)
  | 24 => ("MachineMoverModel", "blocks", "[I", true)
  | 25 => ("MachineMoverModel", "stands", "[I", true)
  | 26 => ("MachineMoverModel", "can", "[Z", true)
  | _ => ("MachineMoverModel", "wasOver", "[Z", true)
def tyX6 : Nat → FieldType := fun k => match k with
  | 0 => .int
  | 1 => .array .int
  | 2 => .array .int
  | 3 => .int
  | 4 => .array .int
  | 5 => .array .int
  | 6 => .array .int
  | 7 => .array .int
  | 8 => .array .int
  | 9 => .array .boolean
  | 10 => .int
  | 11 => .int
  | 12 => .int
  | 13 => .int
  | 14 => .array .int
  | 15 => .array .int
  | 16 => .int
  | 17 => .int
  | 18 => .int
  | 19 => .int
  | 20 => .int
  | 21 => .boolean
  | 22 => .array .int
  | 23 => .int
  | 24 => .array .int
  | 25 => .array .int
  | 26 => .array .boolean
  | _ => .array .boolean
abbrev wsX60 : List Cond := u_ws RX6 TX6 28
theorem nmX6 : ∀ a, a < 28 → ∀ b, b < 28 → a ≠ b → (TX6 a).2.1 ≠ (TX6 b).2.1 := by decide +kernel
theorem tyX6_ok : ∀ k, k < 28 → parseFieldDescriptor (TX6 k).2.2.1 = some (tyX6 k) := by decide +kernel
abbrev cX6_init : ByteArray := prog_8_method_1_code
def yX6_init : MethodName := ⟨RX6, "<init>", "()V"⟩
abbrev cX6_in : ByteArray := prog_8_method_3_code
def yX6_in : MethodName := ⟨RX6, "in", "(III)Z"⟩
abbrev cX6_machine : ByteArray := prog_8_method_4_code
def yX6_machine : MethodName := ⟨RX6, "machine", "(II)I"⟩
abbrev cX6_isMachine : ByteArray := prog_8_method_5_code
def yX6_isMachine : MethodName := ⟨RX6, "isMachine", "(I)Z"⟩
abbrev cX6_isLike : ByteArray := prog_8_method_6_code
def yX6_isLike : MethodName := ⟨RX6, "isLike", "(III)Z"⟩
abbrev cX6_isRight : ByteArray := prog_8_method_7_code
def yX6_isRight : MethodName := ⟨RX6, "isRight", "()Z"⟩
abbrev cX6_work : ByteArray := prog_8_method_8_code
def yX6_work : MethodName := ⟨RX6, "work", "(IIIII)I"⟩
abbrev cX6_fitsNinth : ByteArray := prog_8_method_9_code
def yX6_fitsNinth : MethodName := ⟨RX6, "fitsNinth", "(IIIII)Z"⟩
abbrev cX6_freeA : ByteArray := prog_8_method_10_code
def yX6_freeA : MethodName := ⟨RX6, "freeA", "(I)I"⟩
abbrev cX6_freeB : ByteArray := prog_8_method_11_code
def yX6_freeB : MethodName := ⟨RX6, "freeB", "(I)I"⟩
abbrev cX6_many : ByteArray := prog_8_method_12_code
def yX6_many : MethodName := ⟨RX6, "many", "(I)I"⟩
abbrev cX6_blockOf : ByteArray := prog_8_method_13_code
def yX6_blockOf : MethodName := ⟨RX6, "blockOf", "(I)I"⟩
abbrev cX6_isBlock : ByteArray := prog_8_method_14_code
def yX6_isBlock : MethodName := ⟨RX6, "isBlock", "(I)Z"⟩
abbrev cX6_isOf : ByteArray := prog_8_method_15_code
def yX6_isOf : MethodName := ⟨RX6, "isOf", "(II)Z"⟩
abbrev cX6_costOf : ByteArray := prog_8_method_16_code
def yX6_costOf : MethodName := ⟨RX6, "costOf", "(I)I"⟩
abbrev cX6_price : ByteArray := prog_8_method_17_code
def yX6_price : MethodName := ⟨RX6, "price", "(I)I"⟩
abbrev cX6_about : ByteArray := prog_8_method_18_code
def yX6_about : MethodName := ⟨RX6, "about", "(II)I"⟩
abbrev cX6_free : ByteArray := prog_8_method_19_code
def yX6_free : MethodName := ⟨RX6, "free", "(II)I"⟩
abbrev cX6_onto : ByteArray := prog_8_method_20_code
def yX6_onto : MethodName := ⟨RX6, "onto", "(III)I"⟩
abbrev cX6_used : ByteArray := prog_8_method_21_code
def yX6_used : MethodName := ⟨RX6, "used", "(II)I"⟩
abbrev cX6_isTry : ByteArray := prog_8_method_22_code
def yX6_isTry : MethodName := ⟨RX6, "isTry", "(II)Z"⟩
abbrev cX6_weigh : ByteArray := prog_8_method_23_code
def yX6_weigh : MethodName := ⟨RX6, "weigh", "()I"⟩
abbrev cX6_next : ByteArray := prog_8_method_24_code
def yX6_next : MethodName := ⟨RX6, "next", "(II)I"⟩
abbrev cX6_search : ByteArray := prog_8_method_25_code
def yX6_search : MethodName := ⟨RX6, "search", "()Z"⟩
abbrev cX6_searchRoom : ByteArray := prog_8_method_26_code
def yX6_searchRoom : MethodName := ⟨RX6, "searchRoom", "()Z"⟩
abbrev cX6_go : ByteArray := prog_8_method_27_code
def yX6_go : MethodName := ⟨RX6, "go", "()Z"⟩
abbrev cX6_take : ByteArray := prog_8_method_28_code
def yX6_take : MethodName := ⟨RX6, "take", "()V"⟩
abbrev cX6_fewest : ByteArray := prog_8_method_29_code
def yX6_fewest : MethodName := ⟨RX6, "fewest", "()I"⟩
abbrev cX6_plan : ByteArray := prog_8_method_30_code
def yX6_plan : MethodName := ⟨RX6, "plan", "(IIII)I"⟩
abbrev cX6_planAt : ByteArray := prog_8_method_31_code
def yX6_planAt : MethodName := ⟨RX6, "planAt", "(I)I"⟩
abbrev cX6_tries : ByteArray := prog_8_method_32_code
def yX6_tries : MethodName := ⟨RX6, "tries", "()I"⟩
abbrev cX6_cost : ByteArray := prog_8_method_33_code
def yX6_cost : MethodName := ⟨RX6, "cost", "()I"⟩
abbrev cX6_listMoves : ByteArray := prog_8_method_34_code
def yX6_listMoves : MethodName := ⟨RX6, "listMoves", "()V"⟩
abbrev cX6_place : ByteArray := prog_8_method_35_code
def yX6_place : MethodName := ⟨RX6, "place", "(III)V"⟩
abbrev cX6_comes : ByteArray := prog_8_method_36_code
def yX6_comes : MethodName := ⟨RX6, "comes", "(II)Z"⟩
abbrev cX6_canAll : ByteArray := prog_8_method_37_code
def yX6_canAll : MethodName := ⟨RX6, "canAll", "(I)Z"⟩
abbrev cX6_order : ByteArray := prog_8_method_38_code
def yX6_order : MethodName := ⟨RX6, "order", "()I"⟩
abbrev cX6_firstOf : ByteArray := prog_8_method_39_code
def yX6_firstOf : MethodName := ⟨RX6, "firstOf", "(I)I"⟩
abbrev cX6_orderAt : ByteArray := prog_8_method_40_code
def yX6_orderAt : MethodName := ⟨RX6, "orderAt", "(I)I"⟩
abbrev cX6_canByThird : ByteArray := prog_8_method_41_code
def yX6_canByThird : MethodName := ⟨RX6, "canByThird", "(II)Z"⟩
abbrev cX6_third : ByteArray := prog_8_method_42_code
def yX6_third : MethodName := ⟨RX6, "third", "()I"⟩
abbrev cX6_byStop : ByteArray := prog_8_method_43_code
def yX6_byStop : MethodName := ⟨RX6, "byStop", "()I"⟩
abbrev cX6_carry : ByteArray := prog_8_method_44_code
def yX6_carry : MethodName := ⟨RX6, "carry", "(II)V"⟩
abbrev cX6_step : ByteArray := prog_8_method_45_code
def yX6_step : MethodName := ⟨RX6, "step", "(Z)I"⟩
abbrev cX6_move : ByteArray := prog_8_method_46_code
def yX6_move : MethodName := ⟨RX6, "move", "(II)I"⟩
abbrev cX6_tick : ByteArray := prog_8_method_47_code
def yX6_tick : MethodName := ⟨RX6, "tick", "(I)I"⟩
abbrev cX6_costAt : ByteArray := prog_8_method_48_code
def yX6_costAt : MethodName := ⟨RX6, "costAt", "(II)J"⟩
abbrev cX6_wait : ByteArray := prog_8_method_49_code
def yX6_wait : MethodName := ⟨RX6, "wait", "(I)I"⟩
abbrev cX6_count : ByteArray := prog_8_method_50_code
def yX6_count : MethodName := ⟨RX6, "count", "(I)I"⟩
abbrev cX6_digest : ByteArray := prog_8_method_51_code
def yX6_digest : MethodName := ⟨RX6, "digest", "()J"⟩
def RJ10 : String := "java/lang/System"
def TJ10 : u_T := fun k => match k with
  | _ => ("", "", "", false)
def tyJ10 : Nat → FieldType := fun k => match k with
  | _ => .int
abbrev wsJ100 : List Cond := u_ws RJ10 TJ10 0
theorem nmJ10 : ∀ a, a < 0 → ∀ b, b < 0 → a ≠ b → (TJ10 a).2.1 ≠ (TJ10 b).2.1 := by decide +kernel
theorem tyJ10_ok : ∀ k, k < 0 → parseFieldDescriptor (TJ10 k).2.2.1 = some (tyJ10 k) := by decide +kernel
def RL : String := "MachineMoverLaw"
abbrev cL_law : ByteArray := code
def yL_law : MethodName := ⟨RL, "law", "([I)Z"⟩
def wsL_law_r1 : List Cond := [Cond.classLink RL 7 RX5, Cond.instantiable RX5 11, Cond.initialized RX5, Cond.classLink RL 10 RX6, Cond.instantiable RX6 28, Cond.initialized RX6, Cond.methodLink RL 9 yX5_init, Cond.instanceMethod yX5_init, Cond.code yX5_init cX5_init 1 none, Cond.methodLink RX5 1 objectInit, Cond.instanceMethod objectInit, Cond.code objectInit ⟨#[0xb1]⟩ 1 none, Cond.classLink RX5 7 RX3, Cond.instantiable RX3 13, Cond.initialized RX3, Cond.fieldLink RX5 10 "MachineMover" "stock" "LMachineMover$Stock;", Cond.classLink RX5 16 RX1, Cond.instantiable RX1 7, Cond.initialized RX1, Cond.fieldLink RX5 21 "MachineMover" "hand" "LMachineMover$Row;", Cond.classLink RX5 25 RX2, Cond.instantiable RX2 13, Cond.initialized RX2, Cond.fieldLink RX5 30 "MachineMover" "search" "LMachineMover$Search;"]
def wsL_law_r2 : List Cond := [Cond.classLink RX5 34 RX0, Cond.instantiable RX0 9, Cond.initialized RX0, Cond.fieldLink RX5 37 "MachineMover" "orders" "LMachineMover$Orders;", Cond.classLink RX5 41 RX4, Cond.instantiable RX4 5, Cond.initialized RX4, Cond.fieldLink RX5 46 "MachineMover" "waits" "LMachineMover$Waits;", Cond.arrayClass .int, Cond.fieldLink RX5 50 "MachineMover" "plan" "[I", Cond.fieldLink RX5 54 "MachineMover" "planned" "Z", Cond.fieldLink RX5 58 "MachineMover" "price" "I", Cond.fieldLink RX5 62 "MachineMover" "now" "I", Cond.fieldLink RX5 65 "MachineMover" "latestTries" "I", Cond.fieldLink RX5 68 "MachineMover" "paid" "I", Cond.instanceMethod yX3_init, Cond.code yX3_init cX3_init 1 none, Cond.methodLink RX3 3 objectInit, Cond.fieldLink RX3 9 "MachineMover$Stock" "machines" "I", Cond.fieldLink RX3 15 "MachineMover$Stock" "works" "I", Cond.fieldLink RX3 18 "MachineMover$Stock" "roomA" "[I", Cond.fieldLink RX3 22 "MachineMover$Stock" "roomB" "[I", Cond.fieldLink RX3 25 "MachineMover$Stock" "needA" "[I", Cond.fieldLink RX3 28 "MachineMover$Stock" "needB" "[I"]
def wsL_law_r3 : List Cond := [Cond.fieldLink RX3 31 "MachineMover$Stock" "kind" "[I", Cond.fieldLink RX3 34 "MachineMover$Stock" "group" "[I", Cond.fieldLink RX3 37 "MachineMover$Stock" "twinBit" "[I", Cond.fieldLink RX3 40 "MachineMover$Stock" "end" "[I", Cond.fieldLink RX3 43 "MachineMover$Stock" "block" "[I", Cond.fieldLink RX3 46 "MachineMover$Stock" "blockA" "[I", Cond.fieldLink RX3 49 "MachineMover$Stock" "blockB" "[I", Cond.methodLink RX5 18 yX1_init, Cond.instanceMethod yX1_init, Cond.code yX1_init cX1_init 2 none, Cond.methodLink RX1 3 objectInit, Cond.fieldLink RX1 9 "MachineMover$Row" "at" "[I", Cond.fieldLink RX1 15 "MachineMover$Row" "usedA" "[I", Cond.fieldLink RX1 18 "MachineMover$Row" "usedB" "[I", Cond.fieldLink RX1 21 "MachineMover$Row" "standing" "[I", Cond.fieldLink RX1 24 "MachineMover$Row" "twins" "[I", Cond.fieldLink RX1 27 "MachineMover$Row" "occupied" "I", Cond.fieldLink RX1 31 "MachineMover$Row" "stock" "LMachineMover$Stock;", Cond.methodLink RX5 27 yX2_init, Cond.instanceMethod yX2_init, Cond.code yX2_init cX2_init 3 none, Cond.methodLink RX2 3 objectInit, Cond.fieldLink RX2 9 "MachineMover$Search" "best" "[I", Cond.fieldLink RX2 15 "MachineMover$Search" "tries" "I"]
def wsL_law_r4 : List Cond := [Cond.fieldLink RX2 19 "MachineMover$Search" "spent" "Z", Cond.fieldLink RX2 23 "MachineMover$Search" "fewestMoves" "I", Cond.fieldLink RX2 26 "MachineMover$Search" "fewestMachines" "I", Cond.fieldLink RX2 29 "MachineMover$Search" "goal" "I", Cond.fieldLink RX2 32 "MachineMover$Search" "target" "I", Cond.fieldLink RX2 35 "MachineMover$Search" "goalA" "I", Cond.fieldLink RX2 38 "MachineMover$Search" "goalB" "I", Cond.fieldLink RX2 41 "MachineMover$Search" "till" "I", Cond.fieldLink RX2 44 "MachineMover$Search" "stock" "LMachineMover$Stock;", Cond.fieldLink RX2 48 "MachineMover$Search" "hand" "LMachineMover$Row;", Cond.classLink RX2 52 RX1, Cond.fieldLink RX2 57 "MachineMover$Search" "row" "LMachineMover$Row;", Cond.methodLink RX2 54 yX1_init, Cond.methodLink RX5 36 yX0_init, Cond.instanceMethod yX0_init, Cond.code yX0_init cX0_init 3 none, Cond.methodLink RX0 3 objectInit, Cond.fieldLink RX0 9 "MachineMover$Orders" "jobs" "I", Cond.fieldLink RX0 15 "MachineMover$Orders" "order" "[I", Cond.fieldLink RX0 19 "MachineMover$Orders" "block" "[I", Cond.fieldLink RX0 22 "MachineMover$Orders" "to" "[I", Cond.fieldLink RX0 25 "MachineMover$Orders" "before" "[I", Cond.arrayClass .boolean, Cond.fieldLink RX0 28 "MachineMover$Orders" "hopeless" "[Z"]
def wsL_law_r5 : List Cond := [Cond.fieldLink RX0 32 "MachineMover$Orders" "stock" "LMachineMover$Stock;", Cond.fieldLink RX0 36 "MachineMover$Orders" "hand" "LMachineMover$Row;", Cond.classLink RX0 40 RX1, Cond.fieldLink RX0 45 "MachineMover$Orders" "row" "LMachineMover$Row;", Cond.methodLink RX0 42 yX1_init, Cond.methodLink RX5 43 yX4_init, Cond.instanceMethod yX4_init, Cond.code yX4_init cX4_init 4 none, Cond.methodLink RX4 3 objectInit, Cond.fieldLink RX4 9 "MachineMover$Waits" "leastTicks" "I", Cond.fieldLink RX4 15 "MachineMover$Waits" "leastCost" "J", Cond.fieldLink RX4 19 "MachineMover$Waits" "stock" "LMachineMover$Stock;", Cond.fieldLink RX4 23 "MachineMover$Waits" "hand" "LMachineMover$Row;", Cond.fieldLink RX4 27 "MachineMover$Waits" "search" "LMachineMover$Search;", Cond.methodLink RL 12 yX6_init, Cond.instanceMethod yX6_init, Cond.code yX6_init cX6_init 1 none, Cond.methodLink RX6 1 objectInit, Cond.fieldLink RX6 7 "MachineMoverModel" "roomA" "[I", Cond.fieldLink RX6 13 "MachineMoverModel" "roomB" "[I", Cond.fieldLink RX6 16 "MachineMoverModel" "needA" "[I", Cond.fieldLink RX6 19 "MachineMoverModel" "needB" "[I", Cond.fieldLink RX6 22 "MachineMoverModel" "kinds" "[I", Cond.fieldLink RX6 25 "MachineMoverModel" "groups" "[I"]
def wsL_law_r6 : List Cond := [Cond.fieldLink RX6 28 "MachineMoverModel" "at" "[I", Cond.fieldLink RX6 31 "MachineMoverModel" "isOver" "[Z", Cond.fieldLink RX6 35 "MachineMoverModel" "price" "I", Cond.fieldLink RX6 39 "MachineMoverModel" "row" "[I", Cond.fieldLink RX6 42 "MachineMoverModel" "best" "[I", Cond.fieldLink RX6 45 "MachineMoverModel" "plan" "[I", Cond.fieldLink RX6 48 "MachineMoverModel" "blocks" "[I", Cond.fieldLink RX6 51 "MachineMoverModel" "stands" "[I", Cond.fieldLink RX6 54 "MachineMoverModel" "can" "[Z", Cond.fieldLink RX6 57 "MachineMoverModel" "wasOver" "[Z", Cond.methodLink RL 13 yX5_machine, Cond.instanceMethod yX5_machine, Cond.selects RX5 yX5_machine yX5_machine, Cond.code yX5_machine cX5_machine 3 (some .int), Cond.fieldLink RX5 75 "MachineMover$Stock" "machines" "I", Cond.methodLink RX5 71 yX5_isAmount, Cond.static yX5_isAmount, Cond.code yX5_isAmount cX5_isAmount 1 (some .boolean), Cond.methodLink RX5 78 yX3_addMachine, Cond.instanceMethod yX3_addMachine, Cond.selects RX3 yX3_addMachine yX3_addMachine, Cond.code yX3_addMachine cX3_addMachine 4 (some .int), Cond.methodLink RL 17 yX6_machine, Cond.instanceMethod yX6_machine]
def wsL_law_r7 : List Cond := [Cond.selects RX6 yX6_machine yX6_machine, Cond.code yX6_machine cX6_machine 3 (some .int), Cond.fieldLink RX6 64 "MachineMoverModel" "machines" "I", Cond.methodLink RX6 60 yX6_in, Cond.static yX6_in, Cond.code yX6_in cX6_in 3 (some .boolean), Cond.methodLink RL 18 yX5_work, Cond.instanceMethod yX5_work, Cond.selects RX5 yX5_work yX5_work, Cond.code yX5_work cX5_work 7 (some .int), Cond.fieldLink RX5 96 "MachineMover$Stock" "works" "I", Cond.methodLink RX5 82 yX5_isKindWithGroup, Cond.instanceMethod yX5_isKindWithGroup, Cond.selects RX5 yX5_isKindWithGroup yX5_isKindWithGroup, Cond.code yX5_isKindWithGroup cX5_isKindWithGroup 3 (some .boolean), Cond.methodLink RX5 86 yX3_hasMachine, Cond.instanceMethod yX3_hasMachine, Cond.selects RX3 yX3_hasMachine yX3_hasMachine, Cond.code yX3_hasMachine cX3_hasMachine 2 (some .boolean), Cond.methodLink RX5 89 yX3_describeNewcomer, Cond.instanceMethod yX3_describeNewcomer, Cond.selects RX3 yX3_describeNewcomer yX3_describeNewcomer, Cond.code yX3_describeNewcomer cX3_describeNewcomer 6 (some .int), Cond.methodLink RX3 52 yX3_leastFriend]
def wsL_law_r8 : List Cond := [Cond.instanceMethod yX3_leastFriend, Cond.selects RX3 yX3_leastFriend yX3_leastFriend, Cond.code yX3_leastFriend cX3_leastFriend 4 (some .int), Cond.methodLink RX5 93 yX1_takes, Cond.instanceMethod yX1_takes, Cond.selects RX1 yX1_takes yX1_takes, Cond.code yX1_takes cX1_takes 4 (some .boolean), Cond.fieldLink RX1 49 "MachineMover$Stock" "block" "[I", Cond.fieldLink RX1 52 "MachineMover$Stock" "needA" "[I", Cond.fieldLink RX1 59 "MachineMover$Stock" "needB" "[I", Cond.fieldLink RX1 65 "MachineMover$Stock" "twinBit" "[I", Cond.methodLink RX1 55 yX1_freeA, Cond.instanceMethod yX1_freeA, Cond.selects RX1 yX1_freeA yX1_freeA, Cond.code yX1_freeA cX1_freeA 2 (some .int), Cond.fieldLink RX1 41 "MachineMover$Stock" "roomA" "[I", Cond.methodLink RX1 62 yX1_freeB, Cond.instanceMethod yX1_freeB, Cond.selects RX1 yX1_freeB yX1_freeB, Cond.code yX1_freeB cX1_freeB 2 (some .int), Cond.fieldLink RX1 46 "MachineMover$Stock" "roomB" "[I", Cond.methodLink RX5 99 yX3_addNewcomer, Cond.instanceMethod yX3_addNewcomer, Cond.selects RX3 yX3_addNewcomer yX3_addNewcomer]
def wsL_law_r9 : List Cond := [Cond.code yX3_addNewcomer cX3_addNewcomer 3 none, Cond.methodLink RX5 102 yX1_put, Cond.instanceMethod yX1_put, Cond.selects RX1 yX1_put yX1_put, Cond.code yX1_put cX1_put 3 none, Cond.methodLink RL 22 yX6_work, Cond.instanceMethod yX6_work, Cond.selects RX6 yX6_work yX6_work, Cond.code yX6_work cX6_work 7 (some .int), Cond.fieldLink RX6 77 "MachineMoverModel" "now" "I", Cond.fieldLink RX6 67 "MachineMoverModel" "works" "I", Cond.fieldLink RX6 88 "MachineMoverModel" "hasPlan" "Z", Cond.methodLink RX6 73 yX6_isMachine, Cond.instanceMethod yX6_isMachine, Cond.selects RX6 yX6_isMachine yX6_isMachine, Cond.code yX6_isMachine cX6_isMachine 2 (some .boolean), Cond.methodLink RX6 80 yX6_fitsNinth, Cond.instanceMethod yX6_fitsNinth, Cond.selects RX6 yX6_fitsNinth yX6_fitsNinth, Cond.code yX6_fitsNinth cX6_fitsNinth 9 (some .boolean), Cond.methodLink RX6 92 yX6_freeA, Cond.instanceMethod yX6_freeA, Cond.selects RX6 yX6_freeA yX6_freeA, Cond.code yX6_freeA cX6_freeA 4 (some .int)]
def wsL_law_r10 : List Cond := [Cond.methodLink RX6 96 yX6_freeB, Cond.instanceMethod yX6_freeB, Cond.selects RX6 yX6_freeB yX6_freeB, Cond.code yX6_freeB cX6_freeB 4 (some .int), Cond.methodLink RX6 84 yX6_isRight, Cond.instanceMethod yX6_isRight, Cond.selects RX6 yX6_isRight yX6_isRight, Cond.code yX6_isRight cX6_isRight 7 (some .boolean), Cond.methodLink RX6 70 yX6_isLike, Cond.instanceMethod yX6_isLike, Cond.selects RX6 yX6_isLike yX6_isLike, Cond.code yX6_isLike cX6_isLike 4 (some .boolean), Cond.methodLink RL 23 yX5_move, Cond.instanceMethod yX5_move, Cond.selects RX5 yX5_move yX5_move, Cond.code yX5_move cX5_move 3 (some .int), Cond.fieldLink RX5 112 "MachineMover$Stock" "kind" "[I", Cond.fieldLink RX5 115 "MachineMover$Row" "at" "[I", Cond.methodLink RX5 106 yX3_hasWork, Cond.instanceMethod yX3_hasWork, Cond.selects RX3 yX3_hasWork yX3_hasWork, Cond.code yX3_hasWork cX3_hasWork 2 (some .boolean), Cond.methodLink RX5 109 yX5_isBlockAtHand, Cond.instanceMethod yX5_isBlockAtHand]
def wsL_law_r11 : List Cond := [Cond.selects RX5 yX5_isBlockAtHand yX5_isBlockAtHand, Cond.code yX5_isBlockAtHand cX5_isBlockAtHand 2 (some .boolean), Cond.fieldLink RX5 130 "MachineMover$Stock" "block" "[I", Cond.methodLink RX5 118 yX1_takesBlock, Cond.instanceMethod yX1_takesBlock, Cond.selects RX1 yX1_takesBlock yX1_takesBlock, Cond.code yX1_takesBlock cX1_takesBlock 3 (some .boolean), Cond.fieldLink RX1 68 "MachineMover$Stock" "blockA" "[I", Cond.fieldLink RX1 71 "MachineMover$Stock" "blockB" "[I", Cond.methodLink RX5 121 yX5_makeMove, Cond.instanceMethod yX5_makeMove, Cond.selects RX5 yX5_makeMove yX5_makeMove, Cond.code yX5_makeMove cX5_makeMove 3 none, Cond.methodLink RX5 233 yX1_shift, Cond.instanceMethod yX1_shift, Cond.selects RX1 yX1_shift yX1_shift, Cond.code yX1_shift cX1_shift 4 none, Cond.fieldLink RX1 74 "MachineMover$Stock" "works" "I", Cond.methodLink RX1 77 yX1_remove, Cond.instanceMethod yX1_remove, Cond.selects RX1 yX1_remove yX1_remove, Cond.code yX1_remove cX1_remove 3 none, Cond.methodLink RX1 81 yX1_put, Cond.methodLink RX5 236 yX3_moveCost]
def wsL_law_r12 : List Cond := [Cond.instanceMethod yX3_moveCost, Cond.selects RX3 yX3_moveCost yX3_moveCost, Cond.code yX3_moveCost cX3_moveCost 2 (some .int), Cond.methodLink RL 26 yX6_move, Cond.instanceMethod yX6_move, Cond.selects RX6 yX6_move yX6_move, Cond.code yX6_move cX6_move 3 (some .int), Cond.fieldLink RX6 164 "MachineMoverModel" "moves" "I", Cond.methodLink RX6 129 yX6_isBlock, Cond.instanceMethod yX6_isBlock, Cond.selects RX6 yX6_isBlock yX6_isBlock, Cond.code yX6_isBlock cX6_isBlock 2 (some .boolean), Cond.methodLink RX6 99 yX6_blockOf, Cond.instanceMethod yX6_blockOf, Cond.selects RX6 yX6_blockOf yX6_blockOf, Cond.code yX6_blockOf cX6_blockOf 3 (some .int), Cond.methodLink RX6 167 yX6_place, Cond.instanceMethod yX6_place, Cond.selects RX6 yX6_place yX6_place, Cond.code yX6_place cX6_place 6 none, Cond.methodLink RX6 102 yX6_isOf, Cond.instanceMethod yX6_isOf, Cond.selects RX6 yX6_isOf yX6_isOf, Cond.code yX6_isOf cX6_isOf 3 (some .boolean)]
def wsL_law_r13 : List Cond := [Cond.methodLink RX6 171 yX6_comes, Cond.instanceMethod yX6_comes, Cond.selects RX6 yX6_comes yX6_comes, Cond.code yX6_comes cX6_comes 9 (some .boolean), Cond.methodLink RX6 192 yX6_carry, Cond.instanceMethod yX6_carry, Cond.selects RX6 yX6_carry yX6_carry, Cond.code yX6_carry cX6_carry 4 none, Cond.fieldLink RX6 189 "MachineMoverModel" "spent" "I", Cond.methodLink RX6 161 yX6_costOf, Cond.instanceMethod yX6_costOf, Cond.selects RX6 yX6_costOf yX6_costOf, Cond.code yX6_costOf cX6_costOf 4 (some .int), Cond.methodLink RL 27 yX5_price, Cond.instanceMethod yX5_price, Cond.selects RX5 yX5_price yX5_price, Cond.code yX5_price cX5_price 3 (some .int), Cond.methodLink RL 31 yX6_price, Cond.instanceMethod yX6_price, Cond.selects RX6 yX6_price yX6_price, Cond.code yX6_price cX6_price 3 (some .int), Cond.methodLink RL 32 yX5_about, Cond.instanceMethod yX5_about, Cond.selects RX5 yX5_about yX5_about]
def wsL_law_r14 : List Cond := [Cond.code yX5_about cX5_about 4 (some .int), Cond.fieldLink RX5 124 "MachineMover$Stock" "needA" "[I", Cond.fieldLink RX5 127 "MachineMover$Stock" "needB" "[I", Cond.methodLink RL 35 yX6_about, Cond.instanceMethod yX6_about, Cond.selects RX6 yX6_about yX6_about, Cond.code yX6_about cX6_about 3 (some .int), Cond.methodLink RL 36 yX5_free, Cond.instanceMethod yX5_free, Cond.selects RX5 yX5_free yX5_free, Cond.code yX5_free cX5_free 3 (some .int), Cond.fieldLink RX5 140 "MachineMover$Row" "standing" "[I", Cond.methodLink RX5 133 yX1_freeA, Cond.methodLink RX5 137 yX1_freeB, Cond.methodLink RL 39 yX6_free, Cond.instanceMethod yX6_free, Cond.selects RX6 yX6_free yX6_free, Cond.code yX6_free cX6_free 3 (some .int), Cond.methodLink RX6 106 yX6_many, Cond.instanceMethod yX6_many, Cond.selects RX6 yX6_many yX6_many, Cond.code yX6_many cX6_many 4 (some .int), Cond.methodLink RL 40 yX5_fewest, Cond.instanceMethod yX5_fewest]
def wsL_law_r15 : List Cond := [Cond.selects RX5 yX5_fewest yX5_fewest, Cond.code yX5_fewest cX5_fewest 1 (some .int), Cond.fieldLink RX5 151 "MachineMover$Search" "tries" "I", Cond.fieldLink RX5 154 "MachineMover$Search" "spent" "Z", Cond.fieldLink RX5 157 "MachineMover$Search" "fewestMachines" "I", Cond.methodLink RX5 143 yX2_aim, Cond.instanceMethod yX2_aim, Cond.selects RX2 yX2_aim yX2_aim, Cond.code yX2_aim cX2_aim 5 none, Cond.methodLink RX5 147 yX2_run, Cond.instanceMethod yX2_run, Cond.selects RX2 yX2_run yX2_run, Cond.code yX2_run cX2_run 2 none, Cond.methodLink RX2 60 yX1_clear, Cond.instanceMethod yX1_clear, Cond.selects RX1 yX1_clear yX1_clear, Cond.code yX1_clear cX1_clear 2 none, Cond.methodLink RX2 63 yX2_goalHolds, Cond.instanceMethod yX2_goalHolds, Cond.selects RX2 yX2_goalHolds yX2_goalHolds, Cond.code yX2_goalHolds cX2_goalHolds 1 (some .boolean), Cond.fieldLink RX2 113 "MachineMover$Row" "standing" "[I", Cond.fieldLink RX2 122 "MachineMover$Row" "occupied" "I", Cond.methodLink RX2 116 yX1_freeA]
def wsL_law_r16 : List Cond := [Cond.methodLink RX2 119 yX1_freeB, Cond.methodLink RX2 67 yX2_giveFrom, Cond.instanceMethod yX2_giveFrom, Cond.selects RX2 yX2_giveFrom yX2_giveFrom, Cond.code yX2_giveFrom cX2_giveFrom 7 none, Cond.fieldLink RX2 75 "MachineMover$Stock" "works" "I", Cond.fieldLink RX2 84 "MachineMover$Stock" "block" "[I", Cond.fieldLink RX2 87 "MachineMover$Stock" "machines" "I", Cond.fieldLink RX2 90 "MachineMover$Row" "at" "[I", Cond.fieldLink RX2 93 "MachineMover$Stock" "kind" "[I", Cond.methodLink RX2 71 yX2_nextWork, Cond.instanceMethod yX2_nextWork, Cond.selects RX2 yX2_nextWork yX2_nextWork, Cond.code yX2_nextWork cX2_nextWork 3 (some .int), Cond.methodLink RX2 109 yX3_endsBy, Cond.instanceMethod yX3_endsBy, Cond.selects RX3 yX3_endsBy yX3_endsBy, Cond.code yX3_endsBy cX3_endsBy 3 (some .boolean), Cond.methodLink RX2 80 yX2_keep, Cond.instanceMethod yX2_keep, Cond.selects RX2 yX2_keep yX2_keep, Cond.code yX2_keep cX2_keep 2 none, Cond.methodLink RX2 125 arraycopyName, Cond.native arraycopyName]
def wsL_law_r17 : List Cond := [Cond.static arraycopyName, Cond.initialized "java/lang/System", Cond.methodLink RX2 96 yX1_takes, Cond.methodLink RX2 100 yX1_put, Cond.methodLink RX2 103 yX2_countTry, Cond.instanceMethod yX2_countTry, Cond.selects RX2 yX2_countTry yX2_countTry, Cond.code yX2_countTry cX2_countTry 1 (some .boolean), Cond.constant RX2 112 (200000), Cond.methodLink RX2 106 yX1_remove, Cond.methodLink RL 44 yX6_fewest, Cond.instanceMethod yX6_fewest, Cond.selects RX6 yX6_fewest yX6_fewest, Cond.code yX6_fewest cX6_fewest 1 (some .int), Cond.fieldLink RX6 109 "MachineMoverModel" "goal" "I", Cond.fieldLink RX6 135 "MachineMoverModel" "bestMany" "I", Cond.methodLink RX6 158 yX6_search, Cond.instanceMethod yX6_search, Cond.selects RX6 yX6_search yX6_search, Cond.code yX6_search cX6_search 1 (some .boolean), Cond.fieldLink RX6 132 "MachineMoverModel" "tries" "I", Cond.fieldLink RX6 112 "MachineMoverModel" "goalM" "I", Cond.fieldLink RX6 115 "MachineMoverModel" "goalA" "I", Cond.fieldLink RX6 118 "MachineMoverModel" "goalB" "I"]
def wsL_law_r18 : List Cond := [Cond.methodLink RX6 138 yX6_searchRoom, Cond.instanceMethod yX6_searchRoom, Cond.selects RX6 yX6_searchRoom yX6_searchRoom, Cond.code yX6_searchRoom cX6_searchRoom 2 (some .boolean), Cond.methodLink RX6 141 yX6_go, Cond.instanceMethod yX6_go, Cond.selects RX6 yX6_go yX6_go, Cond.code yX6_go cX6_go 4 (some .boolean), Cond.constant RX6 150 (200000), Cond.methodLink RX6 144 yX6_next, Cond.instanceMethod yX6_next, Cond.selects RX6 yX6_next yX6_next, Cond.code yX6_next cX6_next 4 (some .int), Cond.methodLink RX6 147 yX6_isTry, Cond.instanceMethod yX6_isTry, Cond.selects RX6 yX6_isTry yX6_isTry, Cond.code yX6_isTry cX6_isTry 6 (some .boolean), Cond.methodLink RX6 121 yX6_onto, Cond.instanceMethod yX6_onto, Cond.selects RX6 yX6_onto yX6_onto, Cond.code yX6_onto cX6_onto 6 (some .int), Cond.methodLink RX6 125 yX6_used, Cond.instanceMethod yX6_used, Cond.selects RX6 yX6_used yX6_used]
def wsL_law_r19 : List Cond := [Cond.code yX6_used cX6_used 6 (some .int), Cond.methodLink RX6 151 yX6_take, Cond.instanceMethod yX6_take, Cond.selects RX6 yX6_take yX6_take, Cond.code yX6_take cX6_take 3 none, Cond.methodLink RX6 154 yX6_weigh, Cond.instanceMethod yX6_weigh, Cond.selects RX6 yX6_weigh yX6_weigh, Cond.code yX6_weigh cX6_weigh 4 (some .int), Cond.methodLink RL 45 yX5_plan, Cond.instanceMethod yX5_plan, Cond.selects RX5 yX5_plan yX5_plan, Cond.code yX5_plan cX5_plan 5 (some .int), Cond.fieldLink RX5 164 "MachineMover$Search" "fewestMoves" "I", Cond.fieldLink RX5 167 "MachineMover$Search" "best" "[I", Cond.methodLink RX5 170 arraycopyName, Cond.methodLink RX5 160 yX5_isGoal, Cond.instanceMethod yX5_isGoal, Cond.selects RX5 yX5_isGoal yX5_isGoal, Cond.code yX5_isGoal cX5_isGoal 5 (some .boolean), Cond.methodLink RL 49 yX6_plan, Cond.instanceMethod yX6_plan, Cond.selects RX6 yX6_plan yX6_plan, Cond.code yX6_plan cX6_plan 7 (some .int)]
def wsL_law_r20 : List Cond := [Cond.methodLink RL 50 yX5_planAt, Cond.instanceMethod yX5_planAt, Cond.selects RX5 yX5_planAt yX5_planAt, Cond.code yX5_planAt cX5_planAt 2 (some .int), Cond.methodLink RL 53 yX6_planAt, Cond.instanceMethod yX6_planAt, Cond.selects RX6 yX6_planAt yX6_planAt, Cond.code yX6_planAt cX6_planAt 2 (some .int), Cond.methodLink RL 54 yX5_tries, Cond.instanceMethod yX5_tries, Cond.selects RX5 yX5_tries yX5_tries, Cond.code yX5_tries cX5_tries 1 (some .int), Cond.methodLink RL 57 yX6_tries, Cond.instanceMethod yX6_tries, Cond.selects RX6 yX6_tries yX6_tries, Cond.code yX6_tries cX6_tries 1 (some .int), Cond.methodLink RL 58 yX5_cost, Cond.instanceMethod yX5_cost, Cond.selects RX5 yX5_cost yX5_cost, Cond.code yX5_cost cX5_cost 1 (some .int), Cond.methodLink RX5 176 yX1_costTo, Cond.instanceMethod yX1_costTo, Cond.selects RX1 yX1_costTo yX1_costTo, Cond.code yX1_costTo cX1_costTo 4 (some .int)]
def wsL_law_r21 : List Cond := [Cond.methodLink RX1 85 yX1_isMovedIn, Cond.instanceMethod yX1_isMovedIn, Cond.selects RX1 yX1_isMovedIn yX1_isMovedIn, Cond.code yX1_isMovedIn cX1_isMovedIn 3 (some .boolean), Cond.methodLink RX1 89 yX3_moveCost, Cond.methodLink RL 61 yX6_cost, Cond.instanceMethod yX6_cost, Cond.selects RX6 yX6_cost yX6_cost, Cond.code yX6_cost cX6_cost 3 (some .int), Cond.methodLink RL 62 yX5_order, Cond.instanceMethod yX5_order, Cond.selects RX5 yX5_order yX5_order, Cond.code yX5_order cX5_order 1 (some .int), Cond.methodLink RX5 180 yX0_findOrder, Cond.instanceMethod yX0_findOrder, Cond.selects RX0 yX0_findOrder yX0_findOrder, Cond.code yX0_findOrder cX0_findOrder 2 (some .boolean), Cond.methodLink RX0 48 yX0_gather, Cond.instanceMethod yX0_gather, Cond.selects RX0 yX0_gather yX0_gather, Cond.code yX0_gather cX0_gather 4 none, Cond.fieldLink RX0 56 "MachineMover$Stock" "works" "I", Cond.methodLink RX0 91 yX1_copy, Cond.instanceMethod yX1_copy]
def wsL_law_r22 : List Cond := [Cond.selects RX1 yX1_copy yX1_copy, Cond.code yX1_copy cX1_copy 2 none, Cond.methodLink RX1 35 arraycopyName, Cond.methodLink RX0 64 yX1_isMovedIn, Cond.methodLink RX0 83 yX0_addJob, Cond.instanceMethod yX0_addJob, Cond.selects RX0 yX0_addJob yX0_addJob, Cond.code yX0_addJob cX0_addJob 3 none, Cond.methodLink RX0 52 yX0_seekAnew, Cond.instanceMethod yX0_seekAnew, Cond.selects RX0 yX0_seekAnew yX0_seekAnew, Cond.code yX0_seekAnew cX0_seekAnew 2 (some .boolean), Cond.methodLink RX0 95 yX0_seek, Cond.instanceMethod yX0_seek, Cond.selects RX0 yX0_seek yX0_seek, Cond.code yX0_seek cX0_seek 7 (some .boolean), Cond.fieldLink RX0 68 "MachineMover$Row" "at" "[I", Cond.methodLink RX0 99 yX1_takesBlock, Cond.methodLink RX0 102 yX1_shift, Cond.methodLink RL 65 yX6_order, Cond.instanceMethod yX6_order, Cond.selects RX6 yX6_order yX6_order, Cond.code yX6_order cX6_order 1 (some .int), Cond.methodLink RX6 174 yX6_listMoves]
def wsL_law_r23 : List Cond := [Cond.instanceMethod yX6_listMoves, Cond.selects RX6 yX6_listMoves yX6_listMoves, Cond.code yX6_listMoves cX6_listMoves 2 none, Cond.methodLink RX6 177 yX6_canAll, Cond.instanceMethod yX6_canAll, Cond.selects RX6 yX6_canAll yX6_canAll, Cond.code yX6_canAll cX6_canAll 6 (some .boolean), Cond.methodLink RL 66 yX5_orderAt, Cond.instanceMethod yX5_orderAt, Cond.selects RX5 yX5_orderAt yX5_orderAt, Cond.code yX5_orderAt cX5_orderAt 2 (some .int), Cond.fieldLink RX5 184 "MachineMover$Orders" "jobs" "I", Cond.fieldLink RX5 187 "MachineMover$Orders" "order" "[I", Cond.methodLink RL 69 yX6_orderAt, Cond.instanceMethod yX6_orderAt, Cond.selects RX6 yX6_orderAt yX6_orderAt, Cond.code yX6_orderAt cX6_orderAt 5 (some .int), Cond.methodLink RX6 180 yX6_firstOf, Cond.instanceMethod yX6_firstOf, Cond.selects RX6 yX6_firstOf yX6_firstOf, Cond.code yX6_firstOf cX6_firstOf 3 (some .int), Cond.methodLink RL 70 yX5_third, Cond.instanceMethod yX5_third, Cond.selects RX5 yX5_third yX5_third]
def wsL_law_r24 : List Cond := [Cond.code yX5_third cX5_third 1 (some .int), Cond.methodLink RX5 190 yX5_lacksOrder, Cond.instanceMethod yX5_lacksOrder, Cond.selects RX5 yX5_lacksOrder yX5_lacksOrder, Cond.code yX5_lacksOrder cX5_lacksOrder 1 (some .boolean), Cond.methodLink RX5 194 yX0_firstThird, Cond.instanceMethod yX0_firstThird, Cond.selects RX0 yX0_firstThird yX0_firstThird, Cond.code yX0_firstThird cX0_firstThird 4 (some .int), Cond.fieldLink RX0 61 "MachineMover$Stock" "machines" "I", Cond.methodLink RX0 71 yX0_hasThird, Cond.instanceMethod yX0_hasThird, Cond.selects RX0 yX0_hasThird yX0_hasThird, Cond.code yX0_hasThird cX0_hasThird 6 (some .boolean), Cond.methodLink RL 73 yX6_third, Cond.instanceMethod yX6_third, Cond.selects RX6 yX6_third yX6_third, Cond.code yX6_third cX6_third 3 (some .int), Cond.methodLink RX6 183 yX6_order, Cond.methodLink RX6 186 yX6_canByThird, Cond.instanceMethod yX6_canByThird, Cond.selects RX6 yX6_canByThird yX6_canByThird, Cond.code yX6_canByThird cX6_canByThird 10 (some .boolean), Cond.methodLink RL 74 yX5_byStop]
def wsL_law_r25 : List Cond := [Cond.instanceMethod yX5_byStop, Cond.selects RX5 yX5_byStop yX5_byStop, Cond.code yX5_byStop cX5_byStop 1 (some .int), Cond.methodLink RX5 197 yX0_leastStop, Cond.instanceMethod yX0_leastStop, Cond.selects RX0 yX0_leastStop yX0_leastStop, Cond.code yX0_leastStop cX0_leastStop 5 (some .int), Cond.methodLink RX0 75 yX3_moveCost, Cond.methodLink RX0 79 yX0_hasStop, Cond.instanceMethod yX0_hasStop, Cond.selects RX0 yX0_hasStop yX0_hasStop, Cond.code yX0_hasStop cX0_hasStop 3 (some .boolean), Cond.methodLink RX0 87 yX1_removeBlock, Cond.instanceMethod yX1_removeBlock, Cond.selects RX1 yX1_removeBlock yX1_removeBlock, Cond.code yX1_removeBlock cX1_removeBlock 3 none, Cond.methodLink RL 77 yX6_byStop, Cond.instanceMethod yX6_byStop, Cond.selects RX6 yX6_byStop yX6_byStop, Cond.code yX6_byStop cX6_byStop 3 (some .int), Cond.methodLink RL 78 yX5_step, Cond.instanceMethod yX5_step, Cond.selects RX5 yX5_step yX5_step, Cond.code yX5_step cX5_step 3 (some .int)]
def wsL_law_r26 : List Cond := [Cond.methodLink RL 82 yX6_step, Cond.instanceMethod yX6_step, Cond.selects RX6 yX6_step yX6_step, Cond.code yX6_step cX6_step 3 (some .int), Cond.methodLink RL 83 yX5_tick, Cond.instanceMethod yX5_tick, Cond.selects RX5 yX5_tick yX5_tick, Cond.code yX5_tick cX5_tick 4 (some .int), Cond.methodLink RX5 200 yX3_endsBy, Cond.methodLink RX5 203 yX1_remove, Cond.methodLink RL 86 yX6_tick, Cond.instanceMethod yX6_tick, Cond.selects RX6 yX6_tick yX6_tick, Cond.code yX6_tick cX6_tick 4 (some .int), Cond.methodLink RL 87 yX5_wait, Cond.instanceMethod yX5_wait, Cond.selects RX5 yX5_wait yX5_wait, Cond.code yX5_wait cX5_wait 2 (some .int), Cond.methodLink RX5 206 yX4_least, Cond.instanceMethod yX4_least, Cond.selects RX4 yX4_least yX4_least, Cond.code yX4_least cX4_least 6 (some .int), Cond.fieldLink RX4 41 "MachineMover$Stock" "works" "I", Cond.fieldLink RX4 46 "MachineMover$Row" "at" "[I"]
def wsL_law_r27 : List Cond := [Cond.fieldLink RX4 52 "MachineMover$Stock" "kind" "[I", Cond.fieldLink RX4 55 "MachineMover$Stock" "end" "[I", Cond.methodLink RX4 31 yX2_aim, Cond.methodLink RX4 37 yX4_weigh, Cond.instanceMethod yX4_weigh, Cond.selects RX4 yX4_weigh yX4_weigh, Cond.code yX4_weigh cX4_weigh 7 (some .boolean), Cond.fieldLink RX4 62 "MachineMover$Search" "spent" "Z", Cond.fieldLink RX4 66 "MachineMover$Search" "fewestMoves" "I", Cond.fieldLink RX4 69 "MachineMover$Search" "best" "[I", Cond.methodLink RX4 58 yX2_run, Cond.methodLink RX4 72 yX1_costTo, Cond.methodLink RL 90 yX6_wait, Cond.instanceMethod yX6_wait, Cond.selects RX6 yX6_wait yX6_wait, Cond.code yX6_wait cX6_wait 11 (some .int), Cond.constantLong RX6 196 (-1), Cond.constantLong RX6 198 (-5), Cond.methodLink RX6 200 yX6_costAt, Cond.instanceMethod yX6_costAt, Cond.selects RX6 yX6_costAt yX6_costAt, Cond.code yX6_costAt cX6_costAt 7 (some .long), Cond.methodLink RL 91 yX5_count, Cond.instanceMethod yX5_count]
def wsL_law_r28 : List Cond := [Cond.selects RX5 yX5_count yX5_count, Cond.code yX5_count cX5_count 2 (some .int), Cond.fieldLink RX5 214 "MachineMover$Row" "occupied" "I", Cond.methodLink RX5 210 yX1_working, Cond.instanceMethod yX1_working, Cond.selects RX1 yX1_working yX1_working, Cond.code yX1_working cX1_working 3 (some .int), Cond.methodLink RL 94 yX6_count, Cond.instanceMethod yX6_count, Cond.selects RX6 yX6_count yX6_count, Cond.code yX6_count cX6_count 4 (some .int), Cond.methodLink RL 95 yX5_digest, Cond.instanceMethod yX5_digest, Cond.selects RX5 yX5_digest yX5_digest, Cond.code yX5_digest cX5_digest 5 (some .long), Cond.constantLong RX5 217 (127), Cond.constantLong RX5 219 (31), Cond.methodLink RX5 221 yX5_count, Cond.methodLink RX5 224 yX5_about, Cond.methodLink RX5 227 yX5_planAt, Cond.methodLink RX5 230 yX5_free, Cond.methodLink RL 99 yX6_digest, Cond.instanceMethod yX6_digest, Cond.selects RX6 yX6_digest yX6_digest]
def wsL_law_r29 : List Cond := [Cond.code yX6_digest cX6_digest 5 (some .long), Cond.constantLong RX6 204 (127), Cond.constantLong RX6 206 (31), Cond.methodLink RX6 208 yX6_count, Cond.methodLink RX6 211 yX6_about, Cond.methodLink RX6 214 yX6_planAt, Cond.methodLink RX6 217 yX6_free]
def wsL_law : List Cond := (wsL_law_r1 ++ (wsL_law_r2 ++ (wsL_law_r3 ++ (wsL_law_r4 ++ (wsL_law_r5 ++ (wsL_law_r6 ++ (wsL_law_r7 ++ (wsL_law_r8 ++ (wsL_law_r9 ++ (wsL_law_r10 ++ (wsL_law_r11 ++ (wsL_law_r12 ++ (wsL_law_r13 ++ (wsL_law_r14 ++ (wsL_law_r15 ++ (wsL_law_r16 ++ (wsL_law_r17 ++ (wsL_law_r18 ++ (wsL_law_r19 ++ (wsL_law_r20 ++ (wsL_law_r21 ++ (wsL_law_r22 ++ (wsL_law_r23 ++ (wsL_law_r24 ++ (wsL_law_r25 ++ (wsL_law_r26 ++ (wsL_law_r27 ++ (wsL_law_r28 ++ wsL_law_r29)))))))))))))))))))))))))))) ++ wsX50 ++ wsX60 ++ wsX30 ++ wsX10 ++ wsX20 ++ wsX00 ++ wsX40 ++ ([] : List Cond)
set_option maxRecDepth 20000 in
theorem wLG_r1 : GoodIn lw_tbl wsL_law_r1 := goodIn_p _ [59, 62] (by decide +kernel) (by decide +kernel)
set_option maxRecDepth 20000 in
theorem wLG_r2 : GoodIn lw_tbl wsL_law_r2 := goodIn_p _ [67] (by decide +kernel) (by decide +kernel)
set_option maxRecDepth 20000 in
theorem wLG_r3 : GoodIn lw_tbl wsL_law_r3 := goodIn_p _ [138, 174] (by decide +kernel) (by decide +kernel)
set_option maxRecDepth 20000 in
theorem wLG_r4 : GoodIn lw_tbl wsL_law_r4 := goodIn_p _ [230] (by decide +kernel) (by decide +kernel)
set_option maxRecDepth 20000 in
theorem wLG_r5 : GoodIn lw_tbl wsL_law_r5 := goodIn_p _ [269, 614] (by decide +kernel) (by decide +kernel)
set_option maxRecDepth 20000 in
theorem wLG_r6 : GoodIn lw_tbl wsL_law_r6 := goodIn_p _ [324, 327, 331] (by decide +kernel) (by decide +kernel)
set_option maxRecDepth 20000 in
theorem wLG_r7 : GoodIn lw_tbl wsL_law_r7 := goodIn_p _ [704, 707, 335, 339, 343, 347] (by decide +kernel) (by decide +kernel)
set_option maxRecDepth 20000 in
theorem wLG_r8 : GoodIn lw_tbl wsL_law_r8 := goodIn_p _ [351, 355, 359, 363] (by decide +kernel) (by decide +kernel)
set_option maxRecDepth 20000 in
theorem wLG_r9 : GoodIn lw_tbl wsL_law_r9 := goodIn_p _ [367, 371, 711, 715, 719, 723] (by decide +kernel) (by decide +kernel)
set_option maxRecDepth 20000 in
theorem wLG_r10 : GoodIn lw_tbl wsL_law_r10 := goodIn_p _ [727, 731, 735, 375, 379] (by decide +kernel) (by decide +kernel)
set_option maxRecDepth 20000 in
theorem wLG_r11 : GoodIn lw_tbl wsL_law_r11 := goodIn_p _ [383, 387, 391, 395, 399] (by decide +kernel) (by decide +kernel)
set_option maxRecDepth 20000 in
theorem wLG_r12 : GoodIn lw_tbl wsL_law_r12 := goodIn_p _ [404, 877, 800, 747, 840, 824] (by decide +kernel) (by decide +kernel)
set_option maxRecDepth 20000 in
theorem wLG_r13 : GoodIn lw_tbl wsL_law_r13 := goodIn_p _ [844, 873, 820, 408, 739] (by decide +kernel) (by decide +kernel)
set_option maxRecDepth 20000 in
theorem wLG_r14 : GoodIn lw_tbl wsL_law_r14 := goodIn_p _ [412, 743, 416, 751, 755] (by decide +kernel) (by decide +kernel)
set_option maxRecDepth 20000 in
theorem wLG_r15 : GoodIn lw_tbl wsL_law_r15 := goodIn_p _ [422, 426, 430, 434, 438] (by decide +kernel) (by decide +kernel)
set_option maxRecDepth 20000 in
theorem wLG_r16 : GoodIn lw_tbl wsL_law_r16 := goodIn_p _ [444, 448, 452, 456] (by decide +kernel) (by decide +kernel)
set_option maxRecDepth 20000 in
theorem wLG_r17 : GoodIn lw_tbl wsL_law_r17 := goodIn_p _ [465, 759, 763] (by decide +kernel) (by decide +kernel)
set_option maxRecDepth 20000 in
theorem wLG_r18 : GoodIn lw_tbl wsL_law_r18 := goodIn_p _ [767, 771, 775, 779, 783] (by decide +kernel) (by decide +kernel)
set_option maxRecDepth 20000 in
theorem wLG_r19 : GoodIn lw_tbl wsL_law_r19 := goodIn_p _ [787, 792, 796, 471, 475, 804] (by decide +kernel) (by decide +kernel)
set_option maxRecDepth 20000 in
theorem wLG_r20 : GoodIn lw_tbl wsL_law_r20 := goodIn_p _ [480, 808, 484, 812, 488, 492] (by decide +kernel) (by decide +kernel)
set_option maxRecDepth 20000 in
theorem wLG_r21 : GoodIn lw_tbl wsL_law_r21 := goodIn_p _ [496, 816, 501, 505, 509] (by decide +kernel) (by decide +kernel)
set_option maxRecDepth 20000 in
theorem wLG_r22 : GoodIn lw_tbl wsL_law_r22 := goodIn_p _ [513, 519, 523, 527, 828] (by decide +kernel) (by decide +kernel)
set_option maxRecDepth 20000 in
theorem wLG_r23 : GoodIn lw_tbl wsL_law_r23 := goodIn_p _ [832, 836, 533, 848, 852] (by decide +kernel) (by decide +kernel)
set_option maxRecDepth 20000 in
theorem wLG_r24 : GoodIn lw_tbl wsL_law_r24 := goodIn_p _ [537, 541, 545, 549, 856, 861] (by decide +kernel) (by decide +kernel)
set_option maxRecDepth 20000 in
theorem wLG_r25 : GoodIn lw_tbl wsL_law_r25 := goodIn_p _ [553, 557, 562, 566, 865, 570] (by decide +kernel) (by decide +kernel)
set_option maxRecDepth 20000 in
theorem wLG_r26 : GoodIn lw_tbl wsL_law_r26 := goodIn_p _ [869, 574, 881, 580, 584] (by decide +kernel) (by decide +kernel)
set_option maxRecDepth 20000 in
theorem wLG_r27 : GoodIn lw_tbl wsL_law_r27 := goodIn_p _ [589, 885, 889] (by decide +kernel) (by decide +kernel)
set_option maxRecDepth 20000 in
theorem wLG_r28 : GoodIn lw_tbl wsL_law_r28 := goodIn_p _ [595, 599, 895, 603] (by decide +kernel) (by decide +kernel)
set_option maxRecDepth 20000 in
theorem wLG_r29 : GoodIn lw_tbl wsL_law_r29 := goodIn_p _ [899] (by decide +kernel) (by decide +kernel)
set_option maxRecDepth 20000 in
theorem wLG_x0 : GoodIn lw_tbl wsX00 := goodIn_p _ [] (by decide +kernel) (by decide +kernel)
set_option maxRecDepth 20000 in
theorem wLG_x1 : GoodIn lw_tbl wsX10 := goodIn_p _ [] (by decide +kernel) (by decide +kernel)
set_option maxRecDepth 20000 in
theorem wLG_x2 : GoodIn lw_tbl wsX20 := goodIn_p _ [] (by decide +kernel) (by decide +kernel)
set_option maxRecDepth 20000 in
theorem wLG_x3 : GoodIn lw_tbl wsX30 := goodIn_p _ [] (by decide +kernel) (by decide +kernel)
set_option maxRecDepth 20000 in
theorem wLG_x4 : GoodIn lw_tbl wsX40 := goodIn_p _ [] (by decide +kernel) (by decide +kernel)
set_option maxRecDepth 20000 in
theorem wLG_x5 : GoodIn lw_tbl wsX50 := goodIn_p _ [] (by decide +kernel) (by decide +kernel)
set_option maxRecDepth 20000 in
theorem wLG_x6 : GoodIn lw_tbl wsX60 := goodIn_p _ [] (by decide +kernel) (by decide +kernel)
theorem wLG : GoodIn lw_tbl wsL_law := goodIn_app (goodIn_app (goodIn_app (goodIn_app (goodIn_app (goodIn_app (goodIn_app (goodIn_app (goodIn_app wLG_r1 (goodIn_app wLG_r2 (goodIn_app wLG_r3 (goodIn_app wLG_r4 (goodIn_app wLG_r5 (goodIn_app wLG_r6 (goodIn_app wLG_r7 (goodIn_app wLG_r8 (goodIn_app wLG_r9 (goodIn_app wLG_r10 (goodIn_app wLG_r11 (goodIn_app wLG_r12 (goodIn_app wLG_r13 (goodIn_app wLG_r14 (goodIn_app wLG_r15 (goodIn_app wLG_r16 (goodIn_app wLG_r17 (goodIn_app wLG_r18 (goodIn_app wLG_r19 (goodIn_app wLG_r20 (goodIn_app wLG_r21 (goodIn_app wLG_r22 (goodIn_app wLG_r23 (goodIn_app wLG_r24 (goodIn_app wLG_r25 (goodIn_app wLG_r26 (goodIn_app wLG_r27 (goodIn_app wLG_r28 (wLG_r29))))))))))))))))))))))))))))) wLG_x5) wLG_x6) wLG_x3) wLG_x1) wLG_x2) wLG_x0) wLG_x4) (fun _ h => absurd h List.not_mem_nil)
theorem wsL_law_in : ∀ w ∈ wsL_law, w ∈ lw_tbl := fun w h => (wLG w h).1
theorem inlX0 : ∀ w ∈ wsX00, w ∈ wsL_law := fun _ h => List.mem_append_left _ (List.mem_append_left _ (List.mem_append_right _ h))
theorem inX0 : ∀ w ∈ wsX00, w ∈ lw_tbl := fun w h => wsL_law_in w (inlX0 w h)
theorem inlX1 : ∀ w ∈ wsX10, w ∈ wsL_law := fun _ h => List.mem_append_left _ (List.mem_append_left _ (List.mem_append_left _ (List.mem_append_left _ (List.mem_append_right _ h))))
theorem inX1 : ∀ w ∈ wsX10, w ∈ lw_tbl := fun w h => wsL_law_in w (inlX1 w h)
theorem inlX2 : ∀ w ∈ wsX20, w ∈ wsL_law := fun _ h => List.mem_append_left _ (List.mem_append_left _ (List.mem_append_left _ (List.mem_append_right _ h)))
theorem inX2 : ∀ w ∈ wsX20, w ∈ lw_tbl := fun w h => wsL_law_in w (inlX2 w h)
theorem inlX3 : ∀ w ∈ wsX30, w ∈ wsL_law := fun _ h => List.mem_append_left _ (List.mem_append_left _ (List.mem_append_left _ (List.mem_append_left _ (List.mem_append_left _ (List.mem_append_right _ h)))))
theorem inX3 : ∀ w ∈ wsX30, w ∈ lw_tbl := fun w h => wsL_law_in w (inlX3 w h)
theorem inlX4 : ∀ w ∈ wsX40, w ∈ wsL_law := fun _ h => List.mem_append_left _ (List.mem_append_right _ h)
theorem inX4 : ∀ w ∈ wsX40, w ∈ lw_tbl := fun w h => wsL_law_in w (inlX4 w h)
theorem inlX5 : ∀ w ∈ wsX50, w ∈ wsL_law := fun _ h => List.mem_append_left _ (List.mem_append_left _ (List.mem_append_left _ (List.mem_append_left _ (List.mem_append_left _ (List.mem_append_left _ (List.mem_append_left _ (List.mem_append_right _ h)))))))
theorem inX5 : ∀ w ∈ wsX50, w ∈ lw_tbl := fun w h => wsL_law_in w (inlX5 w h)
theorem inlX6 : ∀ w ∈ wsX60, w ∈ wsL_law := fun _ h => List.mem_append_left _ (List.mem_append_left _ (List.mem_append_left _ (List.mem_append_left _ (List.mem_append_left _ (List.mem_append_left _ (List.mem_append_right _ h))))))
theorem inX6 : ∀ w ∈ wsX60, w ∈ lw_tbl := fun w h => wsL_law_in w (inlX6 w h)
abbrev vwCl : List vw_C := [(RX0, TX0, 9), (RX1, TX1, 7), (RX2, TX2, 13), (RX3, TX3, 13), (RX4, TX4, 5), (RX5, TX5, 11), (RX6, TX6, 28)]
