section
-- ===== PART A: goes FIRST, ahead of the names: the tables' words, and 'selects' of the private methods out of them =====
/-- a private method of a class that the tables say can be made, by its rows of tables_1 -/
def lw_okq (q : MethodName × Nat) : Prop := (q.1.cls ≠ "java/lang/invoke/MethodHandle" ∧ q.1.cls ≠ "java/lang/invoke/VarHandle") ∧ Cond.instantiable q.1.cls q.2 ∈ tables_1 ∧ Cond.privateMethod q.1 ∈ tables_1 ∧ Cond.instanceMethod q.1 ∈ tables_1
theorem lw_p0 : lw_okq (⟨"CalledStalls", "refuse", "(I)I"⟩, 12) := ⟨⟨by decide +kernel, by decide +kernel⟩, List.mem_of_getElem? (i := 12) (by decide +kernel), List.mem_of_getElem? (i := 250) (by decide +kernel), List.mem_of_getElem? (i := 251) (by decide +kernel)⟩
theorem lw_p1 : lw_okq (⟨"CalledStalls", "refusalOfItem", "(LCalledStalls$Shelf;II)I"⟩, 12) := ⟨⟨by decide +kernel, by decide +kernel⟩, List.mem_of_getElem? (i := 12) (by decide +kernel), List.mem_of_getElem? (i := 263) (by decide +kernel), List.mem_of_getElem? (i := 264) (by decide +kernel)⟩
theorem lw_p2 : lw_okq (⟨"CalledStalls", "refusalOfPlace", "(LCalledStalls$Shelf;I)I"⟩, 12) := ⟨⟨by decide +kernel, by decide +kernel⟩, List.mem_of_getElem? (i := 12) (by decide +kernel), List.mem_of_getElem? (i := 267) (by decide +kernel), List.mem_of_getElem? (i := 268) (by decide +kernel)⟩
theorem lw_p3 : lw_okq (⟨"CalledStalls", "tell", "(I)I"⟩, 12) := ⟨⟨by decide +kernel, by decide +kernel⟩, List.mem_of_getElem? (i := 12) (by decide +kernel), List.mem_of_getElem? (i := 292) (by decide +kernel), List.mem_of_getElem? (i := 293) (by decide +kernel)⟩
theorem lw_p4 : lw_okq (⟨"CalledStalls$Script", "readLines", "(LCalledStalls$Shelf;II)I"⟩, 10) := ⟨⟨by decide +kernel, by decide +kernel⟩, List.mem_of_getElem? (i := 39) (by decide +kernel), List.mem_of_getElem? (i := 353) (by decide +kernel), List.mem_of_getElem? (i := 354) (by decide +kernel)⟩
theorem lw_p5 : lw_okq (⟨"CalledStalls$Script", "readSitter", "(LCalledStalls$Shelf;II)I"⟩, 10) := ⟨⟨by decide +kernel, by decide +kernel⟩, List.mem_of_getElem? (i := 39) (by decide +kernel), List.mem_of_getElem? (i := 357) (by decide +kernel), List.mem_of_getElem? (i := 358) (by decide +kernel)⟩
theorem lw_p6 : lw_okq (⟨"CalledStalls$Night", "saysNow", "(I)I"⟩, 10) := ⟨⟨by decide +kernel, by decide +kernel⟩, List.mem_of_getElem? (i := 91) (by decide +kernel), List.mem_of_getElem? (i := 400) (by decide +kernel), List.mem_of_getElem? (i := 401) (by decide +kernel)⟩
theorem lw_p7 : lw_okq (⟨"CalledStalls$Night", "scenesWithoutPrompt", "(I)I"⟩, 10) := ⟨⟨by decide +kernel, by decide +kernel⟩, List.mem_of_getElem? (i := 91) (by decide +kernel), List.mem_of_getElem? (i := 438) (by decide +kernel), List.mem_of_getElem? (i := 439) (by decide +kernel)⟩
theorem lw_p8 : lw_okq (⟨"CalledStalls$Night", "othersInEvenSeats", "(I)I"⟩, 10) := ⟨⟨by decide +kernel, by decide +kernel⟩, List.mem_of_getElem? (i := 91) (by decide +kernel), List.mem_of_getElem? (i := 450) (by decide +kernel), List.mem_of_getElem? (i := 451) (by decide +kernel)⟩
theorem lw_p9 : lw_okq (⟨"CalledStalls$Night", "exchange", "(II)V"⟩, 10) := ⟨⟨by decide +kernel, by decide +kernel⟩, List.mem_of_getElem? (i := 91) (by decide +kernel), List.mem_of_getElem? (i := 477) (by decide +kernel), List.mem_of_getElem? (i := 478) (by decide +kernel)⟩
theorem lw_p10 : lw_okq (⟨"CalledStalls$Night", "playScene", "(I)V"⟩, 10) := ⟨⟨by decide +kernel, by decide +kernel⟩, List.mem_of_getElem? (i := 91) (by decide +kernel), List.mem_of_getElem? (i := 481) (by decide +kernel), List.mem_of_getElem? (i := 482) (by decide +kernel)⟩
theorem lw_p11 : lw_okq (⟨"CalledStalls", "isPlan", "(I)Z"⟩, 12) := ⟨⟨by decide +kernel, by decide +kernel⟩, List.mem_of_getElem? (i := 12) (by decide +kernel), List.mem_of_getElem? (i := 517) (by decide +kernel), List.mem_of_getElem? (i := 518) (by decide +kernel)⟩
theorem lw_p12 : lw_okq (⟨"CalledStalls$Search", "seekMost", "(IIIII)V"⟩, 16) := ⟨⟨by decide +kernel, by decide +kernel⟩, List.mem_of_getElem? (i := 141) (by decide +kernel), List.mem_of_getElem? (i := 543) (by decide +kernel), List.mem_of_getElem? (i := 544) (by decide +kernel)⟩
theorem lw_p13 : lw_okq (⟨"CalledStalls$Search", "hope", "(II)I"⟩, 16) := ⟨⟨by decide +kernel, by decide +kernel⟩, List.mem_of_getElem? (i := 141) (by decide +kernel), List.mem_of_getElem? (i := 548) (by decide +kernel), List.mem_of_getElem? (i := 549) (by decide +kernel)⟩
theorem lw_p14 : lw_okq (⟨"CalledStalls$Search", "freeCount", "(I)I"⟩, 16) := ⟨⟨by decide +kernel, by decide +kernel⟩, List.mem_of_getElem? (i := 141) (by decide +kernel), List.mem_of_getElem? (i := 552) (by decide +kernel), List.mem_of_getElem? (i := 553) (by decide +kernel)⟩
theorem lw_p15 : lw_okq (⟨"CalledStalls$Search", "isFree", "(II)Z"⟩, 16) := ⟨⟨by decide +kernel, by decide +kernel⟩, List.mem_of_getElem? (i := 141) (by decide +kernel), List.mem_of_getElem? (i := 560) (by decide +kernel), List.mem_of_getElem? (i := 561) (by decide +kernel)⟩
def lw_privs_1 : List (MethodName × Nat) := [(⟨"CalledStalls", "refuse", "(I)I"⟩, 12), (⟨"CalledStalls", "refusalOfItem", "(LCalledStalls$Shelf;II)I"⟩, 12), (⟨"CalledStalls", "refusalOfPlace", "(LCalledStalls$Shelf;I)I"⟩, 12), (⟨"CalledStalls", "tell", "(I)I"⟩, 12), (⟨"CalledStalls$Script", "readLines", "(LCalledStalls$Shelf;II)I"⟩, 10), (⟨"CalledStalls$Script", "readSitter", "(LCalledStalls$Shelf;II)I"⟩, 10), (⟨"CalledStalls$Night", "saysNow", "(I)I"⟩, 10), (⟨"CalledStalls$Night", "scenesWithoutPrompt", "(I)I"⟩, 10), (⟨"CalledStalls$Night", "othersInEvenSeats", "(I)I"⟩, 10), (⟨"CalledStalls$Night", "exchange", "(II)V"⟩, 10), (⟨"CalledStalls$Night", "playScene", "(I)V"⟩, 10), (⟨"CalledStalls", "isPlan", "(I)Z"⟩, 12), (⟨"CalledStalls$Search", "seekMost", "(IIIII)V"⟩, 16), (⟨"CalledStalls$Search", "hope", "(II)I"⟩, 16), (⟨"CalledStalls$Search", "freeCount", "(I)I"⟩, 16), (⟨"CalledStalls$Search", "isFree", "(II)Z"⟩, 16)]
theorem lw_r1 : ∀ q ∈ lw_privs_1, lw_okq q := List.forall_mem_cons.mpr ⟨lw_p0, List.forall_mem_cons.mpr ⟨lw_p1, List.forall_mem_cons.mpr ⟨lw_p2, List.forall_mem_cons.mpr ⟨lw_p3, List.forall_mem_cons.mpr ⟨lw_p4, List.forall_mem_cons.mpr ⟨lw_p5, List.forall_mem_cons.mpr ⟨lw_p6, List.forall_mem_cons.mpr ⟨lw_p7, List.forall_mem_cons.mpr ⟨lw_p8, List.forall_mem_cons.mpr ⟨lw_p9, List.forall_mem_cons.mpr ⟨lw_p10, List.forall_mem_cons.mpr ⟨lw_p11, List.forall_mem_cons.mpr ⟨lw_p12, List.forall_mem_cons.mpr ⟨lw_p13, List.forall_mem_cons.mpr ⟨lw_p14, List.forall_mem_cons.mpr ⟨lw_p15, fun _ h => absurd h List.not_mem_nil⟩⟩⟩⟩⟩⟩⟩⟩⟩⟩⟩⟩⟩⟩⟩⟩
theorem lw_p16 : lw_okq (⟨"CalledStalls$Search", "seekBest", "(IIIII)V"⟩, 16) := ⟨⟨by decide +kernel, by decide +kernel⟩, List.mem_of_getElem? (i := 141) (by decide +kernel), List.mem_of_getElem? (i := 569) (by decide +kernel), List.mem_of_getElem? (i := 570) (by decide +kernel)⟩
theorem lw_p17 : lw_okq (⟨"CalledStalls$Search", "seekLeast", "(IIII)V"⟩, 16) := ⟨⟨by decide +kernel, by decide +kernel⟩, List.mem_of_getElem? (i := 141) (by decide +kernel), List.mem_of_getElem? (i := 587) (by decide +kernel), List.mem_of_getElem? (i := 588) (by decide +kernel)⟩
theorem lw_p18 : lw_okq (⟨"CalledStalls$Search", "seekWays", "(IIIII)V"⟩, 16) := ⟨⟨by decide +kernel, by decide +kernel⟩, List.mem_of_getElem? (i := 141) (by decide +kernel), List.mem_of_getElem? (i := 599) (by decide +kernel), List.mem_of_getElem? (i := 600) (by decide +kernel)⟩
theorem lw_p19 : lw_okq (⟨"CalledStalls$Search", "plansFor", "(II)I"⟩, 16) := ⟨⟨by decide +kernel, by decide +kernel⟩, List.mem_of_getElem? (i := 141) (by decide +kernel), List.mem_of_getElem? (i := 603) (by decide +kernel), List.mem_of_getElem? (i := 604) (by decide +kernel)⟩
theorem lw_p20 : lw_okq (⟨"CalledStalls", "tellFraction", "(JJ)V"⟩, 12) := ⟨⟨by decide +kernel, by decide +kernel⟩, List.mem_of_getElem? (i := 12) (by decide +kernel), List.mem_of_getElem? (i := 607) (by decide +kernel), List.mem_of_getElem? (i := 608) (by decide +kernel)⟩
theorem lw_p21 : lw_okq (⟨"CalledStalls", "refusalOfNotices", "(II)I"⟩, 12) := ⟨⟨by decide +kernel, by decide +kernel⟩, List.mem_of_getElem? (i := 12) (by decide +kernel), List.mem_of_getElem? (i := 646) (by decide +kernel), List.mem_of_getElem? (i := 647) (by decide +kernel)⟩
theorem lw_p22 : lw_okq (⟨"CalledStalls", "areNotices", "(I)Z"⟩, 12) := ⟨⟨by decide +kernel, by decide +kernel⟩, List.mem_of_getElem? (i := 12) (by decide +kernel), List.mem_of_getElem? (i := 650) (by decide +kernel), List.mem_of_getElem? (i := 651) (by decide +kernel)⟩
theorem lw_p23 : lw_okq (⟨"CalledStalls", "fitsNotices", "(IIIII)Z"⟩, 12) := ⟨⟨by decide +kernel, by decide +kernel⟩, List.mem_of_getElem? (i := 12) (by decide +kernel), List.mem_of_getElem? (i := 655) (by decide +kernel), List.mem_of_getElem? (i := 656) (by decide +kernel)⟩
theorem lw_p24 : lw_okq (⟨"CalledStalls$Search", "duelFrom", "(IIIIIZ)I"⟩, 16) := ⟨⟨by decide +kernel, by decide +kernel⟩, List.mem_of_getElem? (i := 141) (by decide +kernel), List.mem_of_getElem? (i := 677) (by decide +kernel), List.mem_of_getElem? (i := 678) (by decide +kernel)⟩
theorem lw_p25 : lw_okq (⟨"CalledStalls$Search", "seekDraws", "(IIIII)V"⟩, 16) := ⟨⟨by decide +kernel, by decide +kernel⟩, List.mem_of_getElem? (i := 141) (by decide +kernel), List.mem_of_getElem? (i := 689) (by decide +kernel), List.mem_of_getElem? (i := 690) (by decide +kernel)⟩
theorem lw_p26 : lw_okq (⟨"CalledStalls", "countOf", "(I)I"⟩, 12) := ⟨⟨by decide +kernel, by decide +kernel⟩, List.mem_of_getElem? (i := 12) (by decide +kernel), List.mem_of_getElem? (i := 727) (by decide +kernel), List.mem_of_getElem? (i := 728) (by decide +kernel)⟩
theorem lw_p27 : lw_okq (⟨"CalledStallsModel", "find", "(I)I"⟩, 33) := ⟨⟨by decide +kernel, by decide +kernel⟩, List.mem_of_getElem? (i := 765) (by decide +kernel), List.mem_of_getElem? (i := 882) (by decide +kernel), List.mem_of_getElem? (i := 883) (by decide +kernel)⟩
theorem lw_p28 : lw_okq (⟨"CalledStallsModel", "makeRow", "(II)V"⟩, 33) := ⟨⟨by decide +kernel, by decide +kernel⟩, List.mem_of_getElem? (i := 765) (by decide +kernel), List.mem_of_getElem? (i := 886) (by decide +kernel), List.mem_of_getElem? (i := 887) (by decide +kernel)⟩
theorem lw_p29 : lw_okq (⟨"CalledStallsModel", "refused", "(II)I"⟩, 33) := ⟨⟨by decide +kernel, by decide +kernel⟩, List.mem_of_getElem? (i := 765) (by decide +kernel), List.mem_of_getElem? (i := 894) (by decide +kernel), List.mem_of_getElem? (i := 895) (by decide +kernel)⟩
theorem lw_p30 : lw_okq (⟨"CalledStallsModel", "tell", "(I)I"⟩, 33) := ⟨⟨by decide +kernel, by decide +kernel⟩, List.mem_of_getElem? (i := 765) (by decide +kernel), List.mem_of_getElem? (i := 898) (by decide +kernel), List.mem_of_getElem? (i := 899) (by decide +kernel)⟩
theorem lw_p31 : lw_okq (⟨"CalledStallsModel", "isSpan", "(III)Z"⟩, 33) := ⟨⟨by decide +kernel, by decide +kernel⟩, List.mem_of_getElem? (i := 765) (by decide +kernel), List.mem_of_getElem? (i := 914) (by decide +kernel), List.mem_of_getElem? (i := 915) (by decide +kernel)⟩
def lw_privs_2 : List (MethodName × Nat) := [(⟨"CalledStalls$Search", "seekBest", "(IIIII)V"⟩, 16), (⟨"CalledStalls$Search", "seekLeast", "(IIII)V"⟩, 16), (⟨"CalledStalls$Search", "seekWays", "(IIIII)V"⟩, 16), (⟨"CalledStalls$Search", "plansFor", "(II)I"⟩, 16), (⟨"CalledStalls", "tellFraction", "(JJ)V"⟩, 12), (⟨"CalledStalls", "refusalOfNotices", "(II)I"⟩, 12), (⟨"CalledStalls", "areNotices", "(I)Z"⟩, 12), (⟨"CalledStalls", "fitsNotices", "(IIIII)Z"⟩, 12), (⟨"CalledStalls$Search", "duelFrom", "(IIIIIZ)I"⟩, 16), (⟨"CalledStalls$Search", "seekDraws", "(IIIII)V"⟩, 16), (⟨"CalledStalls", "countOf", "(I)I"⟩, 12), (⟨"CalledStallsModel", "find", "(I)I"⟩, 33), (⟨"CalledStallsModel", "makeRow", "(II)V"⟩, 33), (⟨"CalledStallsModel", "refused", "(II)I"⟩, 33), (⟨"CalledStallsModel", "tell", "(I)I"⟩, 33), (⟨"CalledStallsModel", "isSpan", "(III)Z"⟩, 33)]
theorem lw_r2 : ∀ q ∈ lw_privs_2, lw_okq q := List.forall_mem_cons.mpr ⟨lw_p16, List.forall_mem_cons.mpr ⟨lw_p17, List.forall_mem_cons.mpr ⟨lw_p18, List.forall_mem_cons.mpr ⟨lw_p19, List.forall_mem_cons.mpr ⟨lw_p20, List.forall_mem_cons.mpr ⟨lw_p21, List.forall_mem_cons.mpr ⟨lw_p22, List.forall_mem_cons.mpr ⟨lw_p23, List.forall_mem_cons.mpr ⟨lw_p24, List.forall_mem_cons.mpr ⟨lw_p25, List.forall_mem_cons.mpr ⟨lw_p26, List.forall_mem_cons.mpr ⟨lw_p27, List.forall_mem_cons.mpr ⟨lw_p28, List.forall_mem_cons.mpr ⟨lw_p29, List.forall_mem_cons.mpr ⟨lw_p30, List.forall_mem_cons.mpr ⟨lw_p31, fun _ h => absurd h List.not_mem_nil⟩⟩⟩⟩⟩⟩⟩⟩⟩⟩⟩⟩⟩⟩⟩⟩
theorem lw_p32 : lw_okq (⟨"CalledStallsModel", "faultOf", "(I)I"⟩, 33) := ⟨⟨by decide +kernel, by decide +kernel⟩, List.mem_of_getElem? (i := 765) (by decide +kernel), List.mem_of_getElem? (i := 938) (by decide +kernel), List.mem_of_getElem? (i := 939) (by decide +kernel)⟩
theorem lw_p33 : lw_okq (⟨"CalledStallsModel", "readsPlay", "()Z"⟩, 33) := ⟨⟨by decide +kernel, by decide +kernel⟩, List.mem_of_getElem? (i := 765) (by decide +kernel), List.mem_of_getElem? (i := 942) (by decide +kernel), List.mem_of_getElem? (i := 943) (by decide +kernel)⟩
theorem lw_p34 : lw_okq (⟨"CalledStallsModel", "skip", "()V"⟩, 33) := ⟨⟨by decide +kernel, by decide +kernel⟩, List.mem_of_getElem? (i := 765) (by decide +kernel), List.mem_of_getElem? (i := 946) (by decide +kernel), List.mem_of_getElem? (i := 947) (by decide +kernel)⟩
theorem lw_p35 : lw_okq (⟨"CalledStallsModel", "here", "()I"⟩, 33) := ⟨⟨by decide +kernel, by decide +kernel⟩, List.mem_of_getElem? (i := 765) (by decide +kernel), List.mem_of_getElem? (i := 950) (by decide +kernel), List.mem_of_getElem? (i := 951) (by decide +kernel)⟩
theorem lw_p36 : lw_okq (⟨"CalledStallsModel", "figure", "(II)I"⟩, 33) := ⟨⟨by decide +kernel, by decide +kernel⟩, List.mem_of_getElem? (i := 765) (by decide +kernel), List.mem_of_getElem? (i := 954) (by decide +kernel), List.mem_of_getElem? (i := 955) (by decide +kernel)⟩
theorem lw_p37 : lw_okq (⟨"CalledStallsModel", "isFigure", "(II)Z"⟩, 33) := ⟨⟨by decide +kernel, by decide +kernel⟩, List.mem_of_getElem? (i := 765) (by decide +kernel), List.mem_of_getElem? (i := 958) (by decide +kernel), List.mem_of_getElem? (i := 959) (by decide +kernel)⟩
theorem lw_p38 : lw_okq (⟨"CalledStallsModel", "readsSitter", "()Z"⟩, 33) := ⟨⟨by decide +kernel, by decide +kernel⟩, List.mem_of_getElem? (i := 765) (by decide +kernel), List.mem_of_getElem? (i := 962) (by decide +kernel), List.mem_of_getElem? (i := 963) (by decide +kernel)⟩
theorem lw_p39 : lw_okq (⟨"CalledStallsModel", "isSitter", "(I)Z"⟩, 33) := ⟨⟨by decide +kernel, by decide +kernel⟩, List.mem_of_getElem? (i := 765) (by decide +kernel), List.mem_of_getElem? (i := 980) (by decide +kernel), List.mem_of_getElem? (i := 981) (by decide +kernel)⟩
theorem lw_p40 : lw_okq (⟨"CalledStallsModel", "toldOf", "(II)I"⟩, 33) := ⟨⟨by decide +kernel, by decide +kernel⟩, List.mem_of_getElem? (i := 765) (by decide +kernel), List.mem_of_getElem? (i := 985) (by decide +kernel), List.mem_of_getElem? (i := 986) (by decide +kernel)⟩
theorem lw_p41 : lw_okq (⟨"CalledStallsModel", "saysNow", "(I)I"⟩, 33) := ⟨⟨by decide +kernel, by decide +kernel⟩, List.mem_of_getElem? (i := 765) (by decide +kernel), List.mem_of_getElem? (i := 998) (by decide +kernel), List.mem_of_getElem? (i := 999) (by decide +kernel)⟩
theorem lw_p42 : lw_okq (⟨"CalledStallsModel", "saysOf", "(III)I"⟩, 33) := ⟨⟨by decide +kernel, by decide +kernel⟩, List.mem_of_getElem? (i := 765) (by decide +kernel), List.mem_of_getElem? (i := 1002) (by decide +kernel), List.mem_of_getElem? (i := 1003) (by decide +kernel)⟩
theorem lw_p43 : lw_okq (⟨"CalledStallsModel", "claques", "(II)I"⟩, 33) := ⟨⟨by decide +kernel, by decide +kernel⟩, List.mem_of_getElem? (i := 765) (by decide +kernel), List.mem_of_getElem? (i := 1006) (by decide +kernel), List.mem_of_getElem? (i := 1007) (by decide +kernel)⟩
theorem lw_p44 : lw_okq (⟨"CalledStallsModel", "mayCall", "(II)Z"⟩, 33) := ⟨⟨by decide +kernel, by decide +kernel⟩, List.mem_of_getElem? (i := 765) (by decide +kernel), List.mem_of_getElem? (i := 1016) (by decide +kernel), List.mem_of_getElem? (i := 1017) (by decide +kernel)⟩
theorem lw_p45 : lw_okq (⟨"CalledStallsModel", "canSit", "(I)Z"⟩, 33) := ⟨⟨by decide +kernel, by decide +kernel⟩, List.mem_of_getElem? (i := 765) (by decide +kernel), List.mem_of_getElem? (i := 1020) (by decide +kernel), List.mem_of_getElem? (i := 1021) (by decide +kernel)⟩
theorem lw_p46 : lw_okq (⟨"CalledStallsModel", "isOf", "(II)Z"⟩, 33) := ⟨⟨by decide +kernel, by decide +kernel⟩, List.mem_of_getElem? (i := 765) (by decide +kernel), List.mem_of_getElem? (i := 1028) (by decide +kernel), List.mem_of_getElem? (i := 1029) (by decide +kernel)⟩
theorem lw_p47 : lw_okq (⟨"CalledStallsModel", "easyScenes", "(I)I"⟩, 33) := ⟨⟨by decide +kernel, by decide +kernel⟩, List.mem_of_getElem? (i := 765) (by decide +kernel), List.mem_of_getElem? (i := 1032) (by decide +kernel), List.mem_of_getElem? (i := 1033) (by decide +kernel)⟩
def lw_privs_3 : List (MethodName × Nat) := [(⟨"CalledStallsModel", "faultOf", "(I)I"⟩, 33), (⟨"CalledStallsModel", "readsPlay", "()Z"⟩, 33), (⟨"CalledStallsModel", "skip", "()V"⟩, 33), (⟨"CalledStallsModel", "here", "()I"⟩, 33), (⟨"CalledStallsModel", "figure", "(II)I"⟩, 33), (⟨"CalledStallsModel", "isFigure", "(II)Z"⟩, 33), (⟨"CalledStallsModel", "readsSitter", "()Z"⟩, 33), (⟨"CalledStallsModel", "isSitter", "(I)Z"⟩, 33), (⟨"CalledStallsModel", "toldOf", "(II)I"⟩, 33), (⟨"CalledStallsModel", "saysNow", "(I)I"⟩, 33), (⟨"CalledStallsModel", "saysOf", "(III)I"⟩, 33), (⟨"CalledStallsModel", "claques", "(II)I"⟩, 33), (⟨"CalledStallsModel", "mayCall", "(II)Z"⟩, 33), (⟨"CalledStallsModel", "canSit", "(I)Z"⟩, 33), (⟨"CalledStallsModel", "isOf", "(II)Z"⟩, 33), (⟨"CalledStallsModel", "easyScenes", "(I)I"⟩, 33)]
theorem lw_r3 : ∀ q ∈ lw_privs_3, lw_okq q := List.forall_mem_cons.mpr ⟨lw_p32, List.forall_mem_cons.mpr ⟨lw_p33, List.forall_mem_cons.mpr ⟨lw_p34, List.forall_mem_cons.mpr ⟨lw_p35, List.forall_mem_cons.mpr ⟨lw_p36, List.forall_mem_cons.mpr ⟨lw_p37, List.forall_mem_cons.mpr ⟨lw_p38, List.forall_mem_cons.mpr ⟨lw_p39, List.forall_mem_cons.mpr ⟨lw_p40, List.forall_mem_cons.mpr ⟨lw_p41, List.forall_mem_cons.mpr ⟨lw_p42, List.forall_mem_cons.mpr ⟨lw_p43, List.forall_mem_cons.mpr ⟨lw_p44, List.forall_mem_cons.mpr ⟨lw_p45, List.forall_mem_cons.mpr ⟨lw_p46, List.forall_mem_cons.mpr ⟨lw_p47, fun _ h => absurd h List.not_mem_nil⟩⟩⟩⟩⟩⟩⟩⟩⟩⟩⟩⟩⟩⟩⟩⟩
theorem lw_p48 : lw_okq (⟨"CalledStallsModel", "evenOthers", "(I)I"⟩, 33) := ⟨⟨by decide +kernel, by decide +kernel⟩, List.mem_of_getElem? (i := 765) (by decide +kernel), List.mem_of_getElem? (i := 1036) (by decide +kernel), List.mem_of_getElem? (i := 1037) (by decide +kernel)⟩
theorem lw_p49 : lw_okq (⟨"CalledStallsModel", "isOver", "()Z"⟩, 33) := ⟨⟨by decide +kernel, by decide +kernel⟩, List.mem_of_getElem? (i := 765) (by decide +kernel), List.mem_of_getElem? (i := 1048) (by decide +kernel), List.mem_of_getElem? (i := 1049) (by decide +kernel)⟩
theorem lw_p50 : lw_okq (⟨"CalledStallsModel", "lacking", "(IIII)I"⟩, 33) := ⟨⟨by decide +kernel, by decide +kernel⟩, List.mem_of_getElem? (i := 765) (by decide +kernel), List.mem_of_getElem? (i := 1052) (by decide +kernel), List.mem_of_getElem? (i := 1053) (by decide +kernel)⟩
theorem lw_p51 : lw_okq (⟨"CalledStallsModel", "doCall", "(I)I"⟩, 33) := ⟨⟨by decide +kernel, by decide +kernel⟩, List.mem_of_getElem? (i := 765) (by decide +kernel), List.mem_of_getElem? (i := 1056) (by decide +kernel), List.mem_of_getElem? (i := 1057) (by decide +kernel)⟩
theorem lw_p52 : lw_okq (⟨"CalledStallsModel", "keepPast", "()V"⟩, 33) := ⟨⟨by decide +kernel, by decide +kernel⟩, List.mem_of_getElem? (i := 765) (by decide +kernel), List.mem_of_getElem? (i := 1060) (by decide +kernel), List.mem_of_getElem? (i := 1061) (by decide +kernel)⟩
theorem lw_p53 : lw_okq (⟨"CalledStallsModel", "doCut", "()V"⟩, 33) := ⟨⟨by decide +kernel, by decide +kernel⟩, List.mem_of_getElem? (i := 765) (by decide +kernel), List.mem_of_getElem? (i := 1068) (by decide +kernel), List.mem_of_getElem? (i := 1069) (by decide +kernel)⟩
theorem lw_p54 : lw_okq (⟨"CalledStallsModel", "swapSeats", "(II)V"⟩, 33) := ⟨⟨by decide +kernel, by decide +kernel⟩, List.mem_of_getElem? (i := 765) (by decide +kernel), List.mem_of_getElem? (i := 1076) (by decide +kernel), List.mem_of_getElem? (i := 1077) (by decide +kernel)⟩
theorem lw_p55 : lw_okq (⟨"CalledStallsModel", "canBits", "(I)I"⟩, 33) := ⟨⟨by decide +kernel, by decide +kernel⟩, List.mem_of_getElem? (i := 765) (by decide +kernel), List.mem_of_getElem? (i := 1080) (by decide +kernel), List.mem_of_getElem? (i := 1081) (by decide +kernel)⟩
theorem lw_p56 : lw_okq (⟨"CalledStallsModel", "copyHouse", "(II)V"⟩, 33) := ⟨⟨by decide +kernel, by decide +kernel⟩, List.mem_of_getElem? (i := 765) (by decide +kernel), List.mem_of_getElem? (i := 1096) (by decide +kernel), List.mem_of_getElem? (i := 1097) (by decide +kernel)⟩
theorem lw_p57 : lw_okq (⟨"CalledStallsModel", "noPlan", "(I)I"⟩, 33) := ⟨⟨by decide +kernel, by decide +kernel⟩, List.mem_of_getElem? (i := 765) (by decide +kernel), List.mem_of_getElem? (i := 1112) (by decide +kernel), List.mem_of_getElem? (i := 1113) (by decide +kernel)⟩
theorem lw_p58 : lw_okq (⟨"CalledStallsModel", "beginPlans", "(I)V"⟩, 33) := ⟨⟨by decide +kernel, by decide +kernel⟩, List.mem_of_getElem? (i := 765) (by decide +kernel), List.mem_of_getElem? (i := 1116) (by decide +kernel), List.mem_of_getElem? (i := 1117) (by decide +kernel)⟩
theorem lw_p59 : lw_okq (⟨"CalledStallsModel", "choose", "(II)V"⟩, 33) := ⟨⟨by decide +kernel, by decide +kernel⟩, List.mem_of_getElem? (i := 765) (by decide +kernel), List.mem_of_getElem? (i := 1120) (by decide +kernel), List.mem_of_getElem? (i := 1121) (by decide +kernel)⟩
theorem lw_p60 : lw_okq (⟨"CalledStallsModel", "nextPlan", "()Z"⟩, 33) := ⟨⟨by decide +kernel, by decide +kernel⟩, List.mem_of_getElem? (i := 765) (by decide +kernel), List.mem_of_getElem? (i := 1128) (by decide +kernel), List.mem_of_getElem? (i := 1129) (by decide +kernel)⟩
theorem lw_p61 : lw_okq (⟨"CalledStallsModel", "nextChoice", "(II)I"⟩, 33) := ⟨⟨by decide +kernel, by decide +kernel⟩, List.mem_of_getElem? (i := 765) (by decide +kernel), List.mem_of_getElem? (i := 1132) (by decide +kernel), List.mem_of_getElem? (i := 1133) (by decide +kernel)⟩
theorem lw_p62 : lw_okq (⟨"CalledStallsModel", "mostCarried", "()I"⟩, 33) := ⟨⟨by decide +kernel, by decide +kernel⟩, List.mem_of_getElem? (i := 765) (by decide +kernel), List.mem_of_getElem? (i := 1149) (by decide +kernel), List.mem_of_getElem? (i := 1150) (by decide +kernel)⟩
theorem lw_p63 : lw_okq (⟨"CalledStallsModel", "seatsOf", "(I)I"⟩, 33) := ⟨⟨by decide +kernel, by decide +kernel⟩, List.mem_of_getElem? (i := 765) (by decide +kernel), List.mem_of_getElem? (i := 1157) (by decide +kernel), List.mem_of_getElem? (i := 1158) (by decide +kernel)⟩
def lw_privs_4 : List (MethodName × Nat) := [(⟨"CalledStallsModel", "evenOthers", "(I)I"⟩, 33), (⟨"CalledStallsModel", "isOver", "()Z"⟩, 33), (⟨"CalledStallsModel", "lacking", "(IIII)I"⟩, 33), (⟨"CalledStallsModel", "doCall", "(I)I"⟩, 33), (⟨"CalledStallsModel", "keepPast", "()V"⟩, 33), (⟨"CalledStallsModel", "doCut", "()V"⟩, 33), (⟨"CalledStallsModel", "swapSeats", "(II)V"⟩, 33), (⟨"CalledStallsModel", "canBits", "(I)I"⟩, 33), (⟨"CalledStallsModel", "copyHouse", "(II)V"⟩, 33), (⟨"CalledStallsModel", "noPlan", "(I)I"⟩, 33), (⟨"CalledStallsModel", "beginPlans", "(I)V"⟩, 33), (⟨"CalledStallsModel", "choose", "(II)V"⟩, 33), (⟨"CalledStallsModel", "nextPlan", "()Z"⟩, 33), (⟨"CalledStallsModel", "nextChoice", "(II)I"⟩, 33), (⟨"CalledStallsModel", "mostCarried", "()I"⟩, 33), (⟨"CalledStallsModel", "seatsOf", "(I)I"⟩, 33)]
theorem lw_r4 : ∀ q ∈ lw_privs_4, lw_okq q := List.forall_mem_cons.mpr ⟨lw_p48, List.forall_mem_cons.mpr ⟨lw_p49, List.forall_mem_cons.mpr ⟨lw_p50, List.forall_mem_cons.mpr ⟨lw_p51, List.forall_mem_cons.mpr ⟨lw_p52, List.forall_mem_cons.mpr ⟨lw_p53, List.forall_mem_cons.mpr ⟨lw_p54, List.forall_mem_cons.mpr ⟨lw_p55, List.forall_mem_cons.mpr ⟨lw_p56, List.forall_mem_cons.mpr ⟨lw_p57, List.forall_mem_cons.mpr ⟨lw_p58, List.forall_mem_cons.mpr ⟨lw_p59, List.forall_mem_cons.mpr ⟨lw_p60, List.forall_mem_cons.mpr ⟨lw_p61, List.forall_mem_cons.mpr ⟨lw_p62, List.forall_mem_cons.mpr ⟨lw_p63, fun _ h => absurd h List.not_mem_nil⟩⟩⟩⟩⟩⟩⟩⟩⟩⟩⟩⟩⟩⟩⟩⟩
theorem lw_p64 : lw_okq (⟨"CalledStallsModel", "noNotices", "(I)I"⟩, 33) := ⟨⟨by decide +kernel, by decide +kernel⟩, List.mem_of_getElem? (i := 765) (by decide +kernel), List.mem_of_getElem? (i := 1169) (by decide +kernel), List.mem_of_getElem? (i := 1170) (by decide +kernel)⟩
theorem lw_p65 : lw_okq (⟨"CalledStallsModel", "isNoticed", "(IIIII)Z"⟩, 33) := ⟨⟨by decide +kernel, by decide +kernel⟩, List.mem_of_getElem? (i := 765) (by decide +kernel), List.mem_of_getElem? (i := 1176) (by decide +kernel), List.mem_of_getElem? (i := 1177) (by decide +kernel)⟩
theorem lw_p66 : lw_okq (⟨"CalledStallsModel", "beginTurn", "(I)V"⟩, 33) := ⟨⟨by decide +kernel, by decide +kernel⟩, List.mem_of_getElem? (i := 765) (by decide +kernel), List.mem_of_getElem? (i := 1193) (by decide +kernel), List.mem_of_getElem? (i := 1194) (by decide +kernel)⟩
theorem lw_p67 : lw_okq (⟨"CalledStallsModel", "take", "(II)V"⟩, 33) := ⟨⟨by decide +kernel, by decide +kernel⟩, List.mem_of_getElem? (i := 765) (by decide +kernel), List.mem_of_getElem? (i := 1197) (by decide +kernel), List.mem_of_getElem? (i := 1198) (by decide +kernel)⟩
theorem lw_p68 : lw_okq (⟨"CalledStallsModel", "isDrawn", "()Z"⟩, 33) := ⟨⟨by decide +kernel, by decide +kernel⟩, List.mem_of_getElem? (i := 765) (by decide +kernel), List.mem_of_getElem? (i := 1205) (by decide +kernel), List.mem_of_getElem? (i := 1206) (by decide +kernel)⟩
theorem lw_p69 : lw_okq (⟨"CalledStallsModel", "tellParts", "(JJ)I"⟩, 33) := ⟨⟨by decide +kernel, by decide +kernel⟩, List.mem_of_getElem? (i := 765) (by decide +kernel), List.mem_of_getElem? (i := 1209) (by decide +kernel), List.mem_of_getElem? (i := 1210) (by decide +kernel)⟩
theorem lw_p70 : lw_okq (⟨"CalledStallsModel", "countOf", "(I)I"⟩, 33) := ⟨⟨by decide +kernel, by decide +kernel⟩, List.mem_of_getElem? (i := 765) (by decide +kernel), List.mem_of_getElem? (i := 1248) (by decide +kernel), List.mem_of_getElem? (i := 1249) (by decide +kernel)⟩
theorem lw_p71 : lw_okq (⟨"CalledStallsModel", "clerks", "()I"⟩, 33) := ⟨⟨by decide +kernel, by decide +kernel⟩, List.mem_of_getElem? (i := 765) (by decide +kernel), List.mem_of_getElem? (i := 1252) (by decide +kernel), List.mem_of_getElem? (i := 1253) (by decide +kernel)⟩
theorem lw_p72 : lw_okq (⟨"CalledStallsModel", "thereOf", "(I)I"⟩, 33) := ⟨⟨by decide +kernel, by decide +kernel⟩, List.mem_of_getElem? (i := 765) (by decide +kernel), List.mem_of_getElem? (i := 1256) (by decide +kernel), List.mem_of_getElem? (i := 1257) (by decide +kernel)⟩
def lw_privs_5 : List (MethodName × Nat) := [(⟨"CalledStallsModel", "noNotices", "(I)I"⟩, 33), (⟨"CalledStallsModel", "isNoticed", "(IIIII)Z"⟩, 33), (⟨"CalledStallsModel", "beginTurn", "(I)V"⟩, 33), (⟨"CalledStallsModel", "take", "(II)V"⟩, 33), (⟨"CalledStallsModel", "isDrawn", "()Z"⟩, 33), (⟨"CalledStallsModel", "tellParts", "(JJ)I"⟩, 33), (⟨"CalledStallsModel", "countOf", "(I)I"⟩, 33), (⟨"CalledStallsModel", "clerks", "()I"⟩, 33), (⟨"CalledStallsModel", "thereOf", "(I)I"⟩, 33)]
theorem lw_r5 : ∀ q ∈ lw_privs_5, lw_okq q := List.forall_mem_cons.mpr ⟨lw_p64, List.forall_mem_cons.mpr ⟨lw_p65, List.forall_mem_cons.mpr ⟨lw_p66, List.forall_mem_cons.mpr ⟨lw_p67, List.forall_mem_cons.mpr ⟨lw_p68, List.forall_mem_cons.mpr ⟨lw_p69, List.forall_mem_cons.mpr ⟨lw_p70, List.forall_mem_cons.mpr ⟨lw_p71, List.forall_mem_cons.mpr ⟨lw_p72, fun _ h => absurd h List.not_mem_nil⟩⟩⟩⟩⟩⟩⟩⟩⟩
def lw_privs : List (MethodName × Nat) := lw_privs_1 ++ (lw_privs_2 ++ (lw_privs_3 ++ (lw_privs_4 ++ (lw_privs_5))))
def lw_tbl : List Cond := k2_sels lw_privs ++ tables_1
theorem lw_privs_ok : ∀ q ∈ lw_privs, lw_okq q := by
  show ∀ q ∈ lw_privs_1 ++ (lw_privs_2 ++ (lw_privs_3 ++ (lw_privs_4 ++ (lw_privs_5)))), lw_okq q
  exact List.forall_mem_append.mpr ⟨lw_r1, List.forall_mem_append.mpr ⟨lw_r2, List.forall_mem_append.mpr ⟨lw_r3, List.forall_mem_append.mpr ⟨lw_r4, lw_r5⟩⟩⟩⟩
end
section
def va_AOA (ty : FieldType) (U : State) : Prop := (Cond.arrayOver (.array ty)).before #[] U = true
theorem va_AOA.use {ty : FieldType} {A : Array Value} {U : State} (h : va_AOA ty U) : (Cond.arrayOver (.array ty)).before A U = true := h
/-! ===== BEGIN words of one list among another's, by their places ===== -/
theorem goodIn_r {big : List Cond} (ws : List Cond) (ps : List Nat) (hp : ws = ps.filterMap (fun i => big[i]?)) (h : ws.all goodWord = true) : GoodIn big ws := by
  intro w hw
  have h1 := List.all_eq_true.mp h w hw
  rw [hp] at hw
  obtain ⟨i, -, hi⟩ := List.mem_filterMap.mp hw
  have hm : w ∈ big := by first | exact List.mem_of_getElem? hi | exact List.getElem?_mem hi
  exact ⟨hm, good_of_word h1⟩
theorem goodIn_app {big a b : List Cond} (ha : GoodIn big a) (hb : GoodIn big b) : GoodIn big (a ++ b) := fun w h => (List.mem_append.mp h).elim (ha w) (hb w)
theorem goodIn_ca {big a b : List Cond} {c : Cond} (ha : GoodIn big (c :: a)) (hb : GoodIn big b) : GoodIn big (c :: (a ++ b)) := fun w h => (List.mem_cons.mp h).elim (fun e => ha w (List.mem_cons.mpr (Or.inl e))) (fun h => (List.mem_append.mp h).elim (fun h => ha w (List.mem_cons.mpr (Or.inr h))) (hb w))
theorem goodIn_sub {big ws : List Cond} (hm : ∀ w ∈ ws, w ∈ big) (h : ws.all goodWord = true) : GoodIn big ws := fun w hw => ⟨hm w hw, good_of_word (List.all_eq_true.mp h w hw)⟩
/-! ===== END ===== -/

/-! ===== BEGIN new T[n][m]: the outer array a place, the inner ones among the pooled ===== -/
/-- f, but v at every address of l -/
def vr_up {α : Type} (f : Nat → α) (l : List Nat) (v : α) : Nat → α := fun a => if a ∈ l then v else f a
theorem vr_up_in {α : Type} {f : Nat → α} {l : List Nat} {v : α} {a : Nat} (h : a ∈ l) : vr_up f l v a = v := if_pos h
theorem vr_up_ne {α : Type} {f : Nat → α} {l : List Nat} {v : α} {a : Nat} (h : a ∉ l) : vr_up f l v a = f a := if_neg h
theorem vr_rows {L l : List Nat} {f : Nat → va_E} {e : va_E} (h : ∀ a, a ∈ l → a ∉ L) : va_pl L f ++ l.map (fun a => (a, e)) = va_pl (L ++ l) (vr_up f l e) := by
  unfold va_pl
  rw [List.map_append]
  congr 1
  · apply List.map_congr_left
    intro a ha
    rw [vr_up_ne (fun q => h a q ha)]
  · apply List.map_congr_left
    intro a ha
    rw [vr_up_in ha]
theorem vr_lay {X rows : va_W} {x : Nat × va_E} {pl : va_W} {D : va_G} {cl : List vw_C} {H : Heap} (hP : va_P D cl (((X ++ pl) ++ [x]) ++ rows) H) : va_P D cl ((X ++ [x]) ++ (pl ++ rows)) H := by
  rw [List.append_assoc (X ++ pl)] at hP
  have h := va_P.swap hP
  rw [← List.append_assoc X] at h
  have h2 := va_P.swap h
  rw [List.append_assoc (X ++ [x])] at h2
  exact h2
theorem vr_layD {X rows : va_W} {x : Nat × va_E} {pl : va_W} {A : Nat → Prop} (hD : va_D A (((X ++ pl) ++ [x]) ++ rows)) : va_D A ((X ++ [x]) ++ (pl ++ rows)) := by
  rw [List.append_assoc (X ++ pl)] at hD
  have h := va_D.swap hD
  rw [← List.append_assoc X] at h
  have h2 := va_D.swap h
  rw [List.append_assoc (X ++ [x])] at h2
  exact h2
theorem vr_outer (c : ClassId) (N h0 : Nat) : ∀ i : Nat, Jvm.Free.Multi.outerC c N h0 i = arrV c N (fun j => va_rf (if j < i then some (h0 + 1 + j) else none))
  | 0 => by
    show ({ cls := c, slots := Array.replicate N .null, vm := .none } : Cell) = _
    rw [arrV_new]
    refine congrArg (arrV c N) (funext fun j => ?_)
    simp [va_rf]
  | i + 1 => by
    show (Jvm.Free.Multi.outerC c N h0 i).setSlot i (.ref (h0 + 1 + i)) = _
    rw [vr_outer c N h0 i, arrV_store]
    refine congrArg (arrV c N) (funext fun j => ?_)
    by_cases e : j = i
    · subst e
      simp [updV, va_rf]
    · by_cases h : j < i
      · simp [updV, e, h, Nat.lt_succ_of_lt h]
      · simp [updV, e, h, show ¬ j < i + 1 by omega]
section VGM
variable {p : Program} {l : Launch} {e : Env} {R : Room} {s : State} {m : MethodId} {args : Array Value} {below : List Frame} {meth : Method} {c : Code} {H : Heap} {locs : List Loc} {cells slots : Nat} {Q : State → Prop}
variable {cc : ByteArray} {pc : Nat} {ls : Array Slot} {rest : List Value} {D : va_G} {cl : List vw_C} {A : Nat → Prop} {a : Nat} {tys : List (ClassId × FieldType)} {ws : va_W} {H0 : Heap}
theorem va_mna {X : va_W} {L : List Nat} {f : Nat → va_E} {cc : ByteArray} (hexec : p.tables.exec = Jvm.exec) (hb : c.code = cc) {own : String} {index : Nat} {ty : FieldType} {cy : ClassId} (hown : s.vm.findClass own = some m.cls) (hclink : (Cond.classLink own index ("[" ++ (FieldType.array ty).toString)).before args s = true) (hover : va_AOA ty s) (harr : (Cond.arrayClass ty).before args s = true) (hcy : s.vm.findClass (FieldType.array ty).toString = some cy)
    (hK : va_K D cl tys s) (hP : va_P D cl (X ++ va_pl L f) H) (hD : va_D A (X ++ va_pl L f)) (hS : va_S A H0 H locs) (hA : ∀ q, H0.size ≤ q → A q) {n k : Int32} {N' K' : Nat} {z : vp_A} (hn : ¬ n < 0) (hk : ¬ k < 0) (hN : n.toNatClampNeg = N') (hM : k.toNatClampNeg = K')
    (hb1 : N' * 4 ≤ 536870912) (hb2 : K' * componentBytes ty ≤ 536870912) (hb3 : K' ≤ 536870912) (hdf : fits ty (defaultValue ty) = true) (hdd : (defaultValue ty).isDefault = true) (hcells : cells + (1 + N') ≤ R.cells) (hslots : slots + (N' + N' * K') ≤ R.slots) (hz : ∀ c : ClassId, Jvm.Free.Multi.innerC c K' (defaultValue ty) = vp_cell c z) (hdg : decode cc pc = .ok (.multianewarray index 2, 4))
    (kk : ∀ (q : Nat) (r : Nat → Nat) (cA : ClassId) (H1 : Heap), (∀ i j : Nat, i < N' → j < N' → r i = r j → i = j) → (∀ i : Nat, i < N' → r i ∉ L) → va_K D cl (tys ++ [(cA, .array ty)]) s →
      va_P D cl ((X ++ [(q, .inl (cA, N', .inr (.inr (.inr (.inr (fun i => if i < N' then some (r i) else none))))))]) ++ va_pl (L ++ (List.range N').map r) (vr_up f ((List.range N').map r) (.inl (cy, z)))) H1 → va_D A ((X ++ [(q, .inl (cA, N', .inr (.inr (.inr (.inr (fun i => if i < N' then some (r i) else none))))))]) ++ va_pl (L ++ (List.range N').map r) (vr_up f ((List.range N').map r) (.inl (cy, z)))) → va_S A H0 H1 locs →
      W p l e R s m args below meth c H1 locs (cells + 1 + N') (slots + N' + N' * K') Q (F0 m (pc + 4) ls (.ref q :: rest))) : W p l e R s m args below meth c H locs cells slots Q (F0 m pc ls (.int k :: .int n :: rest)) := by
  subst hN
  subst hM
  intro T hT Xs
  obtain ⟨vm₁, cA, comp, -, fA, fC, hO, -, X', step⟩ := Xs.multianewarray2F hexec hown hclink (va_AOA.use hover) harr (g := F0 m pc ls (.int k :: .int n :: rest)) rfl (by rw [hb]; exact hdg) rfl hn hk hb1 hb2 hb3 hdf hdd hcells hslots
  have ec : some cy = some comp := hcy.symm.trans fC
  cases ec
  generalize hF : Jvm.Free.Multi.fill (T.setVm vm₁) cA cy n.toNatClampNeg k.toNatClampNeg (defaultValue ty) n.toNatClampNeg = F at X' step
  have hTh : (T.setVm vm₁).heap = H := hT
  obtain ⟨f1, f2, -, -⟩ := Jvm.Free.Multi.fill_facts (T.setVm vm₁) cA cy n.toNatClampNeg k.toNatClampNeg (defaultValue ty) n.toNatClampNeg
  rw [hF, hTh] at f1 f2
  have hold : ∀ x : Nat, x < H.size → F.heap[x]? = H[x]? := fun x hx => by
    have := Jvm.Free.Multi.fill_old (T.setVm vm₁) cA cy n.toNatClampNeg k.toNatClampNeg (defaultValue ty) (a := x) (by rw [hTh]; exact hx) n.toNatClampNeg
    rw [hF, hTh] at this
    exact this
  have hrow : ∀ j : Nat, j < n.toNatClampNeg → F.heap[H.size + 1 + j]? = some (vp_cell cy z) := fun j hj => by
    have := Jvm.Free.Multi.fill_inner (T.setVm vm₁) cA cy n.toNatClampNeg k.toNatClampNeg (defaultValue ty) n.toNatClampNeg j hj
    rw [hF, hTh, hz] at this
    exact this
  have hout : Jvm.Free.Multi.outerC cA n.toNatClampNeg H.size n.toNatClampNeg = vp_cell cA (n.toNatClampNeg, .inr (.inr (.inr (.inr (fun i => if i < n.toNatClampNeg then some (H.size + 1 + i) else none))))) := by
    rw [vp_cell_q]
    exact vr_outer cA n.toNatClampNeg H.size n.toNatClampNeg
  rw [hout] at f2
  have hlt : ∀ a, a ∈ L → a < H.size := fun a ha => by
    obtain ⟨k9, hk9⟩ := va_pl_get (X := X) (f := f) ha
    exact (hP k9 _ hk9).lt
  have hnl : ∀ i : Nat, i < n.toNatClampNeg → H.size + 1 + i ∉ L := fun i _ h => by
    have := hlt _ h
    omega
  have hnm : ∀ a, a ∈ (List.range n.toNatClampNeg).map (fun i => H.size + 1 + i) → a ∉ L := fun a ha h => by
    obtain ⟨i, -, rfl⟩ := List.mem_map.mp ha
    have := hlt _ h
    omega
  have hP0 : va_P D cl (X ++ va_pl L f) F.heap := hP.kept (fun k9 x hx => hold x.1 ((hP k9 x hx).lt))
  have hP1 : va_P D cl ((X ++ va_pl L f) ++ [(H.size, .inl (cA, n.toNatClampNeg, .inr (.inr (.inr (.inr (fun i => if i < n.toNatClampNeg then some (H.size + 1 + i) else none))))))]) F.heap := hP0.app (fun k9 x hx => by
    have h0 : k9 < 1 := (List.getElem?_eq_some_iff.mp hx).1
    rw [show k9 = 0 by omega] at hx
    cases hx
    exact f2)
  have hP2 : va_P D cl (((X ++ va_pl L f) ++ [(H.size, .inl (cA, n.toNatClampNeg, .inr (.inr (.inr (.inr (fun i => if i < n.toNatClampNeg then some (H.size + 1 + i) else none))))))]) ++ ((List.range n.toNatClampNeg).map (fun i => H.size + 1 + i)).map (fun a => (a, .inl (cy, z)))) F.heap := hP1.app (fun k9 x hx => by
    obtain ⟨a, ha, rfl⟩ := List.mem_map.mp (List.mem_of_getElem? hx)
    obtain ⟨i, hi, rfl⟩ := List.mem_map.mp ha
    exact hrow i (List.mem_range.mp hi))
  have hD2 : va_D A (((X ++ va_pl L f) ++ [(H.size, .inl (cA, n.toNatClampNeg, .inr (.inr (.inr (.inr (fun i => if i < n.toNatClampNeg then some (H.size + 1 + i) else none))))))]) ++ ((List.range n.toNatClampNeg).map (fun i => H.size + 1 + i)).map (fun a => (a, .inl (cy, z)))) := by
    have hD1 := hD.push (e := .inl (cA, n.toNatClampNeg, .inr (.inr (.inr (.inr (fun i => if i < n.toNatClampNeg then some (H.size + 1 + i) else none)))))) hP rfl (hA _ hS.1)
    generalize hW1 : (X ++ va_pl L f) ++ [(H.size, .inl (cA, n.toNatClampNeg, .inr (.inr (.inr (.inr (fun i => if i < n.toNatClampNeg then some (H.size + 1 + i) else none))))))] = W1 at hD1 hP1 ⊢
    have hle : ∀ (k9 : Nat) (x : Nat × va_E), W1[k9]? = some x → x.1 ≤ H.size := fun k9 x hx => by
      rw [← hW1] at hx
      by_cases hl : k9 < (X ++ va_pl L f).length
      · rw [List.getElem?_append_left hl] at hx
        exact Nat.le_of_lt ((hP k9 x hx).lt)
      · rw [List.getElem?_append_right (by omega)] at hx
        have h0 : k9 - (X ++ va_pl L f).length < 1 := (List.getElem?_eq_some_iff.mp hx).1
        rw [show k9 - (X ++ va_pl L f).length = 0 by omega] at hx
        cases hx
        exact Nat.le_refl _
    have hr : ∀ (k9 : Nat) (x : Nat × va_E), (((List.range n.toNatClampNeg).map (fun i => H.size + 1 + i)).map (fun a => ((a, .inl (cy, z)) : Nat × va_E)))[k9]? = some x → x.1 = H.size + 1 + k9 := fun k9 x hx => by
      rw [List.getElem?_map, List.getElem?_map] at hx
      by_cases h9 : k9 < n.toNatClampNeg
      · rw [List.getElem?_range h9] at hx
        cases hx
        rfl
      · have hn0 : (List.range n.toNatClampNeg)[k9]? = none := List.getElem?_eq_none (by rw [List.length_range]; omega)
        rw [hn0] at hx
        cases hx
    refine ⟨fun i j x y hi hj hxy => ?_, fun k9 x hx => ?_⟩
    · by_cases h1 : i < W1.length <;> by_cases h2 : j < W1.length
      · rw [List.getElem?_append_left h1] at hi
        rw [List.getElem?_append_left h2] at hj
        exact hD1.1 i j x y hi hj hxy
      · rw [List.getElem?_append_left h1] at hi
        rw [List.getElem?_append_right (by omega)] at hj
        have := hle _ _ hi
        have := hr _ _ hj
        omega
      · rw [List.getElem?_append_right (by omega)] at hi
        rw [List.getElem?_append_left h2] at hj
        have := hle _ _ hj
        have := hr _ _ hi
        omega
      · rw [List.getElem?_append_right (by omega)] at hi hj
        have := hr _ _ hi
        have := hr _ _ hj
        omega
    · by_cases h1 : k9 < W1.length
      · rw [List.getElem?_append_left h1] at hx
        exact hD1.2 k9 x hx
      · rw [List.getElem?_append_right (by omega)] at hx
        have := hr _ _ hx
        exact hA _ (by have := hS.1; omega)
  have hAr : ArrOfT s cA (.array ty) := fun N9 z9 => by
    obtain ⟨-, k9, hk9, cm9, hkk9⟩ := (hO 0 0 0).1
    exact ⟨(fun q hq => by cases hq), k9, hk9, cm9, hkk9⟩
  have hK2 : va_K D cl (tys ++ [(cA, .array ty)]) s := ⟨hK.1, fun k9 x hx => by
    by_cases hl : k9 < tys.length
    · rw [List.getElem?_append_left hl] at hx
      exact hK.2 k9 x hx
    · rw [List.getElem?_append_right (by omega)] at hx
      have h0 : k9 - tys.length < 1 := (List.getElem?_eq_some_iff.mp hx).1
      rw [show k9 - tys.length = 0 by omega] at hx
      cases hx
      exact ⟨hAr, fA⟩⟩
  obtain ⟨t, a1, b1⟩ := kk H.size (fun i => H.size + 1 + i) cA F.heap (fun i j _ _ h => by have h9 : H.size + 1 + i = H.size + 1 + j := h; omega) hnl hK2 (by rw [← vr_rows hnm]; exact vr_lay hP2) (by rw [← vr_rows hnm]; exact vr_layD hD2) ⟨by rw [f1]; have := hS.1; omega, fun x h1 h2 => (hold x (Nat.lt_of_lt_of_le h1 hS.1)).trans (hS.2.1 x h1 h2), hS.2.2⟩ F rfl X'
  refine ⟨t, step t ?_, b1⟩
  have e : T.heap.size = H.size := by rw [hT]
  rw [e]
  exact a1
end VGM
/-! ===== END ===== -/

/-! ===== BEGIN printed: names, fields, word lists, decode rows ===== -/
def RX0 : String := "CalledStalls$Night"
def TX0 : u_T := fun k => match k with
  | 0 => ("CalledStalls$Night", "script", "LCalledStalls$Script;", true)
  | 1 => ("CalledStalls$Night", "seat", "[I", true)
  | 2 => ("CalledStalls$Night", "deeds", "[I", true)
  | 3 => ("CalledStalls$Night", "deedCount", "I", false)
  | 4 => ("CalledStalls$Night", "scene", "I", false)
  | 5 => ("CalledStalls$Night", "called", "I", false)
  | 6 => ("CalledStalls$Night", "promptsLeft", "I", false)
  | 7 => ("CalledStalls$Night", "shame", "I", false)
  | 8 => ("CalledStalls$Night", "clapping", "I", false)
  | _ => ("CalledStalls$Night", "carriedCount", "I", false)
def tyX0 : Nat → FieldType := fun k => match k with
  | 0 => .object "CalledStalls$Script"
  | 1 => .array .int
  | 2 => .array .int
  | 3 => .int
  | 4 => .int
  | 5 => .int
  | 6 => .int
  | 7 => .int
  | 8 => .int
  | _ => .int
abbrev wsX00 : List Cond := u_ws RX0 TX0 10
theorem nmX0 : ∀ a, a < 10 → ∀ b, b < 10 → a ≠ b → (TX0 a).2.1 ≠ (TX0 b).2.1 := by decide +kernel
theorem tyX0_ok : ∀ k, k < 10 → parseFieldDescriptor (TX0 k).2.2.1 = some (tyX0 k) := by decide +kernel
abbrev cX0_init : ByteArray := prog_2_method_1_code
def yX0_init : MethodName := ⟨RX0, "<init>", "(LCalledStalls$Script;)V"⟩
abbrev cX0_begin : ByteArray := prog_2_method_2_code
def yX0_begin : MethodName := ⟨RX0, "begin", "()V"⟩
abbrev cX0_deedOfChange : ByteArray := prog_2_method_3_code
def yX0_deedOfChange : MethodName := ⟨RX0, "deedOfChange", "(II)I"⟩
abbrev cX0_perform : ByteArray := prog_2_method_4_code
def yX0_perform : MethodName := ⟨RX0, "perform", "(I)V"⟩
abbrev cX0_playScene : ByteArray := prog_2_method_5_code
def yX0_playScene : MethodName := ⟨RX0, "playScene", "(I)V"⟩
abbrev cX0_exchange : ByteArray := prog_2_method_6_code
def yX0_exchange : MethodName := ⟨RX0, "exchange", "(II)V"⟩
abbrev cX0_scenesYet : ByteArray := prog_2_method_7_code
def yX0_scenesYet : MethodName := ⟨RX0, "scenesYet", "()I"⟩
abbrev cX0_lackingNow : ByteArray := prog_2_method_8_code
def yX0_lackingNow : MethodName := ⟨RX0, "lackingNow", "(I)I"⟩
abbrev cX0_allowed : ByteArray := prog_2_method_9_code
def yX0_allowed : MethodName := ⟨RX0, "allowed", "()I"⟩
abbrev cX0_allowedIfChanged : ByteArray := prog_2_method_10_code
def yX0_allowedIfChanged : MethodName := ⟨RX0, "allowedIfChanged", "(II)I"⟩
abbrev cX0_free : ByteArray := prog_2_method_11_code
def yX0_free : MethodName := ⟨RX0, "free", "()I"⟩
abbrev cX0_takenSeats : ByteArray := prog_2_method_12_code
def yX0_takenSeats : MethodName := ⟨RX0, "takenSeats", "()I"⟩
abbrev cX0_takenSeatsWithout : ByteArray := prog_2_method_13_code
def yX0_takenSeatsWithout : MethodName := ⟨RX0, "takenSeatsWithout", "(I)I"⟩
abbrev cX0_whatOfSitter : ByteArray := prog_2_method_14_code
def yX0_whatOfSitter : MethodName := ⟨RX0, "whatOfSitter", "(II)I"⟩
abbrev cX0_saysNow : ByteArray := prog_2_method_15_code
def yX0_saysNow : MethodName := ⟨RX0, "saysNow", "(I)I"⟩
abbrev cX0_markOf : ByteArray := prog_2_method_16_code
def yX0_markOf : MethodName := ⟨RX0, "markOf", "(II)I"⟩
abbrev cX0_scenesWithoutPrompt : ByteArray := prog_2_method_17_code
def yX0_scenesWithoutPrompt : MethodName := ⟨RX0, "scenesWithoutPrompt", "(I)I"⟩
abbrev cX0_othersInEvenSeats : ByteArray := prog_2_method_18_code
def yX0_othersInEvenSeats : MethodName := ⟨RX0, "othersInEvenSeats", "(I)I"⟩
def RX1 : String := "CalledStalls$Script"
def TX1 : u_T := fun k => match k with
  | 0 => ("CalledStalls$Script", "promptCount", "I", false)
  | 1 => ("CalledStalls$Script", "sceneCount", "I", false)
  | 2 => ("CalledStalls$Script", "sitterCount", "I", false)
  | 3 => ("CalledStalls$Script", "lineCount", "[I", true)
  | 4 => ("CalledStalls$Script", "kind", "[I", true)
  | 5 => ("CalledStalls$Script", "seat", "[I", true)
  | 6 => ("CalledStalls$Script", "memory", "[I", true)
  | 7 => ("CalledStalls$Script", "fright", "[I", true)
  | 8 => ("CalledStalls$Script", "takenSeats", "I", false)
  | _ => ("CalledStalls$Script", "claqueBits", "I", false)
def tyX1 : Nat → FieldType := fun k => match k with
  | 0 => .int
  | 1 => .int
  | 2 => .int
  | 3 => .array .int
  | 4 => .array .int
  | 5 => .array .int
  | 6 => .array .int
  | 7 => .array .int
  | 8 => .int
  | _ => .int
abbrev wsX10 : List Cond := u_ws RX1 TX1 10
theorem nmX1 : ∀ a, a < 10 → ∀ b, b < 10 → a ≠ b → (TX1 a).2.1 ≠ (TX1 b).2.1 := by decide +kernel
theorem tyX1_ok : ∀ k, k < 10 → parseFieldDescriptor (TX1 k).2.2.1 = some (tyX1 k) := by decide +kernel
abbrev cX1_init : ByteArray := prog_3_method_1_code
def yX1_init : MethodName := ⟨RX1, "<init>", "()V"⟩
abbrev cX1_read : ByteArray := prog_3_method_2_code
def yX1_read : MethodName := ⟨RX1, "read", "(LCalledStalls$Shelf;I)I"⟩
abbrev cX1_readLines : ByteArray := prog_3_method_3_code
def yX1_readLines : MethodName := ⟨RX1, "readLines", "(LCalledStalls$Shelf;II)I"⟩
abbrev cX1_readSitter : ByteArray := prog_3_method_4_code
def yX1_readSitter : MethodName := ⟨RX1, "readSitter", "(LCalledStalls$Shelf;II)I"⟩
abbrev cX1_figureAt : ByteArray := prog_3_method_5_code
def yX1_figureAt : MethodName := ⟨RX1, "figureAt", "(LCalledStalls$Shelf;II)I"⟩
abbrev cX1_kindAt : ByteArray := prog_3_method_6_code
def yX1_kindAt : MethodName := ⟨RX1, "kindAt", "(LCalledStalls$Shelf;II)I"⟩
abbrev cX1_pastBlanks : ByteArray := prog_3_method_7_code
def yX1_pastBlanks : MethodName := ⟨RX1, "pastBlanks", "(LCalledStalls$Shelf;II)I"⟩
abbrev cX1_isSitter : ByteArray := prog_3_method_8_code
def yX1_isSitter : MethodName := ⟨RX1, "isSitter", "(I)Z"⟩
abbrev cX1_clerkCount : ByteArray := prog_3_method_9_code
def yX1_clerkCount : MethodName := ⟨RX1, "clerkCount", "()I"⟩
abbrev cX1_otherClaques : ByteArray := prog_3_method_10_code
def yX1_otherClaques : MethodName := ⟨RX1, "otherClaques", "(II)I"⟩
abbrev cX1_lacking : ByteArray := prog_3_method_11_code
def yX1_lacking : MethodName := ⟨RX1, "lacking", "(IIII)I"⟩
def RX2 : String := "CalledStalls$Search"
def TX2 : u_T := fun k => match k with
  | 0 => ("CalledStalls$Search", "night", "LCalledStalls$Night;", true)
  | 1 => ("CalledStalls$Search", "script", "LCalledStalls$Script;", true)
  | 2 => ("CalledStalls$Search", "path", "[I", true)
  | 3 => ("CalledStalls$Search", "bestPlan", "[I", true)
  | 4 => ("CalledStalls$Search", "planCount", "[[I", true)
  | 5 => ("CalledStalls$Search", "allowed", "I", false)
  | 6 => ("CalledStalls$Search", "most", "I", false)
  | 7 => ("CalledStalls$Search", "fewestGone", "I", false)
  | 8 => ("CalledStalls$Search", "firstCalled", "I", false)
  | 9 => ("CalledStalls$Search", "applauseBehind", "I", false)
  | 10 => ("CalledStalls$Search", "wanted", "I", false)
  | 11 => ("CalledStalls$Search", "wayCount", "J", false)
  | 12 => ("CalledStalls$Search", "calledInAll", "I", false)
  | 13 => ("CalledStalls$Search", "draws", "J", false)
  | 14 => ("CalledStalls$Search", "drawsCarried", "J", false)
  | _ => ("CalledStalls$Search", "drawsApplause", "J", false)
def tyX2 : Nat → FieldType := fun k => match k with
  | 0 => .object "CalledStalls$Night"
  | 1 => .object "CalledStalls$Script"
  | 2 => .array .int
  | 3 => .array .int
  | 4 => .array (.array .int)
  | 5 => .int
  | 6 => .int
  | 7 => .int
  | 8 => .int
  | 9 => .int
  | 10 => .int
  | 11 => .long
  | 12 => .int
  | 13 => .long
  | 14 => .long
  | _ => .long
abbrev wsX20 : List Cond := u_ws RX2 TX2 16
theorem nmX2 : ∀ a, a < 16 → ∀ b, b < 16 → a ≠ b → (TX2 a).2.1 ≠ (TX2 b).2.1 := by decide +kernel
theorem tyX2_ok : ∀ k, k < 16 → parseFieldDescriptor (TX2 k).2.2.1 = some (tyX2 k) := by decide +kernel
abbrev cX2_init : ByteArray := prog_4_method_1_code
def yX2_init : MethodName := ⟨RX2, "<init>", "(LCalledStalls$Night;)V"⟩
abbrev cX2_isFree : ByteArray := prog_4_method_2_code
def yX2_isFree : MethodName := ⟨RX2, "isFree", "(II)Z"⟩
abbrev cX2_freeCount : ByteArray := prog_4_method_3_code
def yX2_freeCount : MethodName := ⟨RX2, "freeCount", "(I)I"⟩
abbrev cX2_hope : ByteArray := prog_4_method_4_code
def yX2_hope : MethodName := ⟨RX2, "hope", "(II)I"⟩
abbrev cX2_clappingBehind : ByteArray := prog_4_method_5_code
def yX2_clappingBehind : MethodName := ⟨RX2, "clappingBehind", "(III)I"⟩
abbrev cX2_promptsBehind : ByteArray := prog_4_method_6_code
def yX2_promptsBehind : MethodName := ⟨RX2, "promptsBehind", "(II)I"⟩
abbrev cX2_playPlan : ByteArray := prog_4_method_7_code
def yX2_playPlan : MethodName := ⟨RX2, "playPlan", "(LCalledStalls$Shelf;I)I"⟩
abbrev cX2_findMost : ByteArray := prog_4_method_8_code
def yX2_findMost : MethodName := ⟨RX2, "findMost", "(II)I"⟩
abbrev cX2_seekMost : ByteArray := prog_4_method_9_code
def yX2_seekMost : MethodName := ⟨RX2, "seekMost", "(IIIII)V"⟩
abbrev cX2_findFirstOfMost : ByteArray := prog_4_method_10_code
def yX2_findFirstOfMost : MethodName := ⟨RX2, "findFirstOfMost", "()V"⟩
abbrev cX2_choiceFor : ByteArray := prog_4_method_11_code
def yX2_choiceFor : MethodName := ⟨RX2, "choiceFor", "(I)I"⟩
abbrev cX2_seekBest : ByteArray := prog_4_method_12_code
def yX2_seekBest : MethodName := ⟨RX2, "seekBest", "(IIIII)V"⟩
abbrev cX2_findLeast : ByteArray := prog_4_method_13_code
def yX2_findLeast : MethodName := ⟨RX2, "findLeast", "()I"⟩
abbrev cX2_seekLeast : ByteArray := prog_4_method_14_code
def yX2_seekLeast : MethodName := ⟨RX2, "seekLeast", "(IIII)V"⟩
abbrev cX2_findWays : ByteArray := prog_4_method_15_code
def yX2_findWays : MethodName := ⟨RX2, "findWays", "(I)V"⟩
abbrev cX2_seekWays : ByteArray := prog_4_method_16_code
def yX2_seekWays : MethodName := ⟨RX2, "seekWays", "(IIIII)V"⟩
abbrev cX2_plansFor : ByteArray := prog_4_method_17_code
def yX2_plansFor : MethodName := ⟨RX2, "plansFor", "(II)I"⟩
abbrev cX2_findDuel : ByteArray := prog_4_method_18_code
def yX2_findDuel : MethodName := ⟨RX2, "findDuel", "(I)I"⟩
abbrev cX2_duelFrom : ByteArray := prog_4_method_19_code
def yX2_duelFrom : MethodName := ⟨RX2, "duelFrom", "(IIIIIZ)I"⟩
abbrev cX2_findDraws : ByteArray := prog_4_method_20_code
def yX2_findDraws : MethodName := ⟨RX2, "findDraws", "(I)V"⟩
abbrev cX2_seekDraws : ByteArray := prog_4_method_21_code
def yX2_seekDraws : MethodName := ⟨RX2, "seekDraws", "(IIIII)V"⟩
def RX3 : String := "CalledStalls$Shelf"
def TX3 : u_T := fun k => match k with
  | 0 => ("CalledStalls$Shelf", "items", "[[I", true)
  | _ => ("CalledStalls$Shelf", "sizes", "[I", true)
def tyX3 : Nat → FieldType := fun k => match k with
  | 0 => .array (.array .int)
  | _ => .array .int
abbrev wsX30 : List Cond := u_ws RX3 TX3 2
theorem nmX3 : ∀ a, a < 2 → ∀ b, b < 2 → a ≠ b → (TX3 a).2.1 ≠ (TX3 b).2.1 := by decide +kernel
theorem tyX3_ok : ∀ k, k < 2 → parseFieldDescriptor (TX3 k).2.2.1 = some (tyX3 k) := by decide +kernel
abbrev cX3_init : ByteArray := prog_5_method_1_code
def yX3_init : MethodName := ⟨RX3, "<init>", "(II)V"⟩
abbrev cX3_isPlace : ByteArray := prog_5_method_2_code
def yX3_isPlace : MethodName := ⟨RX3, "isPlace", "(I)Z"⟩
abbrev cX3_has : ByteArray := prog_5_method_3_code
def yX3_has : MethodName := ⟨RX3, "has", "(I)Z"⟩
abbrev cX3_size : ByteArray := prog_5_method_4_code
def yX3_size : MethodName := ⟨RX3, "size", "(I)I"⟩
abbrev cX3_holds : ByteArray := prog_5_method_5_code
def yX3_holds : MethodName := ⟨RX3, "holds", "(II)Z"⟩
abbrev cX3_holdsPart : ByteArray := prog_5_method_6_code
def yX3_holdsPart : MethodName := ⟨RX3, "holdsPart", "(III)Z"⟩
abbrev cX3_get : ByteArray := prog_5_method_7_code
def yX3_get : MethodName := ⟨RX3, "get", "(II)I"⟩
abbrev cX3_set : ByteArray := prog_5_method_8_code
def yX3_set : MethodName := ⟨RX3, "set", "(III)V"⟩
abbrev cX3_make : ByteArray := prog_5_method_9_code
def yX3_make : MethodName := ⟨RX3, "make", "(III)V"⟩
abbrev cX3_drop : ByteArray := prog_5_method_10_code
def yX3_drop : MethodName := ⟨RX3, "drop", "(I)V"⟩
abbrev cX3_copyPart : ByteArray := prog_5_method_11_code
def yX3_copyPart : MethodName := ⟨RX3, "copyPart", "(IIIII)V"⟩
abbrev cX3_thereCount : ByteArray := prog_5_method_12_code
def yX3_thereCount : MethodName := ⟨RX3, "thereCount", "()I"⟩
abbrev cX3_digestFrom : ByteArray := prog_5_method_13_code
def yX3_digestFrom : MethodName := ⟨RX3, "digestFrom", "(J)J"⟩
def RX4 : String := "CalledStalls"
def TX4 : u_T := fun k => match k with
  | 0 => ("CalledStalls", "rowShelf", "LCalledStalls$Shelf;", true)
  | 1 => ("CalledStalls", "textShelf", "LCalledStalls$Shelf;", true)
  | 2 => ("CalledStalls", "keptShelf", "LCalledStalls$Shelf;", true)
  | 3 => ("CalledStalls", "draft", "LCalledStalls$Script;", true)
  | 4 => ("CalledStalls", "script", "LCalledStalls$Script;", true)
  | 5 => ("CalledStalls", "night", "LCalledStalls$Night;", true)
  | 6 => ("CalledStalls", "search", "LCalledStalls$Search;", true)
  | 7 => ("CalledStalls", "foundTimes", "[I", true)
  | 8 => ("CalledStalls", "lastFinding", "I", false)
  | 9 => ("CalledStalls", "lastTold", "I", false)
  | 10 => ("CalledStalls", "upperTold", "J", false)
  | _ => ("CalledStalls", "lowerTold", "J", false)
def tyX4 : Nat → FieldType := fun k => match k with
  | 0 => .object "CalledStalls$Shelf"
  | 1 => .object "CalledStalls$Shelf"
  | 2 => .object "CalledStalls$Shelf"
  | 3 => .object "CalledStalls$Script"
  | 4 => .object "CalledStalls$Script"
  | 5 => .object "CalledStalls$Night"
  | 6 => .object "CalledStalls$Search"
  | 7 => .array .int
  | 8 => .int
  | 9 => .int
  | 10 => .long
  | _ => .long
abbrev wsX40 : List Cond := u_ws RX4 TX4 12
theorem nmX4 : ∀ a, a < 12 → ∀ b, b < 12 → a ≠ b → (TX4 a).2.1 ≠ (TX4 b).2.1 := by decide +kernel
theorem tyX4_ok : ∀ k, k < 12 → parseFieldDescriptor (TX4 k).2.2.1 = some (tyX4 k) := by decide +kernel
abbrev cX4_init : ByteArray := prog_1_method_1_code
def yX4_init : MethodName := ⟨RX4, "<init>", "()V"⟩
abbrev cX4_row : ByteArray := prog_1_method_2_code
def yX4_row : MethodName := ⟨RX4, "row", "(II)I"⟩
abbrev cX4_lay : ByteArray := prog_1_method_3_code
def yX4_lay : MethodName := ⟨RX4, "lay", "(III)I"⟩
abbrev cX4_at : ByteArray := prog_1_method_4_code
def yX4_at : MethodName := ⟨RX4, "at", "(II)I"⟩
abbrev cX4_tear : ByteArray := prog_1_method_5_code
def yX4_tear : MethodName := ⟨RX4, "tear", "(I)I"⟩
abbrev cX4_copy : ByteArray := prog_1_method_6_code
def yX4_copy : MethodName := ⟨RX4, "copy", "(IIIII)I"⟩
abbrev cX4_mean : ByteArray := prog_1_method_7_code
def yX4_mean : MethodName := ⟨RX4, "mean", "(I)I"⟩
abbrev cX4_text : ByteArray := prog_1_method_8_code
def yX4_text : MethodName := ⟨RX4, "text", "(II)I"⟩
abbrev cX4_put : ByteArray := prog_1_method_9_code
def yX4_put : MethodName := ⟨RX4, "put", "(III)I"⟩
abbrev cX4_fault : ByteArray := prog_1_method_10_code
def yX4_fault : MethodName := ⟨RX4, "fault", "(I)I"⟩
abbrev cX4_house : ByteArray := prog_1_method_11_code
def yX4_house : MethodName := ⟨RX4, "house", "(I)I"⟩
abbrev cX4_sitter : ByteArray := prog_1_method_12_code
def yX4_sitter : MethodName := ⟨RX4, "sitter", "(II)I"⟩
abbrev cX4_mark : ByteArray := prog_1_method_13_code
def yX4_mark : MethodName := ⟨RX4, "mark", "(II)I"⟩
abbrev cX4_lines : ByteArray := prog_1_method_14_code
def yX4_lines : MethodName := ⟨RX4, "lines", "(I)I"⟩
abbrev cX4_call : ByteArray := prog_1_method_15_code
def yX4_call : MethodName := ⟨RX4, "call", "(I)I"⟩
abbrev cX4_cut : ByteArray := prog_1_method_16_code
def yX4_cut : MethodName := ⟨RX4, "cut", "()I"⟩
abbrev cX4_change : ByteArray := prog_1_method_17_code
def yX4_change : MethodName := ⟨RX4, "change", "(II)I"⟩
abbrev cX4_undo : ByteArray := prog_1_method_18_code
def yX4_undo : MethodName := ⟨RX4, "undo", "(I)I"⟩
abbrev cX4_keep : ByteArray := prog_1_method_19_code
def yX4_keep : MethodName := ⟨RX4, "keep", "(I)I"⟩
abbrev cX4_on : ByteArray := prog_1_method_20_code
def yX4_on : MethodName := ⟨RX4, "on", "(I)I"⟩
abbrev cX4_can : ByteArray := prog_1_method_21_code
def yX4_can : MethodName := ⟨RX4, "can", "()I"⟩
abbrev cX4_play : ByteArray := prog_1_method_22_code
def yX4_play : MethodName := ⟨RX4, "play", "(I)I"⟩
abbrev cX4_best : ByteArray := prog_1_method_23_code
def yX4_best : MethodName := ⟨RX4, "best", "(I)I"⟩
abbrev cX4_least : ByteArray := prog_1_method_24_code
def yX4_least : MethodName := ⟨RX4, "least", "()I"⟩
abbrev cX4_ways : ByteArray := prog_1_method_25_code
def yX4_ways : MethodName := ⟨RX4, "ways", "(I)I"⟩
abbrev cX4_seats : ByteArray := prog_1_method_26_code
def yX4_seats : MethodName := ⟨RX4, "seats", "()I"⟩
abbrev cX4_beside : ByteArray := prog_1_method_27_code
def yX4_beside : MethodName := ⟨RX4, "beside", "()I"⟩
abbrev cX4_apart : ByteArray := prog_1_method_28_code
def yX4_apart : MethodName := ⟨RX4, "apart", "()I"⟩
abbrev cX4_frights : ByteArray := prog_1_method_29_code
def yX4_frights : MethodName := ⟨RX4, "frights", "(II)I"⟩
abbrev cX4_kinds : ByteArray := prog_1_method_30_code
def yX4_kinds : MethodName := ⟨RX4, "kinds", "(II)I"⟩
abbrev cX4_whom : ByteArray := prog_1_method_31_code
def yX4_whom : MethodName := ⟨RX4, "whom", "(I)I"⟩
abbrev cX4_duel : ByteArray := prog_1_method_32_code
def yX4_duel : MethodName := ⟨RX4, "duel", "(I)I"⟩
abbrev cX4_odds : ByteArray := prog_1_method_33_code
def yX4_odds : MethodName := ⟨RX4, "odds", "(I)I"⟩
abbrev cX4_mid : ByteArray := prog_1_method_34_code
def yX4_mid : MethodName := ⟨RX4, "mid", "()I"⟩
abbrev cX4_lots : ByteArray := prog_1_method_35_code
def yX4_lots : MethodName := ⟨RX4, "lots", "(I)I"⟩
abbrev cX4_asked : ByteArray := prog_1_method_36_code
def yX4_asked : MethodName := ⟨RX4, "asked", "()I"⟩
abbrev cX4_upper : ByteArray := prog_1_method_37_code
def yX4_upper : MethodName := ⟨RX4, "upper", "()J"⟩
abbrev cX4_lower : ByteArray := prog_1_method_38_code
def yX4_lower : MethodName := ⟨RX4, "lower", "()J"⟩
abbrev cX4_count : ByteArray := prog_1_method_39_code
def yX4_count : MethodName := ⟨RX4, "count", "(I)I"⟩
abbrev cX4_applause : ByteArray := prog_1_method_40_code
def yX4_applause : MethodName := ⟨RX4, "applause", "()I"⟩
abbrev cX4_finding : ByteArray := prog_1_method_41_code
def yX4_finding : MethodName := ⟨RX4, "finding", "()I"⟩
abbrev cX4_findings : ByteArray := prog_1_method_42_code
def yX4_findings : MethodName := ⟨RX4, "findings", "(I)I"⟩
abbrev cX4_digest : ByteArray := prog_1_method_43_code
def yX4_digest : MethodName := ⟨RX4, "digest", "()J"⟩
abbrev cX4_tell : ByteArray := prog_1_method_44_code
def yX4_tell : MethodName := ⟨RX4, "tell", "(I)I"⟩
abbrev cX4_tellFraction : ByteArray := prog_1_method_45_code
def yX4_tellFraction : MethodName := ⟨RX4, "tellFraction", "(JJ)V"⟩
abbrev cX4_greatestDivisor : ByteArray := prog_1_method_46_code
def yX4_greatestDivisor : MethodName := ⟨RX4, "greatestDivisor", "(JJ)J"⟩
abbrev cX4_refuse : ByteArray := prog_1_method_47_code
def yX4_refuse : MethodName := ⟨RX4, "refuse", "(I)I"⟩
abbrev cX4_refusalOfPlace : ByteArray := prog_1_method_48_code
def yX4_refusalOfPlace : MethodName := ⟨RX4, "refusalOfPlace", "(LCalledStalls$Shelf;I)I"⟩
abbrev cX4_refusalOfItem : ByteArray := prog_1_method_49_code
def yX4_refusalOfItem : MethodName := ⟨RX4, "refusalOfItem", "(LCalledStalls$Shelf;II)I"⟩
abbrev cX4_refusalOfNotices : ByteArray := prog_1_method_50_code
def yX4_refusalOfNotices : MethodName := ⟨RX4, "refusalOfNotices", "(II)I"⟩
abbrev cX4_countOf : ByteArray := prog_1_method_51_code
def yX4_countOf : MethodName := ⟨RX4, "countOf", "(I)I"⟩
abbrev cX4_isPlan : ByteArray := prog_1_method_52_code
def yX4_isPlan : MethodName := ⟨RX4, "isPlan", "(I)Z"⟩
abbrev cX4_areNotices : ByteArray := prog_1_method_53_code
def yX4_areNotices : MethodName := ⟨RX4, "areNotices", "(I)Z"⟩
abbrev cX4_fitsNotices : ByteArray := prog_1_method_54_code
def yX4_fitsNotices : MethodName := ⟨RX4, "fitsNotices", "(IIIII)Z"⟩
abbrev cX4_isIn : ByteArray := prog_1_method_55_code
def yX4_isIn : MethodName := ⟨RX4, "isIn", "(II)Z"⟩
abbrev cX4_isOfKind : ByteArray := prog_1_method_56_code
def yX4_isOfKind : MethodName := ⟨RX4, "isOfKind", "(II)Z"⟩
abbrev cX4_isCallableFrom : ByteArray := prog_1_method_57_code
def yX4_isCallableFrom : MethodName := ⟨RX4, "isCallableFrom", "(II)Z"⟩
abbrev cX4_fears : ByteArray := prog_1_method_58_code
def yX4_fears : MethodName := ⟨RX4, "fears", "(III)I"⟩
abbrev cX4_says : ByteArray := prog_1_method_59_code
def yX4_says : MethodName := ⟨RX4, "says", "(IIIII)I"⟩
abbrev cX4_drawn : ByteArray := prog_1_method_60_code
def yX4_drawn : MethodName := ⟨RX4, "drawn", "(II)I"⟩
def RX5 : String := "CalledStallsModel"
def TX5 : u_T := fun k => match k with
  | 0 => ("CalledStallsModel", "row", "[I", true)
  | 1 => ("CalledStallsModel", "scenes", "I", false)
  | 2 => ("CalledStallsModel", "lines", "[I", true)
  | 3 => ("CalledStallsModel", "sitters", "I", false)
  | 4 => ("CalledStallsModel", "kinds", "[I", true)
  | 5 => ("CalledStallsModel", "memories", "[I", true)
  | 6 => ("CalledStallsModel", "frights", "[I", true)
  | 7 => ("CalledStallsModel", "sizes", "[I", true)
  | 8 => ("CalledStallsModel", "items", "[I", true)
  | 9 => ("CalledStallsModel", "lengths", "[I", true)
  | 10 => ("CalledStallsModel", "bytes", "[I", true)
  | 11 => ("CalledStallsModel", "asked", "I", false)
  | 12 => ("CalledStallsModel", "upper", "J", false)
  | 13 => ("CalledStallsModel", "lower", "J", false)
  | 14 => ("CalledStallsModel", "finding", "I", false)
  | 15 => ("CalledStallsModel", "findings", "[I", true)
  | 16 => ("CalledStallsModel", "from", "I", false)
  | 17 => ("CalledStallsModel", "place", "I", false)
  | 18 => ("CalledStallsModel", "end", "I", false)
  | 19 => ("CalledStallsModel", "readPrompts", "I", false)
  | 20 => ("CalledStallsModel", "readLines", "[I", true)
  | 21 => ("CalledStallsModel", "readScenes", "I", false)
  | 22 => ("CalledStallsModel", "readSitters", "[I", true)
  | 23 => ("CalledStallsModel", "readMany", "I", false)
  | 24 => ("CalledStallsModel", "readSeats", "I", false)
  | 25 => ("CalledStallsModel", "planPrompts", "[I", true)
  | 26 => ("CalledStallsModel", "planApplause", "[I", true)
  | 27 => ("CalledStallsModel", "planCarried", "[I", true)
  | 28 => ("CalledStallsModel", "planCalled", "[I", true)
  | 29 => ("CalledStallsModel", "choices", "[I", true)
  | 30 => ("CalledStallsModel", "planMany", "I", false)
  | 31 => ("CalledStallsModel", "isBegun", "Z", false)
  | _ => ("CalledStallsModel", "bests", "[I", true)
def tyX5 : Nat → FieldType := fun k => match k with
  | 0 => .array .int
  | 1 => .int
  | 2 => .array .int
  | 3 => .int
  | 4 => .array .int
  | 5 => .array .int
  | 6 => .array .int
  | 7 => .array .int
  | 8 => .array .int
  | 9 => .array .int
  | 10 => .array .int
  | 11 => .int
  | 12 => .long
  | 13 => .long
  | 14 => .int
  | 15 => .array .int
  | 16 => .int
  | 17 => .int
  | 18 => .int
  | 19 => .int
  | 20 => .array .int
  | 21 => .int
  | 22 => .array .int
  | 23 => .int
  | 24 => .int
  | 25 => .array .int
  | 26 => .array .int
  | 27 => .array .int
  | 28 => .array .int
  | 29 => .array .int
  | 30 => .int
  | 31 => .boolean
  | _ => .array .int
abbrev wsX50 : List Cond := u_ws RX5 TX5 33
theorem nmX5 : ∀ a, a < 33 → ∀ b, b < 33 → a ≠ b → (TX5 a).2.1 ≠ (TX5 b).2.1 := by decide +kernel
theorem tyX5_ok : ∀ k, k < 33 → parseFieldDescriptor (TX5 k).2.2.1 = some (tyX5 k) := by decide +kernel
abbrev cX5_init : ByteArray := prog_7_method_1_code
def yX5_init : MethodName := ⟨RX5, "<init>", "()V"⟩
abbrev cX5_bits : ByteArray := prog_7_method_2_code
def yX5_bits : MethodName := ⟨RX5, "bits", "(I)I"⟩
abbrev cX5_atLeast : ByteArray := prog_7_method_3_code
def yX5_atLeast : MethodName := ⟨RX5, "atLeast", "(I)I"⟩
abbrev cX5_in : ByteArray := prog_7_method_4_code
def yX5_in : MethodName := ⟨RX5, "in", "(JJJ)Z"⟩
abbrev cX5_has : ByteArray := prog_7_method_5_code
def yX5_has : MethodName := ⟨RX5, "has", "(II)Z"⟩
abbrev cX5_find : ByteArray := prog_7_method_6_code
def yX5_find : MethodName := ⟨RX5, "find", "(I)I"⟩
abbrev cX5_tell : ByteArray := prog_7_method_7_code
def yX5_tell : MethodName := ⟨RX5, "tell", "(I)I"⟩
abbrev cX5_isRow : ByteArray := prog_7_method_8_code
def yX5_isRow : MethodName := ⟨RX5, "isRow", "(I)Z"⟩
abbrev cX5_isText : ByteArray := prog_7_method_9_code
def yX5_isText : MethodName := ⟨RX5, "isText", "(I)Z"⟩
abbrev cX5_row : ByteArray := prog_7_method_10_code
def yX5_row : MethodName := ⟨RX5, "row", "(II)I"⟩
abbrev cX5_makeRow : ByteArray := prog_7_method_11_code
def yX5_makeRow : MethodName := ⟨RX5, "makeRow", "(II)V"⟩
abbrev cX5_refused : ByteArray := prog_7_method_12_code
def yX5_refused : MethodName := ⟨RX5, "refused", "(II)I"⟩
abbrev cX5_lay : ByteArray := prog_7_method_13_code
def yX5_lay : MethodName := ⟨RX5, "lay", "(III)I"⟩
abbrev cX5_at : ByteArray := prog_7_method_14_code
def yX5_at : MethodName := ⟨RX5, "at", "(II)I"⟩
abbrev cX5_tear : ByteArray := prog_7_method_15_code
def yX5_tear : MethodName := ⟨RX5, "tear", "(I)I"⟩
abbrev cX5_isSpan : ByteArray := prog_7_method_16_code
def yX5_isSpan : MethodName := ⟨RX5, "isSpan", "(III)Z"⟩
abbrev cX5_copy : ByteArray := prog_7_method_17_code
def yX5_copy : MethodName := ⟨RX5, "copy", "(IIIII)I"⟩
abbrev cX5_mean : ByteArray := prog_7_method_18_code
def yX5_mean : MethodName := ⟨RX5, "mean", "(I)I"⟩
abbrev cX5_text : ByteArray := prog_7_method_19_code
def yX5_text : MethodName := ⟨RX5, "text", "(II)I"⟩
abbrev cX5_put : ByteArray := prog_7_method_20_code
def yX5_put : MethodName := ⟨RX5, "put", "(III)I"⟩
abbrev cX5_here : ByteArray := prog_7_method_21_code
def yX5_here : MethodName := ⟨RX5, "here", "()I"⟩
abbrev cX5_skip : ByteArray := prog_7_method_22_code
def yX5_skip : MethodName := ⟨RX5, "skip", "()V"⟩
abbrev cX5_isFigure : ByteArray := prog_7_method_23_code
def yX5_isFigure : MethodName := ⟨RX5, "isFigure", "(II)Z"⟩
abbrev cX5_figure : ByteArray := prog_7_method_24_code
def yX5_figure : MethodName := ⟨RX5, "figure", "(II)I"⟩
abbrev cX5_readsPlay : ByteArray := prog_7_method_25_code
def yX5_readsPlay : MethodName := ⟨RX5, "readsPlay", "()Z"⟩
abbrev cX5_kindOfLetter : ByteArray := prog_7_method_26_code
def yX5_kindOfLetter : MethodName := ⟨RX5, "kindOfLetter", "(I)I"⟩
abbrev cX5_readsSitter : ByteArray := prog_7_method_27_code
def yX5_readsSitter : MethodName := ⟨RX5, "readsSitter", "()Z"⟩
abbrev cX5_faultOf : ByteArray := prog_7_method_28_code
def yX5_faultOf : MethodName := ⟨RX5, "faultOf", "(I)I"⟩
abbrev cX5_fault : ByteArray := prog_7_method_29_code
def yX5_fault : MethodName := ⟨RX5, "fault", "(I)I"⟩
abbrev cX5_house : ByteArray := prog_7_method_30_code
def yX5_house : MethodName := ⟨RX5, "house", "(I)I"⟩
abbrev cX5_isSitter : ByteArray := prog_7_method_31_code
def yX5_isSitter : MethodName := ⟨RX5, "isSitter", "(I)Z"⟩
abbrev cX5_isUncle : ByteArray := prog_7_method_32_code
def yX5_isUncle : MethodName := ⟨RX5, "isUncle", "(I)Z"⟩
abbrev cX5_isClerk : ByteArray := prog_7_method_33_code
def yX5_isClerk : MethodName := ⟨RX5, "isClerk", "(I)Z"⟩
abbrev cX5_claques : ByteArray := prog_7_method_34_code
def yX5_claques : MethodName := ⟨RX5, "claques", "(II)I"⟩
abbrev cX5_fearsBy : ByteArray := prog_7_method_35_code
def yX5_fearsBy : MethodName := ⟨RX5, "fearsBy", "(III)I"⟩
abbrev cX5_saysBy : ByteArray := prog_7_method_36_code
def yX5_saysBy : MethodName := ⟨RX5, "saysBy", "(IIIII)I"⟩
abbrev cX5_saysOf : ByteArray := prog_7_method_37_code
def yX5_saysOf : MethodName := ⟨RX5, "saysOf", "(III)I"⟩
abbrev cX5_canSit : ByteArray := prog_7_method_38_code
def yX5_canSit : MethodName := ⟨RX5, "canSit", "(I)Z"⟩
abbrev cX5_mayCall : ByteArray := prog_7_method_39_code
def yX5_mayCall : MethodName := ⟨RX5, "mayCall", "(II)Z"⟩
abbrev cX5_saysNow : ByteArray := prog_7_method_40_code
def yX5_saysNow : MethodName := ⟨RX5, "saysNow", "(I)I"⟩
abbrev cX5_toldOf : ByteArray := prog_7_method_41_code
def yX5_toldOf : MethodName := ⟨RX5, "toldOf", "(II)I"⟩
abbrev cX5_sitter : ByteArray := prog_7_method_42_code
def yX5_sitter : MethodName := ⟨RX5, "sitter", "(II)I"⟩
abbrev cX5_isOf : ByteArray := prog_7_method_43_code
def yX5_isOf : MethodName := ⟨RX5, "isOf", "(II)Z"⟩
abbrev cX5_easyScenes : ByteArray := prog_7_method_44_code
def yX5_easyScenes : MethodName := ⟨RX5, "easyScenes", "(I)I"⟩
abbrev cX5_evenOthers : ByteArray := prog_7_method_45_code
def yX5_evenOthers : MethodName := ⟨RX5, "evenOthers", "(I)I"⟩
abbrev cX5_mark : ByteArray := prog_7_method_46_code
def yX5_mark : MethodName := ⟨RX5, "mark", "(II)I"⟩
abbrev cX5_lines : ByteArray := prog_7_method_47_code
def yX5_lines : MethodName := ⟨RX5, "lines", "(I)I"⟩
abbrev cX5_keepPast : ByteArray := prog_7_method_48_code
def yX5_keepPast : MethodName := ⟨RX5, "keepPast", "()V"⟩
abbrev cX5_lacking : ByteArray := prog_7_method_49_code
def yX5_lacking : MethodName := ⟨RX5, "lacking", "(IIII)I"⟩
abbrev cX5_doCall : ByteArray := prog_7_method_50_code
def yX5_doCall : MethodName := ⟨RX5, "doCall", "(I)I"⟩
abbrev cX5_isOver : ByteArray := prog_7_method_51_code
def yX5_isOver : MethodName := ⟨RX5, "isOver", "()Z"⟩
abbrev cX5_call : ByteArray := prog_7_method_52_code
def yX5_call : MethodName := ⟨RX5, "call", "(I)I"⟩
abbrev cX5_doCut : ByteArray := prog_7_method_53_code
def yX5_doCut : MethodName := ⟨RX5, "doCut", "()V"⟩
abbrev cX5_cut : ByteArray := prog_7_method_54_code
def yX5_cut : MethodName := ⟨RX5, "cut", "()I"⟩
abbrev cX5_swapSeats : ByteArray := prog_7_method_55_code
def yX5_swapSeats : MethodName := ⟨RX5, "swapSeats", "(II)V"⟩
abbrev cX5_canBits : ByteArray := prog_7_method_56_code
def yX5_canBits : MethodName := ⟨RX5, "canBits", "(I)I"⟩
abbrev cX5_change : ByteArray := prog_7_method_57_code
def yX5_change : MethodName := ⟨RX5, "change", "(II)I"⟩
abbrev cX5_undo : ByteArray := prog_7_method_58_code
def yX5_undo : MethodName := ⟨RX5, "undo", "(I)I"⟩
abbrev cX5_copyHouse : ByteArray := prog_7_method_59_code
def yX5_copyHouse : MethodName := ⟨RX5, "copyHouse", "(II)V"⟩
abbrev cX5_keep : ByteArray := prog_7_method_60_code
def yX5_keep : MethodName := ⟨RX5, "keep", "(I)I"⟩
abbrev cX5_on : ByteArray := prog_7_method_61_code
def yX5_on : MethodName := ⟨RX5, "on", "(I)I"⟩
abbrev cX5_beginPlans : ByteArray := prog_7_method_62_code
def yX5_beginPlans : MethodName := ⟨RX5, "beginPlans", "(I)V"⟩
abbrev cX5_choose : ByteArray := prog_7_method_63_code
def yX5_choose : MethodName := ⟨RX5, "choose", "(II)V"⟩
abbrev cX5_nextChoice : ByteArray := prog_7_method_64_code
def yX5_nextChoice : MethodName := ⟨RX5, "nextChoice", "(II)I"⟩
abbrev cX5_nextPlan : ByteArray := prog_7_method_65_code
def yX5_nextPlan : MethodName := ⟨RX5, "nextPlan", "()Z"⟩
abbrev cX5_can : ByteArray := prog_7_method_66_code
def yX5_can : MethodName := ⟨RX5, "can", "()I"⟩
abbrev cX5_noPlan : ByteArray := prog_7_method_67_code
def yX5_noPlan : MethodName := ⟨RX5, "noPlan", "(I)I"⟩
abbrev cX5_play : ByteArray := prog_7_method_68_code
def yX5_play : MethodName := ⟨RX5, "play", "(I)I"⟩
abbrev cX5_best : ByteArray := prog_7_method_69_code
def yX5_best : MethodName := ⟨RX5, "best", "(I)I"⟩
abbrev cX5_least : ByteArray := prog_7_method_70_code
def yX5_least : MethodName := ⟨RX5, "least", "()I"⟩
abbrev cX5_ways : ByteArray := prog_7_method_71_code
def yX5_ways : MethodName := ⟨RX5, "ways", "(I)I"⟩
abbrev cX5_mostCarried : ByteArray := prog_7_method_72_code
def yX5_mostCarried : MethodName := ⟨RX5, "mostCarried", "()I"⟩
abbrev cX5_seats : ByteArray := prog_7_method_73_code
def yX5_seats : MethodName := ⟨RX5, "seats", "()I"⟩
abbrev cX5_seatsOf : ByteArray := prog_7_method_74_code
def yX5_seatsOf : MethodName := ⟨RX5, "seatsOf", "(I)I"⟩
abbrev cX5_beside : ByteArray := prog_7_method_75_code
def yX5_beside : MethodName := ⟨RX5, "beside", "()I"⟩
abbrev cX5_apart : ByteArray := prog_7_method_76_code
def yX5_apart : MethodName := ⟨RX5, "apart", "()I"⟩
abbrev cX5_noNotices : ByteArray := prog_7_method_77_code
def yX5_noNotices : MethodName := ⟨RX5, "noNotices", "(I)I"⟩
abbrev cX5_isNoticed : ByteArray := prog_7_method_78_code
def yX5_isNoticed : MethodName := ⟨RX5, "isNoticed", "(IIIII)Z"⟩
abbrev cX5_frights : ByteArray := prog_7_method_79_code
def yX5_frights : MethodName := ⟨RX5, "frights", "(II)I"⟩
abbrev cX5_kinds : ByteArray := prog_7_method_80_code
def yX5_kinds : MethodName := ⟨RX5, "kinds", "(II)I"⟩
abbrev cX5_whom : ByteArray := prog_7_method_81_code
def yX5_whom : MethodName := ⟨RX5, "whom", "(I)I"⟩
abbrev cX5_beginTurn : ByteArray := prog_7_method_82_code
def yX5_beginTurn : MethodName := ⟨RX5, "beginTurn", "(I)V"⟩
abbrev cX5_take : ByteArray := prog_7_method_83_code
def yX5_take : MethodName := ⟨RX5, "take", "(II)V"⟩
abbrev cX5_duel : ByteArray := prog_7_method_84_code
def yX5_duel : MethodName := ⟨RX5, "duel", "(I)I"⟩
abbrev cX5_divisor : ByteArray := prog_7_method_85_code
def yX5_divisor : MethodName := ⟨RX5, "divisor", "(JJ)J"⟩
abbrev cX5_tellParts : ByteArray := prog_7_method_86_code
def yX5_tellParts : MethodName := ⟨RX5, "tellParts", "(JJ)I"⟩
abbrev cX5_isDrawn : ByteArray := prog_7_method_87_code
def yX5_isDrawn : MethodName := ⟨RX5, "isDrawn", "()Z"⟩
abbrev cX5_odds : ByteArray := prog_7_method_88_code
def yX5_odds : MethodName := ⟨RX5, "odds", "(I)I"⟩
abbrev cX5_mid : ByteArray := prog_7_method_89_code
def yX5_mid : MethodName := ⟨RX5, "mid", "()I"⟩
abbrev cX5_nth : ByteArray := prog_7_method_90_code
def yX5_nth : MethodName := ⟨RX5, "nth", "(II)I"⟩
abbrev cX5_lots : ByteArray := prog_7_method_91_code
def yX5_lots : MethodName := ⟨RX5, "lots", "(I)I"⟩
abbrev cX5_asked : ByteArray := prog_7_method_92_code
def yX5_asked : MethodName := ⟨RX5, "asked", "()I"⟩
abbrev cX5_upper : ByteArray := prog_7_method_93_code
def yX5_upper : MethodName := ⟨RX5, "upper", "()J"⟩
abbrev cX5_lower : ByteArray := prog_7_method_94_code
def yX5_lower : MethodName := ⟨RX5, "lower", "()J"⟩
abbrev cX5_clerks : ByteArray := prog_7_method_95_code
def yX5_clerks : MethodName := ⟨RX5, "clerks", "()I"⟩
abbrev cX5_thereOf : ByteArray := prog_7_method_96_code
def yX5_thereOf : MethodName := ⟨RX5, "thereOf", "(I)I"⟩
abbrev cX5_countOf : ByteArray := prog_7_method_97_code
def yX5_countOf : MethodName := ⟨RX5, "countOf", "(I)I"⟩
abbrev cX5_count : ByteArray := prog_7_method_98_code
def yX5_count : MethodName := ⟨RX5, "count", "(I)I"⟩
abbrev cX5_applause : ByteArray := prog_7_method_99_code
def yX5_applause : MethodName := ⟨RX5, "applause", "()I"⟩
abbrev cX5_finding : ByteArray := prog_7_method_100_code
def yX5_finding : MethodName := ⟨RX5, "finding", "()I"⟩
abbrev cX5_findings : ByteArray := prog_7_method_101_code
def yX5_findings : MethodName := ⟨RX5, "findings", "(I)I"⟩
abbrev cX5_digest : ByteArray := prog_7_method_102_code
def yX5_digest : MethodName := ⟨RX5, "digest", "()J"⟩
def RJ6 : String := "java/lang/Integer"
def TJ6 : u_T := fun k => match k with
  | _ => ("", "", "", false)
def tyJ6 : Nat → FieldType := fun k => match k with
  | _ => .int
abbrev wsJ60 : List Cond := u_ws RJ6 TJ6 0
theorem nmJ6 : ∀ a, a < 0 → ∀ b, b < 0 → a ≠ b → (TJ6 a).2.1 ≠ (TJ6 b).2.1 := by decide +kernel
theorem tyJ6_ok : ∀ k, k < 0 → parseFieldDescriptor (TJ6 k).2.2.1 = some (tyJ6 k) := by decide +kernel
abbrev cJ6_bitCount_0f7a4 : ByteArray := prog_8_method_49_code
def yJ6_bitCount_0f7a4 : MethodName := ⟨RJ6, "bitCount", "(I)I"⟩
def RJ9 : String := "java/lang/Math"
def TJ9 : u_T := fun k => match k with
  | _ => ("", "", "", false)
def tyJ9 : Nat → FieldType := fun k => match k with
  | _ => .int
abbrev wsJ90 : List Cond := u_ws RJ9 TJ9 0
theorem nmJ9 : ∀ a, a < 0 → ∀ b, b < 0 → a ≠ b → (TJ9 a).2.1 ≠ (TJ9 b).2.1 := by decide +kernel
theorem tyJ9_ok : ∀ k, k < 0 → parseFieldDescriptor (TJ9 k).2.2.1 = some (tyJ9 k) := by decide +kernel
abbrev cJ9_floorMod_7cf53 : ByteArray := prog_9_method_50_code
def yJ9_floorMod_7cf53 : MethodName := ⟨RJ9, "floorMod", "(II)I"⟩
abbrev cJ9_abs_067f4 : ByteArray := prog_9_method_61_code
def yJ9_abs_067f4 : MethodName := ⟨RJ9, "abs", "(J)J"⟩
abbrev cJ9_max_7cf53 : ByteArray := prog_9_method_65_code
def yJ9_max_7cf53 : MethodName := ⟨RJ9, "max", "(II)I"⟩
abbrev cJ9_min_7cf53 : ByteArray := prog_9_method_69_code
def yJ9_min_7cf53 : MethodName := ⟨RJ9, "min", "(II)I"⟩
def RJ10 : String := "java/lang/System"
def TJ10 : u_T := fun k => match k with
  | _ => ("", "", "", false)
def tyJ10 : Nat → FieldType := fun k => match k with
  | _ => .int
abbrev wsJ100 : List Cond := u_ws RJ10 TJ10 0
theorem nmJ10 : ∀ a, a < 0 → ∀ b, b < 0 → a ≠ b → (TJ10 a).2.1 ≠ (TJ10 b).2.1 := by decide +kernel
theorem tyJ10_ok : ∀ k, k < 0 → parseFieldDescriptor (TJ10 k).2.2.1 = some (tyJ10 k) := by decide +kernel
def RJ7 : String := "java/util/Arrays"
def TJ7 : u_T := fun k => match k with
  | _ => ("", "", "", false)
def tyJ7 : Nat → FieldType := fun k => match k with
  | _ => .int
abbrev wsJ70 : List Cond := u_ws RJ7 TJ7 0
theorem nmJ7 : ∀ a, a < 0 → ∀ b, b < 0 → a ≠ b → (TJ7 a).2.1 ≠ (TJ7 b).2.1 := by decide +kernel
theorem tyJ7_ok : ∀ k, k < 0 → parseFieldDescriptor (TJ7 k).2.2.1 = some (tyJ7 k) := by decide +kernel
abbrev cJ7_fill_53178 : ByteArray := prog_11_method_103_code
def yJ7_fill_53178 : MethodName := ⟨RJ7, "fill", "([II)V"⟩
def RL : String := "CalledStallsLaw"
abbrev cL_law : ByteArray := code
def yL_law : MethodName := ⟨RL, "law", "([I)Z"⟩
theorem inJ6 : ∀ w ∈ wsJ60, w ∈ lw_tbl := by decide +kernel
theorem inJ9 : ∀ w ∈ wsJ90, w ∈ lw_tbl := by decide +kernel
theorem inJ10 : ∀ w ∈ wsJ100, w ∈ lw_tbl := by decide +kernel
theorem inJ7 : ∀ w ∈ wsJ70, w ∈ lw_tbl := by decide +kernel
abbrev vwCl : List vw_C := [(RX0, TX0, 10), (RX1, TX1, 10), (RX2, TX2, 16), (RX3, TX3, 2), (RX4, TX4, 12), (RX5, TX5, 33)]
end
section
theorem dX0_init_0 : decode cX0_init 0 = .ok (.aload_n 0, 1) := by decide +kernel
theorem dX0_init_1 : decode cX0_init 1 = .ok (.invokespecial 3, 3) := by decide +kernel
theorem dX0_init_4 : decode cX0_init 4 = .ok (.aload_n 0, 1) := by decide +kernel
theorem dX0_init_5 : decode cX0_init 5 = .ok (.bipush 6, 2) := by decide +kernel
theorem dX0_init_7 : decode cX0_init 7 = .ok (.newarray .int, 2) := by decide +kernel
theorem dX0_init_9 : decode cX0_init 9 = .ok (.putfield 9, 3) := by decide +kernel
theorem dX0_init_12 : decode cX0_init 12 = .ok (.aload_n 0, 1) := by decide +kernel
theorem dX0_init_13 : decode cX0_init 13 = .ok (.bipush 40, 2) := by decide +kernel
theorem dX0_init_15 : decode cX0_init 15 = .ok (.newarray .int, 2) := by decide +kernel
theorem dX0_init_17 : decode cX0_init 17 = .ok (.putfield 15, 3) := by decide +kernel
theorem dX0_init_20 : decode cX0_init 20 = .ok (.aload_n 0, 1) := by decide +kernel
theorem dX0_init_21 : decode cX0_init 21 = .ok (.aload_n 1, 1) := by decide +kernel
theorem dX0_init_22 : decode cX0_init 22 = .ok (.putfield 18, 3) := by decide +kernel
theorem dX0_init_25 : decode cX0_init 25 = .ok (.return_, 1) := by decide +kernel
theorem dX0_begin_0 : decode cX0_begin 0 = .ok (.aload_n 0, 1) := by decide +kernel
theorem dX0_begin_1 : decode cX0_begin 1 = .ok (.getfield 18, 3) := by decide +kernel
theorem dX0_begin_4 : decode cX0_begin 4 = .ok (.getfield 22, 3) := by decide +kernel
theorem dX0_begin_7 : decode cX0_begin 7 = .ok (.iconst 0, 1) := by decide +kernel
theorem dX0_begin_8 : decode cX0_begin 8 = .ok (.aload_n 0, 1) := by decide +kernel
theorem dX0_begin_9 : decode cX0_begin 9 = .ok (.getfield 9, 3) := by decide +kernel
theorem dX0_begin_12 : decode cX0_begin 12 = .ok (.iconst 0, 1) := by decide +kernel
theorem dX0_begin_13 : decode cX0_begin 13 = .ok (.bipush 6, 2) := by decide +kernel
theorem dX0_begin_15 : decode cX0_begin 15 = .ok (.invokestatic 25, 3) := by decide +kernel
theorem dX0_begin_18 : decode cX0_begin 18 = .ok (.aload_n 0, 1) := by decide +kernel
theorem dX0_begin_19 : decode cX0_begin 19 = .ok (.iconst 0, 1) := by decide +kernel
theorem dX0_begin_20 : decode cX0_begin 20 = .ok (.putfield 31, 3) := by decide +kernel
theorem dX0_begin_23 : decode cX0_begin 23 = .ok (.aload_n 0, 1) := by decide +kernel
theorem dX0_begin_24 : decode cX0_begin 24 = .ok (.iconst 0, 1) := by decide +kernel
theorem dX0_begin_25 : decode cX0_begin 25 = .ok (.putfield 35, 3) := by decide +kernel
theorem dX0_begin_28 : decode cX0_begin 28 = .ok (.aload_n 0, 1) := by decide +kernel
theorem dX0_begin_29 : decode cX0_begin 29 = .ok (.iconst 0, 1) := by decide +kernel
theorem dX0_begin_30 : decode cX0_begin 30 = .ok (.putfield 38, 3) := by decide +kernel
theorem dX0_begin_33 : decode cX0_begin 33 = .ok (.aload_n 0, 1) := by decide +kernel
theorem dX0_begin_34 : decode cX0_begin 34 = .ok (.aload_n 0, 1) := by decide +kernel
theorem dX0_begin_35 : decode cX0_begin 35 = .ok (.getfield 18, 3) := by decide +kernel
theorem dX0_begin_38 : decode cX0_begin 38 = .ok (.getfield 41, 3) := by decide +kernel
theorem dX0_begin_41 : decode cX0_begin 41 = .ok (.putfield 44, 3) := by decide +kernel
theorem dX0_begin_44 : decode cX0_begin 44 = .ok (.aload_n 0, 1) := by decide +kernel
theorem dX0_begin_45 : decode cX0_begin 45 = .ok (.iconst 0, 1) := by decide +kernel
theorem dX0_begin_46 : decode cX0_begin 46 = .ok (.putfield 47, 3) := by decide +kernel
theorem dX0_begin_49 : decode cX0_begin 49 = .ok (.aload_n 0, 1) := by decide +kernel
theorem dX0_begin_50 : decode cX0_begin 50 = .ok (.iconst 0, 1) := by decide +kernel
theorem dX0_begin_51 : decode cX0_begin 51 = .ok (.putfield 50, 3) := by decide +kernel
theorem dX0_begin_54 : decode cX0_begin 54 = .ok (.aload_n 0, 1) := by decide +kernel
theorem dX0_begin_55 : decode cX0_begin 55 = .ok (.iconst 0, 1) := by decide +kernel
theorem dX0_begin_56 : decode cX0_begin 56 = .ok (.putfield 53, 3) := by decide +kernel
theorem dX0_begin_59 : decode cX0_begin 59 = .ok (.return_, 1) := by decide +kernel
theorem dX0_deedOfChange_0 : decode cX0_deedOfChange 0 = .ok (.bipush 10, 2) := by decide +kernel
theorem dX0_deedOfChange_2 : decode cX0_deedOfChange 2 = .ok (.iload_n 0, 1) := by decide +kernel
theorem dX0_deedOfChange_3 : decode cX0_deedOfChange 3 = .ok (.bipush 6, 2) := by decide +kernel
theorem dX0_deedOfChange_5 : decode cX0_deedOfChange 5 = .ok (.imul, 1) := by decide +kernel
theorem dX0_deedOfChange_6 : decode cX0_deedOfChange 6 = .ok (.iadd, 1) := by decide +kernel
theorem dX0_deedOfChange_7 : decode cX0_deedOfChange 7 = .ok (.iload_n 1, 1) := by decide +kernel
theorem dX0_deedOfChange_8 : decode cX0_deedOfChange 8 = .ok (.iadd, 1) := by decide +kernel
theorem dX0_deedOfChange_9 : decode cX0_deedOfChange 9 = .ok (.ireturn, 1) := by decide +kernel
theorem dX0_perform_0 : decode cX0_perform 0 = .ok (.aload_n 0, 1) := by decide +kernel
theorem dX0_perform_1 : decode cX0_perform 1 = .ok (.getfield 31, 3) := by decide +kernel
theorem dX0_perform_4 : decode cX0_perform 4 = .ok (.bipush 40, 2) := by decide +kernel
theorem dX0_perform_6 : decode cX0_perform 6 = .ok (.if_icmp .lt 4, 3) := by decide +kernel
theorem dX0_perform_9 : decode cX0_perform 9 = .ok (.return_, 1) := by decide +kernel
theorem dX0_perform_10 : decode cX0_perform 10 = .ok (.aload_n 0, 1) := by decide +kernel
theorem dX0_perform_11 : decode cX0_perform 11 = .ok (.getfield 15, 3) := by decide +kernel
theorem dX0_perform_14 : decode cX0_perform 14 = .ok (.aload_n 0, 1) := by decide +kernel
theorem dX0_perform_15 : decode cX0_perform 15 = .ok (.getfield 31, 3) := by decide +kernel
theorem dX0_perform_18 : decode cX0_perform 18 = .ok (.iload_n 1, 1) := by decide +kernel
theorem dX0_perform_19 : decode cX0_perform 19 = .ok (.iastore, 1) := by decide +kernel
theorem dX0_perform_20 : decode cX0_perform 20 = .ok (.aload_n 0, 1) := by decide +kernel
theorem dX0_perform_21 : decode cX0_perform 21 = .ok (.dup, 1) := by decide +kernel
theorem dX0_perform_22 : decode cX0_perform 22 = .ok (.getfield 31, 3) := by decide +kernel
theorem dX0_perform_25 : decode cX0_perform 25 = .ok (.iconst 1, 1) := by decide +kernel
theorem dX0_perform_26 : decode cX0_perform 26 = .ok (.iadd, 1) := by decide +kernel
theorem dX0_perform_27 : decode cX0_perform 27 = .ok (.putfield 31, 3) := by decide +kernel
theorem dX0_perform_30 : decode cX0_perform 30 = .ok (.iload_n 1, 1) := by decide +kernel
theorem dX0_perform_31 : decode cX0_perform 31 = .ok (.bipush 10, 2) := by decide +kernel
theorem dX0_perform_33 : decode cX0_perform 33 = .ok (.if_icmp .lt 22, 3) := by decide +kernel
theorem dX0_perform_36 : decode cX0_perform 36 = .ok (.aload_n 0, 1) := by decide +kernel
theorem dX0_perform_37 : decode cX0_perform 37 = .ok (.iload_n 1, 1) := by decide +kernel
theorem dX0_perform_38 : decode cX0_perform 38 = .ok (.bipush 10, 2) := by decide +kernel
theorem dX0_perform_40 : decode cX0_perform 40 = .ok (.isub, 1) := by decide +kernel
theorem dX0_perform_41 : decode cX0_perform 41 = .ok (.bipush 6, 2) := by decide +kernel
theorem dX0_perform_43 : decode cX0_perform 43 = .ok (.idiv, 1) := by decide +kernel
theorem dX0_perform_44 : decode cX0_perform 44 = .ok (.iload_n 1, 1) := by decide +kernel
theorem dX0_perform_45 : decode cX0_perform 45 = .ok (.bipush 10, 2) := by decide +kernel
theorem dX0_perform_47 : decode cX0_perform 47 = .ok (.isub, 1) := by decide +kernel
theorem dX0_perform_48 : decode cX0_perform 48 = .ok (.bipush 6, 2) := by decide +kernel
theorem dX0_perform_50 : decode cX0_perform 50 = .ok (.irem, 1) := by decide +kernel
theorem dX0_perform_51 : decode cX0_perform 51 = .ok (.invokevirtual 56, 3) := by decide +kernel
theorem dX0_perform_54 : decode cX0_perform 54 = .ok (.return_, 1) := by decide +kernel
theorem dX0_perform_55 : decode cX0_perform 55 = .ok (.iload_n 1, 1) := by decide +kernel
theorem dX0_perform_56 : decode cX0_perform 56 = .ok (.bipush (-9), 2) := by decide +kernel
theorem dX0_perform_58 : decode cX0_perform 58 = .ok (.if_icmp .eq 8, 3) := by decide +kernel
theorem dX0_perform_61 : decode cX0_perform 61 = .ok (.aload_n 0, 1) := by decide +kernel
theorem dX0_perform_62 : decode cX0_perform 62 = .ok (.iload_n 1, 1) := by decide +kernel
theorem dX0_perform_63 : decode cX0_perform 63 = .ok (.invokevirtual 60, 3) := by decide +kernel
theorem dX0_perform_66 : decode cX0_perform 66 = .ok (.aload_n 0, 1) := by decide +kernel
theorem dX0_perform_67 : decode cX0_perform 67 = .ok (.dup, 1) := by decide +kernel
theorem dX0_perform_68 : decode cX0_perform 68 = .ok (.getfield 35, 3) := by decide +kernel
theorem dX0_perform_71 : decode cX0_perform 71 = .ok (.iconst 1, 1) := by decide +kernel
theorem dX0_perform_72 : decode cX0_perform 72 = .ok (.iadd, 1) := by decide +kernel
theorem dX0_perform_73 : decode cX0_perform 73 = .ok (.putfield 35, 3) := by decide +kernel
theorem dX0_perform_76 : decode cX0_perform 76 = .ok (.return_, 1) := by decide +kernel
theorem dX0_playScene_0 : decode cX0_playScene 0 = .ok (.aload_n 0, 1) := by decide +kernel
theorem dX0_playScene_1 : decode cX0_playScene 1 = .ok (.getfield 18, 3) := by decide +kernel
theorem dX0_playScene_4 : decode cX0_playScene 4 = .ok (.iload_n 1, 1) := by decide +kernel
theorem dX0_playScene_5 : decode cX0_playScene 5 = .ok (.aload_n 0, 1) := by decide +kernel
theorem dX0_playScene_6 : decode cX0_playScene 6 = .ok (.getfield 35, 3) := by decide +kernel
theorem dX0_playScene_9 : decode cX0_playScene 9 = .ok (.aload_n 0, 1) := by decide +kernel
theorem dX0_playScene_10 : decode cX0_playScene 10 = .ok (.getfield 38, 3) := by decide +kernel
theorem dX0_playScene_13 : decode cX0_playScene 13 = .ok (.aload_n 0, 1) := by decide +kernel
theorem dX0_playScene_14 : decode cX0_playScene 14 = .ok (.getfield 50, 3) := by decide +kernel
theorem dX0_playScene_17 : decode cX0_playScene 17 = .ok (.invokevirtual 64, 3) := by decide +kernel
theorem dX0_playScene_20 : decode cX0_playScene 20 = .ok (.istore_n 2, 1) := by decide +kernel
theorem dX0_playScene_21 : decode cX0_playScene 21 = .ok (.iload_n 2, 1) := by decide +kernel
theorem dX0_playScene_22 : decode cX0_playScene 22 = .ok (.aload_n 0, 1) := by decide +kernel
theorem dX0_playScene_23 : decode cX0_playScene 23 = .ok (.getfield 44, 3) := by decide +kernel
theorem dX0_playScene_26 : decode cX0_playScene 26 = .ok (.if_icmp .gt 54, 3) := by decide +kernel
theorem dX0_playScene_29 : decode cX0_playScene 29 = .ok (.aload_n 0, 1) := by decide +kernel
theorem dX0_playScene_30 : decode cX0_playScene 30 = .ok (.dup, 1) := by decide +kernel
theorem dX0_playScene_31 : decode cX0_playScene 31 = .ok (.getfield 44, 3) := by decide +kernel
theorem dX0_playScene_34 : decode cX0_playScene 34 = .ok (.iload_n 2, 1) := by decide +kernel
theorem dX0_playScene_35 : decode cX0_playScene 35 = .ok (.isub, 1) := by decide +kernel
theorem dX0_playScene_36 : decode cX0_playScene 36 = .ok (.putfield 44, 3) := by decide +kernel
theorem dX0_playScene_39 : decode cX0_playScene 39 = .ok (.aload_n 0, 1) := by decide +kernel
theorem dX0_playScene_40 : decode cX0_playScene 40 = .ok (.dup, 1) := by decide +kernel
theorem dX0_playScene_41 : decode cX0_playScene 41 = .ok (.getfield 47, 3) := by decide +kernel
theorem dX0_playScene_44 : decode cX0_playScene 44 = .ok (.iload_n 2, 1) := by decide +kernel
theorem dX0_playScene_45 : decode cX0_playScene 45 = .ok (.iadd, 1) := by decide +kernel
theorem dX0_playScene_46 : decode cX0_playScene 46 = .ok (.putfield 47, 3) := by decide +kernel
theorem dX0_playScene_49 : decode cX0_playScene 49 = .ok (.aload_n 0, 1) := by decide +kernel
theorem dX0_playScene_50 : decode cX0_playScene 50 = .ok (.dup, 1) := by decide +kernel
theorem dX0_playScene_51 : decode cX0_playScene 51 = .ok (.getfield 50, 3) := by decide +kernel
theorem dX0_playScene_54 : decode cX0_playScene 54 = .ok (.iload_n 2, 1) := by decide +kernel
theorem dX0_playScene_55 : decode cX0_playScene 55 = .ok (.ifCond .ne 7, 3) := by decide +kernel
theorem dX0_playScene_58 : decode cX0_playScene 58 = .ok (.iconst 2, 1) := by decide +kernel
theorem dX0_playScene_59 : decode cX0_playScene 59 = .ok (.goto 4, 3) := by decide +kernel
theorem dX0_playScene_62 : decode cX0_playScene 62 = .ok (.iconst 1, 1) := by decide +kernel
theorem dX0_playScene_63 : decode cX0_playScene 63 = .ok (.iadd, 1) := by decide +kernel
theorem dX0_playScene_64 : decode cX0_playScene 64 = .ok (.putfield 50, 3) := by decide +kernel
theorem dX0_playScene_67 : decode cX0_playScene 67 = .ok (.aload_n 0, 1) := by decide +kernel
theorem dX0_playScene_68 : decode cX0_playScene 68 = .ok (.dup, 1) := by decide +kernel
theorem dX0_playScene_69 : decode cX0_playScene 69 = .ok (.getfield 53, 3) := by decide +kernel
theorem dX0_playScene_72 : decode cX0_playScene 72 = .ok (.iconst 1, 1) := by decide +kernel
theorem dX0_playScene_73 : decode cX0_playScene 73 = .ok (.iadd, 1) := by decide +kernel
theorem dX0_playScene_74 : decode cX0_playScene 74 = .ok (.putfield 53, 3) := by decide +kernel
theorem dX0_playScene_77 : decode cX0_playScene 77 = .ok (.goto 13, 3) := by decide +kernel
theorem dX0_playScene_80 : decode cX0_playScene 80 = .ok (.aload_n 0, 1) := by decide +kernel
theorem dX0_playScene_81 : decode cX0_playScene 81 = .ok (.dup, 1) := by decide +kernel
theorem dX0_playScene_82 : decode cX0_playScene 82 = .ok (.getfield 50, 3) := by decide +kernel
theorem dX0_playScene_85 : decode cX0_playScene 85 = .ok (.iconst 1, 1) := by decide +kernel
theorem dX0_playScene_86 : decode cX0_playScene 86 = .ok (.isub, 1) := by decide +kernel
theorem dX0_playScene_87 : decode cX0_playScene 87 = .ok (.putfield 50, 3) := by decide +kernel
theorem dX0_playScene_90 : decode cX0_playScene 90 = .ok (.aload_n 0, 1) := by decide +kernel
theorem dX0_playScene_91 : decode cX0_playScene 91 = .ok (.dup, 1) := by decide +kernel
theorem dX0_playScene_92 : decode cX0_playScene 92 = .ok (.getfield 38, 3) := by decide +kernel
theorem dX0_playScene_95 : decode cX0_playScene 95 = .ok (.iconst 1, 1) := by decide +kernel
theorem dX0_playScene_96 : decode cX0_playScene 96 = .ok (.iload_n 1, 1) := by decide +kernel
theorem dX0_playScene_97 : decode cX0_playScene 97 = .ok (.ishl, 1) := by decide +kernel
theorem dX0_playScene_98 : decode cX0_playScene 98 = .ok (.ior, 1) := by decide +kernel
theorem dX0_playScene_99 : decode cX0_playScene 99 = .ok (.putfield 38, 3) := by decide +kernel
theorem dX0_playScene_102 : decode cX0_playScene 102 = .ok (.return_, 1) := by decide +kernel
theorem dX0_exchange_0 : decode cX0_exchange 0 = .ok (.aload_n 0, 1) := by decide +kernel
theorem dX0_exchange_1 : decode cX0_exchange 1 = .ok (.getfield 18, 3) := by decide +kernel
theorem dX0_exchange_4 : decode cX0_exchange 4 = .ok (.iload_n 1, 1) := by decide +kernel
theorem dX0_exchange_5 : decode cX0_exchange 5 = .ok (.invokevirtual 68, 3) := by decide +kernel
theorem dX0_exchange_8 : decode cX0_exchange 8 = .ok (.ifCond .eq 40, 3) := by decide +kernel
theorem dX0_exchange_11 : decode cX0_exchange 11 = .ok (.aload_n 0, 1) := by decide +kernel
theorem dX0_exchange_12 : decode cX0_exchange 12 = .ok (.getfield 18, 3) := by decide +kernel
theorem dX0_exchange_15 : decode cX0_exchange 15 = .ok (.iload_n 2, 1) := by decide +kernel
theorem dX0_exchange_16 : decode cX0_exchange 16 = .ok (.invokevirtual 68, 3) := by decide +kernel
theorem dX0_exchange_19 : decode cX0_exchange 19 = .ok (.ifCond .eq 29, 3) := by decide +kernel
theorem dX0_exchange_22 : decode cX0_exchange 22 = .ok (.aload_n 0, 1) := by decide +kernel
theorem dX0_exchange_23 : decode cX0_exchange 23 = .ok (.getfield 9, 3) := by decide +kernel
theorem dX0_exchange_26 : decode cX0_exchange 26 = .ok (.iload_n 1, 1) := by decide +kernel
theorem dX0_exchange_27 : decode cX0_exchange 27 = .ok (.iaload, 1) := by decide +kernel
theorem dX0_exchange_28 : decode cX0_exchange 28 = .ok (.istore_n 3, 1) := by decide +kernel
theorem dX0_exchange_29 : decode cX0_exchange 29 = .ok (.aload_n 0, 1) := by decide +kernel
theorem dX0_exchange_30 : decode cX0_exchange 30 = .ok (.getfield 9, 3) := by decide +kernel
theorem dX0_exchange_33 : decode cX0_exchange 33 = .ok (.iload_n 1, 1) := by decide +kernel
theorem dX0_exchange_34 : decode cX0_exchange 34 = .ok (.aload_n 0, 1) := by decide +kernel
theorem dX0_exchange_35 : decode cX0_exchange 35 = .ok (.getfield 9, 3) := by decide +kernel
theorem dX0_exchange_38 : decode cX0_exchange 38 = .ok (.iload_n 2, 1) := by decide +kernel
theorem dX0_exchange_39 : decode cX0_exchange 39 = .ok (.iaload, 1) := by decide +kernel
theorem dX0_exchange_40 : decode cX0_exchange 40 = .ok (.iastore, 1) := by decide +kernel
theorem dX0_exchange_41 : decode cX0_exchange 41 = .ok (.aload_n 0, 1) := by decide +kernel
theorem dX0_exchange_42 : decode cX0_exchange 42 = .ok (.getfield 9, 3) := by decide +kernel
theorem dX0_exchange_45 : decode cX0_exchange 45 = .ok (.iload_n 2, 1) := by decide +kernel
theorem dX0_exchange_46 : decode cX0_exchange 46 = .ok (.iload_n 3, 1) := by decide +kernel
theorem dX0_exchange_47 : decode cX0_exchange 47 = .ok (.iastore, 1) := by decide +kernel
theorem dX0_exchange_48 : decode cX0_exchange 48 = .ok (.return_, 1) := by decide +kernel
theorem dX0_scenesYet_0 : decode cX0_scenesYet 0 = .ok (.aload_n 0, 1) := by decide +kernel
theorem dX0_scenesYet_1 : decode cX0_scenesYet 1 = .ok (.getfield 18, 3) := by decide +kernel
theorem dX0_scenesYet_4 : decode cX0_scenesYet 4 = .ok (.getfield 72, 3) := by decide +kernel
theorem dX0_scenesYet_7 : decode cX0_scenesYet 7 = .ok (.aload_n 0, 1) := by decide +kernel
theorem dX0_scenesYet_8 : decode cX0_scenesYet 8 = .ok (.getfield 35, 3) := by decide +kernel
theorem dX0_scenesYet_11 : decode cX0_scenesYet 11 = .ok (.isub, 1) := by decide +kernel
theorem dX0_scenesYet_12 : decode cX0_scenesYet 12 = .ok (.ireturn, 1) := by decide +kernel
theorem dX0_lackingNow_0 : decode cX0_lackingNow 0 = .ok (.aload_n 0, 1) := by decide +kernel
theorem dX0_lackingNow_1 : decode cX0_lackingNow 1 = .ok (.getfield 18, 3) := by decide +kernel
theorem dX0_lackingNow_4 : decode cX0_lackingNow 4 = .ok (.iload_n 1, 1) := by decide +kernel
theorem dX0_lackingNow_5 : decode cX0_lackingNow 5 = .ok (.aload_n 0, 1) := by decide +kernel
theorem dX0_lackingNow_6 : decode cX0_lackingNow 6 = .ok (.getfield 35, 3) := by decide +kernel
theorem dX0_lackingNow_9 : decode cX0_lackingNow 9 = .ok (.aload_n 0, 1) := by decide +kernel
theorem dX0_lackingNow_10 : decode cX0_lackingNow 10 = .ok (.getfield 38, 3) := by decide +kernel
theorem dX0_lackingNow_13 : decode cX0_lackingNow 13 = .ok (.aload_n 0, 1) := by decide +kernel
theorem dX0_lackingNow_14 : decode cX0_lackingNow 14 = .ok (.getfield 50, 3) := by decide +kernel
theorem dX0_lackingNow_17 : decode cX0_lackingNow 17 = .ok (.invokevirtual 64, 3) := by decide +kernel
theorem dX0_lackingNow_20 : decode cX0_lackingNow 20 = .ok (.ireturn, 1) := by decide +kernel
theorem dX0_allowed_0 : decode cX0_allowed 0 = .ok (.iconst 0, 1) := by decide +kernel
theorem dX0_allowed_1 : decode cX0_allowed 1 = .ok (.istore_n 1, 1) := by decide +kernel
theorem dX0_allowed_2 : decode cX0_allowed 2 = .ok (.iconst 0, 1) := by decide +kernel
theorem dX0_allowed_3 : decode cX0_allowed 3 = .ok (.istore_n 2, 1) := by decide +kernel
theorem dX0_allowed_4 : decode cX0_allowed 4 = .ok (.iload_n 2, 1) := by decide +kernel
theorem dX0_allowed_5 : decode cX0_allowed 5 = .ok (.aload_n 0, 1) := by decide +kernel
theorem dX0_allowed_6 : decode cX0_allowed 6 = .ok (.getfield 18, 3) := by decide +kernel
theorem dX0_allowed_9 : decode cX0_allowed 9 = .ok (.getfield 75, 3) := by decide +kernel
theorem dX0_allowed_12 : decode cX0_allowed 12 = .ok (.if_icmp .ge 40, 3) := by decide +kernel
theorem dX0_allowed_15 : decode cX0_allowed 15 = .ok (.iload_n 1, 1) := by decide +kernel
theorem dX0_allowed_16 : decode cX0_allowed 16 = .ok (.aload_n 0, 1) := by decide +kernel
theorem dX0_allowed_17 : decode cX0_allowed 17 = .ok (.getfield 18, 3) := by decide +kernel
theorem dX0_allowed_20 : decode cX0_allowed 20 = .ok (.getfield 78, 3) := by decide +kernel
theorem dX0_allowed_23 : decode cX0_allowed 23 = .ok (.iload_n 2, 1) := by decide +kernel
theorem dX0_allowed_24 : decode cX0_allowed 24 = .ok (.iaload, 1) := by decide +kernel
theorem dX0_allowed_25 : decode cX0_allowed 25 = .ok (.aload_n 0, 1) := by decide +kernel
theorem dX0_allowed_26 : decode cX0_allowed 26 = .ok (.getfield 9, 3) := by decide +kernel
theorem dX0_allowed_29 : decode cX0_allowed 29 = .ok (.iload_n 2, 1) := by decide +kernel
theorem dX0_allowed_30 : decode cX0_allowed 30 = .ok (.iaload, 1) := by decide +kernel
theorem dX0_allowed_31 : decode cX0_allowed 31 = .ok (.invokestatic 81, 3) := by decide +kernel
theorem dX0_allowed_34 : decode cX0_allowed 34 = .ok (.ifCond .eq 9, 3) := by decide +kernel
theorem dX0_allowed_37 : decode cX0_allowed 37 = .ok (.iconst 1, 1) := by decide +kernel
theorem dX0_allowed_38 : decode cX0_allowed 38 = .ok (.iload_n 2, 1) := by decide +kernel
theorem dX0_allowed_39 : decode cX0_allowed 39 = .ok (.ishl, 1) := by decide +kernel
theorem dX0_allowed_40 : decode cX0_allowed 40 = .ok (.goto 4, 3) := by decide +kernel
theorem dX0_allowed_43 : decode cX0_allowed 43 = .ok (.iconst 0, 1) := by decide +kernel
theorem dX0_allowed_44 : decode cX0_allowed 44 = .ok (.ior, 1) := by decide +kernel
theorem dX0_allowed_45 : decode cX0_allowed 45 = .ok (.istore_n 1, 1) := by decide +kernel
theorem dX0_allowed_46 : decode cX0_allowed 46 = .ok (.iinc 2 1, 3) := by decide +kernel
theorem dX0_allowed_49 : decode cX0_allowed 49 = .ok (.goto (-45), 3) := by decide +kernel
theorem dX0_allowed_52 : decode cX0_allowed 52 = .ok (.iload_n 1, 1) := by decide +kernel
theorem dX0_allowed_53 : decode cX0_allowed 53 = .ok (.ireturn, 1) := by decide +kernel
theorem dX0_allowedIfChanged_0 : decode cX0_allowedIfChanged 0 = .ok (.aload_n 0, 1) := by decide +kernel
theorem dX0_allowedIfChanged_1 : decode cX0_allowedIfChanged 1 = .ok (.iload_n 1, 1) := by decide +kernel
theorem dX0_allowedIfChanged_2 : decode cX0_allowedIfChanged 2 = .ok (.iload_n 2, 1) := by decide +kernel
theorem dX0_allowedIfChanged_3 : decode cX0_allowedIfChanged 3 = .ok (.invokevirtual 56, 3) := by decide +kernel
theorem dX0_allowedIfChanged_6 : decode cX0_allowedIfChanged 6 = .ok (.aload_n 0, 1) := by decide +kernel
theorem dX0_allowedIfChanged_7 : decode cX0_allowedIfChanged 7 = .ok (.invokevirtual 85, 3) := by decide +kernel
theorem dX0_allowedIfChanged_10 : decode cX0_allowedIfChanged 10 = .ok (.istore_n 3, 1) := by decide +kernel
theorem dX0_allowedIfChanged_11 : decode cX0_allowedIfChanged 11 = .ok (.aload_n 0, 1) := by decide +kernel
theorem dX0_allowedIfChanged_12 : decode cX0_allowedIfChanged 12 = .ok (.iload_n 1, 1) := by decide +kernel
theorem dX0_allowedIfChanged_13 : decode cX0_allowedIfChanged 13 = .ok (.iload_n 2, 1) := by decide +kernel
theorem dX0_allowedIfChanged_14 : decode cX0_allowedIfChanged 14 = .ok (.invokevirtual 56, 3) := by decide +kernel
theorem dX0_allowedIfChanged_17 : decode cX0_allowedIfChanged 17 = .ok (.iload_n 3, 1) := by decide +kernel
theorem dX0_allowedIfChanged_18 : decode cX0_allowedIfChanged 18 = .ok (.ireturn, 1) := by decide +kernel
theorem dX0_free_0 : decode cX0_free 0 = .ok (.aload_n 0, 1) := by decide +kernel
theorem dX0_free_1 : decode cX0_free 1 = .ok (.invokevirtual 85, 3) := by decide +kernel
theorem dX0_free_4 : decode cX0_free 4 = .ok (.aload_n 0, 1) := by decide +kernel
theorem dX0_free_5 : decode cX0_free 5 = .ok (.getfield 38, 3) := by decide +kernel
theorem dX0_free_8 : decode cX0_free 8 = .ok (.iconst (-1), 1) := by decide +kernel
theorem dX0_free_9 : decode cX0_free 9 = .ok (.ixor, 1) := by decide +kernel
theorem dX0_free_10 : decode cX0_free 10 = .ok (.iand, 1) := by decide +kernel
theorem dX0_free_11 : decode cX0_free 11 = .ok (.ireturn, 1) := by decide +kernel
theorem dX0_takenSeats_0 : decode cX0_takenSeats 0 = .ok (.aload_n 0, 1) := by decide +kernel
theorem dX0_takenSeats_1 : decode cX0_takenSeats 1 = .ok (.iconst 0, 1) := by decide +kernel
theorem dX0_takenSeats_2 : decode cX0_takenSeats 2 = .ok (.invokevirtual 89, 3) := by decide +kernel
theorem dX0_takenSeats_5 : decode cX0_takenSeats 5 = .ok (.ireturn, 1) := by decide +kernel
theorem dX0_takenSeatsWithout_0 : decode cX0_takenSeatsWithout 0 = .ok (.iconst 0, 1) := by decide +kernel
theorem dX0_takenSeatsWithout_1 : decode cX0_takenSeatsWithout 1 = .ok (.istore_n 2, 1) := by decide +kernel
theorem dX0_takenSeatsWithout_2 : decode cX0_takenSeatsWithout 2 = .ok (.iconst 0, 1) := by decide +kernel
theorem dX0_takenSeatsWithout_3 : decode cX0_takenSeatsWithout 3 = .ok (.istore_n 3, 1) := by decide +kernel
theorem dX0_takenSeatsWithout_4 : decode cX0_takenSeatsWithout 4 = .ok (.iload_n 3, 1) := by decide +kernel
theorem dX0_takenSeatsWithout_5 : decode cX0_takenSeatsWithout 5 = .ok (.aload_n 0, 1) := by decide +kernel
theorem dX0_takenSeatsWithout_6 : decode cX0_takenSeatsWithout 6 = .ok (.getfield 18, 3) := by decide +kernel
theorem dX0_takenSeatsWithout_9 : decode cX0_takenSeatsWithout 9 = .ok (.getfield 75, 3) := by decide +kernel
theorem dX0_takenSeatsWithout_12 : decode cX0_takenSeatsWithout 12 = .ok (.if_icmp .ge 32, 3) := by decide +kernel
theorem dX0_takenSeatsWithout_15 : decode cX0_takenSeatsWithout 15 = .ok (.iload_n 2, 1) := by decide +kernel
theorem dX0_takenSeatsWithout_16 : decode cX0_takenSeatsWithout 16 = .ok (.iload_n 1, 1) := by decide +kernel
theorem dX0_takenSeatsWithout_17 : decode cX0_takenSeatsWithout 17 = .ok (.iload_n 3, 1) := by decide +kernel
theorem dX0_takenSeatsWithout_18 : decode cX0_takenSeatsWithout 18 = .ok (.invokestatic 93, 3) := by decide +kernel
theorem dX0_takenSeatsWithout_21 : decode cX0_takenSeatsWithout 21 = .ok (.ifCond .eq 7, 3) := by decide +kernel
theorem dX0_takenSeatsWithout_24 : decode cX0_takenSeatsWithout 24 = .ok (.iconst 0, 1) := by decide +kernel
theorem dX0_takenSeatsWithout_25 : decode cX0_takenSeatsWithout 25 = .ok (.goto 11, 3) := by decide +kernel
theorem dX0_takenSeatsWithout_28 : decode cX0_takenSeatsWithout 28 = .ok (.iconst 1, 1) := by decide +kernel
theorem dX0_takenSeatsWithout_29 : decode cX0_takenSeatsWithout 29 = .ok (.aload_n 0, 1) := by decide +kernel
theorem dX0_takenSeatsWithout_30 : decode cX0_takenSeatsWithout 30 = .ok (.getfield 9, 3) := by decide +kernel
theorem dX0_takenSeatsWithout_33 : decode cX0_takenSeatsWithout 33 = .ok (.iload_n 3, 1) := by decide +kernel
theorem dX0_takenSeatsWithout_34 : decode cX0_takenSeatsWithout 34 = .ok (.iaload, 1) := by decide +kernel
theorem dX0_takenSeatsWithout_35 : decode cX0_takenSeatsWithout 35 = .ok (.ishl, 1) := by decide +kernel
theorem dX0_takenSeatsWithout_36 : decode cX0_takenSeatsWithout 36 = .ok (.ior, 1) := by decide +kernel
theorem dX0_takenSeatsWithout_37 : decode cX0_takenSeatsWithout 37 = .ok (.istore_n 2, 1) := by decide +kernel
theorem dX0_takenSeatsWithout_38 : decode cX0_takenSeatsWithout 38 = .ok (.iinc 3 1, 3) := by decide +kernel
theorem dX0_takenSeatsWithout_41 : decode cX0_takenSeatsWithout 41 = .ok (.goto (-37), 3) := by decide +kernel
theorem dX0_takenSeatsWithout_44 : decode cX0_takenSeatsWithout 44 = .ok (.iload_n 2, 1) := by decide +kernel
theorem dX0_takenSeatsWithout_45 : decode cX0_takenSeatsWithout 45 = .ok (.ireturn, 1) := by decide +kernel
theorem dX0_whatOfSitter_0 : decode cX0_whatOfSitter 0 = .ok (.aload_n 0, 1) := by decide +kernel
theorem dX0_whatOfSitter_1 : decode cX0_whatOfSitter 1 = .ok (.getfield 18, 3) := by decide +kernel
theorem dX0_whatOfSitter_4 : decode cX0_whatOfSitter 4 = .ok (.iload_n 1, 1) := by decide +kernel
theorem dX0_whatOfSitter_5 : decode cX0_whatOfSitter 5 = .ok (.invokevirtual 68, 3) := by decide +kernel
theorem dX0_whatOfSitter_8 : decode cX0_whatOfSitter 8 = .ok (.ifCond .ne 5, 3) := by decide +kernel
theorem dX0_whatOfSitter_11 : decode cX0_whatOfSitter 11 = .ok (.iconst (-1), 1) := by decide +kernel
theorem dX0_whatOfSitter_12 : decode cX0_whatOfSitter 12 = .ok (.ireturn, 1) := by decide +kernel
theorem dX0_whatOfSitter_13 : decode cX0_whatOfSitter 13 = .ok (.iload_n 2, 1) := by decide +kernel
theorem dX0_whatOfSitter_14 : decode cX0_whatOfSitter 14 = .ok (.tableswitch 128 0 6 #[42, 52, 59, 69, 79, 105, 111], 42) := by decide +kernel
theorem dX0_whatOfSitter_56 : decode cX0_whatOfSitter 56 = .ok (.aload_n 0, 1) := by decide +kernel
theorem dX0_whatOfSitter_57 : decode cX0_whatOfSitter 57 = .ok (.getfield 18, 3) := by decide +kernel
theorem dX0_whatOfSitter_60 : decode cX0_whatOfSitter 60 = .ok (.getfield 78, 3) := by decide +kernel
theorem dX0_whatOfSitter_63 : decode cX0_whatOfSitter 63 = .ok (.iload_n 1, 1) := by decide +kernel
theorem dX0_whatOfSitter_64 : decode cX0_whatOfSitter 64 = .ok (.iaload, 1) := by decide +kernel
theorem dX0_whatOfSitter_65 : decode cX0_whatOfSitter 65 = .ok (.ireturn, 1) := by decide +kernel
theorem dX0_whatOfSitter_66 : decode cX0_whatOfSitter 66 = .ok (.aload_n 0, 1) := by decide +kernel
theorem dX0_whatOfSitter_67 : decode cX0_whatOfSitter 67 = .ok (.getfield 9, 3) := by decide +kernel
theorem dX0_whatOfSitter_70 : decode cX0_whatOfSitter 70 = .ok (.iload_n 1, 1) := by decide +kernel
theorem dX0_whatOfSitter_71 : decode cX0_whatOfSitter 71 = .ok (.iaload, 1) := by decide +kernel
theorem dX0_whatOfSitter_72 : decode cX0_whatOfSitter 72 = .ok (.ireturn, 1) := by decide +kernel
theorem dX0_whatOfSitter_73 : decode cX0_whatOfSitter 73 = .ok (.aload_n 0, 1) := by decide +kernel
theorem dX0_whatOfSitter_74 : decode cX0_whatOfSitter 74 = .ok (.getfield 18, 3) := by decide +kernel
theorem dX0_whatOfSitter_77 : decode cX0_whatOfSitter 77 = .ok (.getfield 96, 3) := by decide +kernel
theorem dX0_whatOfSitter_80 : decode cX0_whatOfSitter 80 = .ok (.iload_n 1, 1) := by decide +kernel
theorem dX0_whatOfSitter_81 : decode cX0_whatOfSitter 81 = .ok (.iaload, 1) := by decide +kernel
theorem dX0_whatOfSitter_82 : decode cX0_whatOfSitter 82 = .ok (.ireturn, 1) := by decide +kernel
theorem dX0_whatOfSitter_83 : decode cX0_whatOfSitter 83 = .ok (.aload_n 0, 1) := by decide +kernel
theorem dX0_whatOfSitter_84 : decode cX0_whatOfSitter 84 = .ok (.getfield 18, 3) := by decide +kernel
theorem dX0_whatOfSitter_87 : decode cX0_whatOfSitter 87 = .ok (.getfield 99, 3) := by decide +kernel
theorem dX0_whatOfSitter_90 : decode cX0_whatOfSitter 90 = .ok (.iload_n 1, 1) := by decide +kernel
theorem dX0_whatOfSitter_91 : decode cX0_whatOfSitter 91 = .ok (.iaload, 1) := by decide +kernel
theorem dX0_whatOfSitter_92 : decode cX0_whatOfSitter 92 = .ok (.ireturn, 1) := by decide +kernel
theorem dX0_whatOfSitter_93 : decode cX0_whatOfSitter 93 = .ok (.aload_n 0, 1) := by decide +kernel
theorem dX0_whatOfSitter_94 : decode cX0_whatOfSitter 94 = .ok (.getfield 18, 3) := by decide +kernel
theorem dX0_whatOfSitter_97 : decode cX0_whatOfSitter 97 = .ok (.getfield 78, 3) := by decide +kernel
theorem dX0_whatOfSitter_100 : decode cX0_whatOfSitter 100 = .ok (.iload_n 1, 1) := by decide +kernel
theorem dX0_whatOfSitter_101 : decode cX0_whatOfSitter 101 = .ok (.iaload, 1) := by decide +kernel
theorem dX0_whatOfSitter_102 : decode cX0_whatOfSitter 102 = .ok (.aload_n 0, 1) := by decide +kernel
theorem dX0_whatOfSitter_103 : decode cX0_whatOfSitter 103 = .ok (.getfield 18, 3) := by decide +kernel
theorem dX0_whatOfSitter_106 : decode cX0_whatOfSitter 106 = .ok (.getfield 99, 3) := by decide +kernel
theorem dX0_whatOfSitter_109 : decode cX0_whatOfSitter 109 = .ok (.iload_n 1, 1) := by decide +kernel
theorem dX0_whatOfSitter_110 : decode cX0_whatOfSitter 110 = .ok (.iaload, 1) := by decide +kernel
theorem dX0_whatOfSitter_111 : decode cX0_whatOfSitter 111 = .ok (.aload_n 0, 1) := by decide +kernel
theorem dX0_whatOfSitter_112 : decode cX0_whatOfSitter 112 = .ok (.getfield 50, 3) := by decide +kernel
theorem dX0_whatOfSitter_115 : decode cX0_whatOfSitter 115 = .ok (.invokestatic 102, 3) := by decide +kernel
theorem dX0_whatOfSitter_118 : decode cX0_whatOfSitter 118 = .ok (.ireturn, 1) := by decide +kernel
theorem dX0_whatOfSitter_119 : decode cX0_whatOfSitter 119 = .ok (.aload_n 0, 1) := by decide +kernel
theorem dX0_whatOfSitter_120 : decode cX0_whatOfSitter 120 = .ok (.iload_n 1, 1) := by decide +kernel
theorem dX0_whatOfSitter_121 : decode cX0_whatOfSitter 121 = .ok (.invokevirtual 106, 3) := by decide +kernel
theorem dX0_whatOfSitter_124 : decode cX0_whatOfSitter 124 = .ok (.ireturn, 1) := by decide +kernel
theorem dX0_whatOfSitter_125 : decode cX0_whatOfSitter 125 = .ok (.aload_n 0, 1) := by decide +kernel
theorem dX0_whatOfSitter_126 : decode cX0_whatOfSitter 126 = .ok (.getfield 38, 3) := by decide +kernel
theorem dX0_whatOfSitter_129 : decode cX0_whatOfSitter 129 = .ok (.iload_n 1, 1) := by decide +kernel
theorem dX0_whatOfSitter_130 : decode cX0_whatOfSitter 130 = .ok (.invokestatic 93, 3) := by decide +kernel
theorem dX0_whatOfSitter_133 : decode cX0_whatOfSitter 133 = .ok (.ifCond .eq 7, 3) := by decide +kernel
theorem dX0_whatOfSitter_136 : decode cX0_whatOfSitter 136 = .ok (.iconst 1, 1) := by decide +kernel
theorem dX0_whatOfSitter_137 : decode cX0_whatOfSitter 137 = .ok (.goto 4, 3) := by decide +kernel
theorem dX0_whatOfSitter_140 : decode cX0_whatOfSitter 140 = .ok (.iconst 0, 1) := by decide +kernel
theorem dX0_whatOfSitter_141 : decode cX0_whatOfSitter 141 = .ok (.ireturn, 1) := by decide +kernel
theorem dX0_whatOfSitter_142 : decode cX0_whatOfSitter 142 = .ok (.aload_n 0, 1) := by decide +kernel
theorem dX0_whatOfSitter_143 : decode cX0_whatOfSitter 143 = .ok (.invokevirtual 109, 3) := by decide +kernel
theorem dX0_whatOfSitter_146 : decode cX0_whatOfSitter 146 = .ok (.iload_n 1, 1) := by decide +kernel
theorem dX0_whatOfSitter_147 : decode cX0_whatOfSitter 147 = .ok (.invokestatic 93, 3) := by decide +kernel
theorem dX0_whatOfSitter_150 : decode cX0_whatOfSitter 150 = .ok (.ifCond .eq 7, 3) := by decide +kernel
theorem dX0_whatOfSitter_153 : decode cX0_whatOfSitter 153 = .ok (.iconst 1, 1) := by decide +kernel
theorem dX0_whatOfSitter_154 : decode cX0_whatOfSitter 154 = .ok (.goto 4, 3) := by decide +kernel
theorem dX0_whatOfSitter_157 : decode cX0_whatOfSitter 157 = .ok (.iconst 0, 1) := by decide +kernel
theorem dX0_whatOfSitter_158 : decode cX0_whatOfSitter 158 = .ok (.ireturn, 1) := by decide +kernel
theorem dX0_saysNow_0 : decode cX0_saysNow 0 = .ok (.aload_n 0, 1) := by decide +kernel
theorem dX0_saysNow_1 : decode cX0_saysNow 1 = .ok (.getfield 18, 3) := by decide +kernel
theorem dX0_saysNow_4 : decode cX0_saysNow 4 = .ok (.iload_n 1, 1) := by decide +kernel
theorem dX0_saysNow_5 : decode cX0_saysNow 5 = .ok (.aload_n 0, 1) := by decide +kernel
theorem dX0_saysNow_6 : decode cX0_saysNow 6 = .ok (.getfield 38, 3) := by decide +kernel
theorem dX0_saysNow_9 : decode cX0_saysNow 9 = .ok (.invokevirtual 112, 3) := by decide +kernel
theorem dX0_saysNow_12 : decode cX0_saysNow 12 = .ok (.istore_n 2, 1) := by decide +kernel
theorem dX0_saysNow_13 : decode cX0_saysNow 13 = .ok (.aload_n 0, 1) := by decide +kernel
theorem dX0_saysNow_14 : decode cX0_saysNow 14 = .ok (.getfield 18, 3) := by decide +kernel
theorem dX0_saysNow_17 : decode cX0_saysNow 17 = .ok (.getfield 78, 3) := by decide +kernel
theorem dX0_saysNow_20 : decode cX0_saysNow 20 = .ok (.iload_n 1, 1) := by decide +kernel
theorem dX0_saysNow_21 : decode cX0_saysNow 21 = .ok (.iaload, 1) := by decide +kernel
theorem dX0_saysNow_22 : decode cX0_saysNow 22 = .ok (.aload_n 0, 1) := by decide +kernel
theorem dX0_saysNow_23 : decode cX0_saysNow 23 = .ok (.getfield 18, 3) := by decide +kernel
theorem dX0_saysNow_26 : decode cX0_saysNow 26 = .ok (.getfield 96, 3) := by decide +kernel
theorem dX0_saysNow_29 : decode cX0_saysNow 29 = .ok (.iload_n 1, 1) := by decide +kernel
theorem dX0_saysNow_30 : decode cX0_saysNow 30 = .ok (.iaload, 1) := by decide +kernel
theorem dX0_saysNow_31 : decode cX0_saysNow 31 = .ok (.aload_n 0, 1) := by decide +kernel
theorem dX0_saysNow_32 : decode cX0_saysNow 32 = .ok (.getfield 18, 3) := by decide +kernel
theorem dX0_saysNow_35 : decode cX0_saysNow 35 = .ok (.getfield 99, 3) := by decide +kernel
theorem dX0_saysNow_38 : decode cX0_saysNow 38 = .ok (.iload_n 1, 1) := by decide +kernel
theorem dX0_saysNow_39 : decode cX0_saysNow 39 = .ok (.iaload, 1) := by decide +kernel
theorem dX0_saysNow_40 : decode cX0_saysNow 40 = .ok (.aload_n 0, 1) := by decide +kernel
theorem dX0_saysNow_41 : decode cX0_saysNow 41 = .ok (.getfield 50, 3) := by decide +kernel
theorem dX0_saysNow_44 : decode cX0_saysNow 44 = .ok (.iload_n 2, 1) := by decide +kernel
theorem dX0_saysNow_45 : decode cX0_saysNow 45 = .ok (.invokestatic 116, 3) := by decide +kernel
theorem dX0_saysNow_48 : decode cX0_saysNow 48 = .ok (.ireturn, 1) := by decide +kernel
theorem dX0_markOf_0 : decode cX0_markOf 0 = .ok (.aload_n 0, 1) := by decide +kernel
theorem dX0_markOf_1 : decode cX0_markOf 1 = .ok (.getfield 18, 3) := by decide +kernel
theorem dX0_markOf_4 : decode cX0_markOf 4 = .ok (.iload_n 1, 1) := by decide +kernel
theorem dX0_markOf_5 : decode cX0_markOf 5 = .ok (.invokevirtual 68, 3) := by decide +kernel
theorem dX0_markOf_8 : decode cX0_markOf 8 = .ok (.ifCond .ne 5, 3) := by decide +kernel
theorem dX0_markOf_11 : decode cX0_markOf 11 = .ok (.iconst (-1), 1) := by decide +kernel
theorem dX0_markOf_12 : decode cX0_markOf 12 = .ok (.ireturn, 1) := by decide +kernel
theorem dX0_markOf_13 : decode cX0_markOf 13 = .ok (.iload_n 2, 1) := by decide +kernel
theorem dX0_markOf_14 : decode cX0_markOf 14 = .ok (.tableswitch 92 1 4 #[30, 36, 42, 78], 30) := by decide +kernel
theorem dX0_markOf_44 : decode cX0_markOf 44 = .ok (.aload_n 0, 1) := by decide +kernel
theorem dX0_markOf_45 : decode cX0_markOf 45 = .ok (.iload_n 1, 1) := by decide +kernel
theorem dX0_markOf_46 : decode cX0_markOf 46 = .ok (.invokevirtual 120, 3) := by decide +kernel
theorem dX0_markOf_49 : decode cX0_markOf 49 = .ok (.ireturn, 1) := by decide +kernel
theorem dX0_markOf_50 : decode cX0_markOf 50 = .ok (.aload_n 0, 1) := by decide +kernel
theorem dX0_markOf_51 : decode cX0_markOf 51 = .ok (.iload_n 1, 1) := by decide +kernel
theorem dX0_markOf_52 : decode cX0_markOf 52 = .ok (.invokevirtual 123, 3) := by decide +kernel
theorem dX0_markOf_55 : decode cX0_markOf 55 = .ok (.ireturn, 1) := by decide +kernel
theorem dX0_markOf_56 : decode cX0_markOf 56 = .ok (.iconst 0, 1) := by decide +kernel
theorem dX0_markOf_57 : decode cX0_markOf 57 = .ok (.aload_n 0, 1) := by decide +kernel
theorem dX0_markOf_58 : decode cX0_markOf 58 = .ok (.getfield 18, 3) := by decide +kernel
theorem dX0_markOf_61 : decode cX0_markOf 61 = .ok (.getfield 99, 3) := by decide +kernel
theorem dX0_markOf_64 : decode cX0_markOf 64 = .ok (.iload_n 1, 1) := by decide +kernel
theorem dX0_markOf_65 : decode cX0_markOf 65 = .ok (.iaload, 1) := by decide +kernel
theorem dX0_markOf_66 : decode cX0_markOf 66 = .ok (.aload_n 0, 1) := by decide +kernel
theorem dX0_markOf_67 : decode cX0_markOf 67 = .ok (.getfield 50, 3) := by decide +kernel
theorem dX0_markOf_70 : decode cX0_markOf 70 = .ok (.invokestatic 102, 3) := by decide +kernel
theorem dX0_markOf_73 : decode cX0_markOf 73 = .ok (.iconst 3, 1) := by decide +kernel
theorem dX0_markOf_74 : decode cX0_markOf 74 = .ok (.aload_n 0, 1) := by decide +kernel
theorem dX0_markOf_75 : decode cX0_markOf 75 = .ok (.getfield 18, 3) := by decide +kernel
theorem dX0_markOf_78 : decode cX0_markOf 78 = .ok (.getfield 99, 3) := by decide +kernel
theorem dX0_markOf_81 : decode cX0_markOf 81 = .ok (.iload_n 1, 1) := by decide +kernel
theorem dX0_markOf_82 : decode cX0_markOf 82 = .ok (.iaload, 1) := by decide +kernel
theorem dX0_markOf_83 : decode cX0_markOf 83 = .ok (.aload_n 0, 1) := by decide +kernel
theorem dX0_markOf_84 : decode cX0_markOf 84 = .ok (.getfield 50, 3) := by decide +kernel
theorem dX0_markOf_87 : decode cX0_markOf 87 = .ok (.invokestatic 102, 3) := by decide +kernel
theorem dX0_markOf_90 : decode cX0_markOf 90 = .ok (.isub, 1) := by decide +kernel
theorem dX0_markOf_91 : decode cX0_markOf 91 = .ok (.ireturn, 1) := by decide +kernel
theorem dX0_markOf_92 : decode cX0_markOf 92 = .ok (.iconst 0, 1) := by decide +kernel
theorem dX0_markOf_93 : decode cX0_markOf 93 = .ok (.bipush 7, 2) := by decide +kernel
theorem dX0_markOf_95 : decode cX0_markOf 95 = .ok (.aload_n 0, 1) := by decide +kernel
theorem dX0_markOf_96 : decode cX0_markOf 96 = .ok (.getfield 9, 3) := by decide +kernel
theorem dX0_markOf_99 : decode cX0_markOf 99 = .ok (.iload_n 1, 1) := by decide +kernel
theorem dX0_markOf_100 : decode cX0_markOf 100 = .ok (.iaload, 1) := by decide +kernel
theorem dX0_markOf_101 : decode cX0_markOf 101 = .ok (.isub, 1) := by decide +kernel
theorem dX0_markOf_102 : decode cX0_markOf 102 = .ok (.invokestatic 126, 3) := by decide +kernel
theorem dX0_markOf_105 : decode cX0_markOf 105 = .ok (.ireturn, 1) := by decide +kernel
theorem dX0_markOf_106 : decode cX0_markOf 106 = .ok (.aload_n 0, 1) := by decide +kernel
theorem dX0_markOf_107 : decode cX0_markOf 107 = .ok (.getfield 18, 3) := by decide +kernel
theorem dX0_markOf_110 : decode cX0_markOf 110 = .ok (.iload_n 1, 1) := by decide +kernel
theorem dX0_markOf_111 : decode cX0_markOf 111 = .ok (.aload_n 0, 1) := by decide +kernel
theorem dX0_markOf_112 : decode cX0_markOf 112 = .ok (.getfield 38, 3) := by decide +kernel
theorem dX0_markOf_115 : decode cX0_markOf 115 = .ok (.invokevirtual 112, 3) := by decide +kernel
theorem dX0_markOf_118 : decode cX0_markOf 118 = .ok (.ireturn, 1) := by decide +kernel
theorem dX0_scenesWithoutPrompt_0 : decode cX0_scenesWithoutPrompt 0 = .ok (.iconst 0, 1) := by decide +kernel
theorem dX0_scenesWithoutPrompt_1 : decode cX0_scenesWithoutPrompt 1 = .ok (.istore_n 2, 1) := by decide +kernel
theorem dX0_scenesWithoutPrompt_2 : decode cX0_scenesWithoutPrompt 2 = .ok (.aload_n 0, 1) := by decide +kernel
theorem dX0_scenesWithoutPrompt_3 : decode cX0_scenesWithoutPrompt 3 = .ok (.getfield 35, 3) := by decide +kernel
theorem dX0_scenesWithoutPrompt_6 : decode cX0_scenesWithoutPrompt 6 = .ok (.istore_n 3, 1) := by decide +kernel
theorem dX0_scenesWithoutPrompt_7 : decode cX0_scenesWithoutPrompt 7 = .ok (.iload_n 3, 1) := by decide +kernel
theorem dX0_scenesWithoutPrompt_8 : decode cX0_scenesWithoutPrompt 8 = .ok (.aload_n 0, 1) := by decide +kernel
theorem dX0_scenesWithoutPrompt_9 : decode cX0_scenesWithoutPrompt 9 = .ok (.getfield 18, 3) := by decide +kernel
theorem dX0_scenesWithoutPrompt_12 : decode cX0_scenesWithoutPrompt 12 = .ok (.getfield 72, 3) := by decide +kernel
theorem dX0_scenesWithoutPrompt_15 : decode cX0_scenesWithoutPrompt 15 = .ok (.if_icmp .ge 37, 3) := by decide +kernel
theorem dX0_scenesWithoutPrompt_18 : decode cX0_scenesWithoutPrompt 18 = .ok (.iload_n 2, 1) := by decide +kernel
theorem dX0_scenesWithoutPrompt_19 : decode cX0_scenesWithoutPrompt 19 = .ok (.aload_n 0, 1) := by decide +kernel
theorem dX0_scenesWithoutPrompt_20 : decode cX0_scenesWithoutPrompt 20 = .ok (.getfield 18, 3) := by decide +kernel
theorem dX0_scenesWithoutPrompt_23 : decode cX0_scenesWithoutPrompt 23 = .ok (.iload_n 1, 1) := by decide +kernel
theorem dX0_scenesWithoutPrompt_24 : decode cX0_scenesWithoutPrompt 24 = .ok (.iload_n 3, 1) := by decide +kernel
theorem dX0_scenesWithoutPrompt_25 : decode cX0_scenesWithoutPrompt 25 = .ok (.aload_n 0, 1) := by decide +kernel
theorem dX0_scenesWithoutPrompt_26 : decode cX0_scenesWithoutPrompt 26 = .ok (.getfield 38, 3) := by decide +kernel
theorem dX0_scenesWithoutPrompt_29 : decode cX0_scenesWithoutPrompt 29 = .ok (.aload_n 0, 1) := by decide +kernel
theorem dX0_scenesWithoutPrompt_30 : decode cX0_scenesWithoutPrompt 30 = .ok (.getfield 50, 3) := by decide +kernel
theorem dX0_scenesWithoutPrompt_33 : decode cX0_scenesWithoutPrompt 33 = .ok (.invokevirtual 64, 3) := by decide +kernel
theorem dX0_scenesWithoutPrompt_36 : decode cX0_scenesWithoutPrompt 36 = .ok (.ifCond .ne 7, 3) := by decide +kernel
theorem dX0_scenesWithoutPrompt_39 : decode cX0_scenesWithoutPrompt 39 = .ok (.iconst 1, 1) := by decide +kernel
theorem dX0_scenesWithoutPrompt_40 : decode cX0_scenesWithoutPrompt 40 = .ok (.goto 4, 3) := by decide +kernel
theorem dX0_scenesWithoutPrompt_43 : decode cX0_scenesWithoutPrompt 43 = .ok (.iconst 0, 1) := by decide +kernel
theorem dX0_scenesWithoutPrompt_44 : decode cX0_scenesWithoutPrompt 44 = .ok (.iadd, 1) := by decide +kernel
theorem dX0_scenesWithoutPrompt_45 : decode cX0_scenesWithoutPrompt 45 = .ok (.istore_n 2, 1) := by decide +kernel
theorem dX0_scenesWithoutPrompt_46 : decode cX0_scenesWithoutPrompt 46 = .ok (.iinc 3 1, 3) := by decide +kernel
theorem dX0_scenesWithoutPrompt_49 : decode cX0_scenesWithoutPrompt 49 = .ok (.goto (-42), 3) := by decide +kernel
theorem dX0_scenesWithoutPrompt_52 : decode cX0_scenesWithoutPrompt 52 = .ok (.iload_n 2, 1) := by decide +kernel
theorem dX0_scenesWithoutPrompt_53 : decode cX0_scenesWithoutPrompt 53 = .ok (.ireturn, 1) := by decide +kernel
theorem dX0_othersInEvenSeats_0 : decode cX0_othersInEvenSeats 0 = .ok (.iconst 0, 1) := by decide +kernel
theorem dX0_othersInEvenSeats_1 : decode cX0_othersInEvenSeats 1 = .ok (.istore_n 2, 1) := by decide +kernel
theorem dX0_othersInEvenSeats_2 : decode cX0_othersInEvenSeats 2 = .ok (.iconst 0, 1) := by decide +kernel
theorem dX0_othersInEvenSeats_3 : decode cX0_othersInEvenSeats 3 = .ok (.istore_n 3, 1) := by decide +kernel
theorem dX0_othersInEvenSeats_4 : decode cX0_othersInEvenSeats 4 = .ok (.iload_n 3, 1) := by decide +kernel
theorem dX0_othersInEvenSeats_5 : decode cX0_othersInEvenSeats 5 = .ok (.aload_n 0, 1) := by decide +kernel
theorem dX0_othersInEvenSeats_6 : decode cX0_othersInEvenSeats 6 = .ok (.getfield 18, 3) := by decide +kernel
theorem dX0_othersInEvenSeats_9 : decode cX0_othersInEvenSeats 9 = .ok (.getfield 75, 3) := by decide +kernel
theorem dX0_othersInEvenSeats_12 : decode cX0_othersInEvenSeats 12 = .ok (.if_icmp .ge 33, 3) := by decide +kernel
theorem dX0_othersInEvenSeats_15 : decode cX0_othersInEvenSeats 15 = .ok (.iload_n 2, 1) := by decide +kernel
theorem dX0_othersInEvenSeats_16 : decode cX0_othersInEvenSeats 16 = .ok (.iload_n 3, 1) := by decide +kernel
theorem dX0_othersInEvenSeats_17 : decode cX0_othersInEvenSeats 17 = .ok (.iload_n 1, 1) := by decide +kernel
theorem dX0_othersInEvenSeats_18 : decode cX0_othersInEvenSeats 18 = .ok (.if_icmp .eq 18, 3) := by decide +kernel
theorem dX0_othersInEvenSeats_21 : decode cX0_othersInEvenSeats 21 = .ok (.aload_n 0, 1) := by decide +kernel
theorem dX0_othersInEvenSeats_22 : decode cX0_othersInEvenSeats 22 = .ok (.getfield 9, 3) := by decide +kernel
theorem dX0_othersInEvenSeats_25 : decode cX0_othersInEvenSeats 25 = .ok (.iload_n 3, 1) := by decide +kernel
theorem dX0_othersInEvenSeats_26 : decode cX0_othersInEvenSeats 26 = .ok (.iaload, 1) := by decide +kernel
theorem dX0_othersInEvenSeats_27 : decode cX0_othersInEvenSeats 27 = .ok (.iconst 2, 1) := by decide +kernel
theorem dX0_othersInEvenSeats_28 : decode cX0_othersInEvenSeats 28 = .ok (.irem, 1) := by decide +kernel
theorem dX0_othersInEvenSeats_29 : decode cX0_othersInEvenSeats 29 = .ok (.ifCond .ne 7, 3) := by decide +kernel
theorem dX0_othersInEvenSeats_32 : decode cX0_othersInEvenSeats 32 = .ok (.iconst 1, 1) := by decide +kernel
theorem dX0_othersInEvenSeats_33 : decode cX0_othersInEvenSeats 33 = .ok (.goto 4, 3) := by decide +kernel
theorem dX0_othersInEvenSeats_36 : decode cX0_othersInEvenSeats 36 = .ok (.iconst 0, 1) := by decide +kernel
theorem dX0_othersInEvenSeats_37 : decode cX0_othersInEvenSeats 37 = .ok (.iadd, 1) := by decide +kernel
theorem dX0_othersInEvenSeats_38 : decode cX0_othersInEvenSeats 38 = .ok (.istore_n 2, 1) := by decide +kernel
theorem dX0_othersInEvenSeats_39 : decode cX0_othersInEvenSeats 39 = .ok (.iinc 3 1, 3) := by decide +kernel
theorem dX0_othersInEvenSeats_42 : decode cX0_othersInEvenSeats 42 = .ok (.goto (-38), 3) := by decide +kernel
theorem dX0_othersInEvenSeats_45 : decode cX0_othersInEvenSeats 45 = .ok (.iload_n 2, 1) := by decide +kernel
theorem dX0_othersInEvenSeats_46 : decode cX0_othersInEvenSeats 46 = .ok (.ireturn, 1) := by decide +kernel
theorem dX1_init_0 : decode cX1_init 0 = .ok (.aload_n 0, 1) := by decide +kernel
theorem dX1_init_1 : decode cX1_init 1 = .ok (.invokespecial 3, 3) := by decide +kernel
theorem dX1_init_4 : decode cX1_init 4 = .ok (.aload_n 0, 1) := by decide +kernel
theorem dX1_init_5 : decode cX1_init 5 = .ok (.bipush 6, 2) := by decide +kernel
theorem dX1_init_7 : decode cX1_init 7 = .ok (.newarray .int, 2) := by decide +kernel
theorem dX1_init_9 : decode cX1_init 9 = .ok (.putfield 9, 3) := by decide +kernel
theorem dX1_init_12 : decode cX1_init 12 = .ok (.aload_n 0, 1) := by decide +kernel
theorem dX1_init_13 : decode cX1_init 13 = .ok (.bipush 6, 2) := by decide +kernel
theorem dX1_init_15 : decode cX1_init 15 = .ok (.newarray .int, 2) := by decide +kernel
theorem dX1_init_17 : decode cX1_init 17 = .ok (.putfield 15, 3) := by decide +kernel
theorem dX1_init_20 : decode cX1_init 20 = .ok (.aload_n 0, 1) := by decide +kernel
theorem dX1_init_21 : decode cX1_init 21 = .ok (.bipush 6, 2) := by decide +kernel
theorem dX1_init_23 : decode cX1_init 23 = .ok (.newarray .int, 2) := by decide +kernel
theorem dX1_init_25 : decode cX1_init 25 = .ok (.putfield 18, 3) := by decide +kernel
theorem dX1_init_28 : decode cX1_init 28 = .ok (.aload_n 0, 1) := by decide +kernel
theorem dX1_init_29 : decode cX1_init 29 = .ok (.bipush 6, 2) := by decide +kernel
theorem dX1_init_31 : decode cX1_init 31 = .ok (.newarray .int, 2) := by decide +kernel
theorem dX1_init_33 : decode cX1_init 33 = .ok (.putfield 21, 3) := by decide +kernel
theorem dX1_init_36 : decode cX1_init 36 = .ok (.aload_n 0, 1) := by decide +kernel
theorem dX1_init_37 : decode cX1_init 37 = .ok (.bipush 6, 2) := by decide +kernel
theorem dX1_init_39 : decode cX1_init 39 = .ok (.newarray .int, 2) := by decide +kernel
theorem dX1_init_41 : decode cX1_init 41 = .ok (.putfield 24, 3) := by decide +kernel
theorem dX1_init_44 : decode cX1_init 44 = .ok (.return_, 1) := by decide +kernel
theorem dX1_read_0 : decode cX1_read 0 = .ok (.aload_n 0, 1) := by decide +kernel
theorem dX1_read_1 : decode cX1_read 1 = .ok (.iconst 0, 1) := by decide +kernel
theorem dX1_read_2 : decode cX1_read 2 = .ok (.putfield 27, 3) := by decide +kernel
theorem dX1_read_5 : decode cX1_read 5 = .ok (.aload_n 0, 1) := by decide +kernel
theorem dX1_read_6 : decode cX1_read 6 = .ok (.iconst 0, 1) := by decide +kernel
theorem dX1_read_7 : decode cX1_read 7 = .ok (.putfield 31, 3) := by decide +kernel
theorem dX1_read_10 : decode cX1_read 10 = .ok (.aload_n 0, 1) := by decide +kernel
theorem dX1_read_11 : decode cX1_read 11 = .ok (.iconst 0, 1) := by decide +kernel
theorem dX1_read_12 : decode cX1_read 12 = .ok (.putfield 34, 3) := by decide +kernel
theorem dX1_read_15 : decode cX1_read 15 = .ok (.aload_n 0, 1) := by decide +kernel
theorem dX1_read_16 : decode cX1_read 16 = .ok (.iconst 0, 1) := by decide +kernel
theorem dX1_read_17 : decode cX1_read 17 = .ok (.putfield 37, 3) := by decide +kernel
theorem dX1_read_20 : decode cX1_read 20 = .ok (.aload_n 1, 1) := by decide +kernel
theorem dX1_read_21 : decode cX1_read 21 = .ok (.iload_n 2, 1) := by decide +kernel
theorem dX1_read_22 : decode cX1_read 22 = .ok (.iconst 0, 1) := by decide +kernel
theorem dX1_read_23 : decode cX1_read 23 = .ok (.invokestatic 40, 3) := by decide +kernel
theorem dX1_read_26 : decode cX1_read 26 = .ok (.istore_n 3, 1) := by decide +kernel
theorem dX1_read_27 : decode cX1_read 27 = .ok (.aload_n 1, 1) := by decide +kernel
theorem dX1_read_28 : decode cX1_read 28 = .ok (.iload_n 2, 1) := by decide +kernel
theorem dX1_read_29 : decode cX1_read 29 = .ok (.iload_n 3, 1) := by decide +kernel
theorem dX1_read_30 : decode cX1_read 30 = .ok (.invokevirtual 44, 3) := by decide +kernel
theorem dX1_read_33 : decode cX1_read 33 = .ok (.bipush 97, 2) := by decide +kernel
theorem dX1_read_35 : decode cX1_read 35 = .ok (.if_icmp .eq 5, 3) := by decide +kernel
theorem dX1_read_38 : decode cX1_read 38 = .ok (.iload_n 3, 1) := by decide +kernel
theorem dX1_read_39 : decode cX1_read 39 = .ok (.ireturn, 1) := by decide +kernel
theorem dX1_read_40 : decode cX1_read 40 = .ok (.aload_n 0, 1) := by decide +kernel
theorem dX1_read_41 : decode cX1_read 41 = .ok (.aload_n 1, 1) := by decide +kernel
theorem dX1_read_42 : decode cX1_read 42 = .ok (.iload_n 2, 1) := by decide +kernel
theorem dX1_read_43 : decode cX1_read 43 = .ok (.iload_n 3, 1) := by decide +kernel
theorem dX1_read_44 : decode cX1_read 44 = .ok (.iconst 1, 1) := by decide +kernel
theorem dX1_read_45 : decode cX1_read 45 = .ok (.iadd, 1) := by decide +kernel
theorem dX1_read_46 : decode cX1_read 46 = .ok (.invokestatic 50, 3) := by decide +kernel
theorem dX1_read_49 : decode cX1_read 49 = .ok (.putfield 53, 3) := by decide +kernel
theorem dX1_read_52 : decode cX1_read 52 = .ok (.aload_n 0, 1) := by decide +kernel
theorem dX1_read_53 : decode cX1_read 53 = .ok (.getfield 53, 3) := by decide +kernel
theorem dX1_read_56 : decode cX1_read 56 = .ok (.ifCond .ge 7, 3) := by decide +kernel
theorem dX1_read_59 : decode cX1_read 59 = .ok (.iload_n 3, 1) := by decide +kernel
theorem dX1_read_60 : decode cX1_read 60 = .ok (.iconst 1, 1) := by decide +kernel
theorem dX1_read_61 : decode cX1_read 61 = .ok (.iadd, 1) := by decide +kernel
theorem dX1_read_62 : decode cX1_read 62 = .ok (.ireturn, 1) := by decide +kernel
theorem dX1_read_63 : decode cX1_read 63 = .ok (.aload_n 0, 1) := by decide +kernel
theorem dX1_read_64 : decode cX1_read 64 = .ok (.aload_n 1, 1) := by decide +kernel
theorem dX1_read_65 : decode cX1_read 65 = .ok (.iload_n 2, 1) := by decide +kernel
theorem dX1_read_66 : decode cX1_read 66 = .ok (.iload_n 3, 1) := by decide +kernel
theorem dX1_read_67 : decode cX1_read 67 = .ok (.iconst 2, 1) := by decide +kernel
theorem dX1_read_68 : decode cX1_read 68 = .ok (.iadd, 1) := by decide +kernel
theorem dX1_read_69 : decode cX1_read 69 = .ok (.invokevirtual 56, 3) := by decide +kernel
theorem dX1_read_72 : decode cX1_read 72 = .ok (.istore_n 3, 1) := by decide +kernel
theorem dX1_read_73 : decode cX1_read 73 = .ok (.aload_n 0, 1) := by decide +kernel
theorem dX1_read_74 : decode cX1_read 74 = .ok (.getfield 27, 3) := by decide +kernel
theorem dX1_read_77 : decode cX1_read 77 = .ok (.ifCond .ne 5, 3) := by decide +kernel
theorem dX1_read_80 : decode cX1_read 80 = .ok (.iload_n 3, 1) := by decide +kernel
theorem dX1_read_81 : decode cX1_read 81 = .ok (.ireturn, 1) := by decide +kernel
theorem dX1_read_82 : decode cX1_read 82 = .ok (.iconst 0, 1) := by decide +kernel
theorem dX1_read_83 : decode cX1_read 83 = .ok (.istore 4, 2) := by decide +kernel
theorem dX1_read_85 : decode cX1_read 85 = .ok (.iload 4, 2) := by decide +kernel
theorem dX1_read_87 : decode cX1_read 87 = .ok (.bipush 6, 2) := by decide +kernel
theorem dX1_read_89 : decode cX1_read 89 = .ok (.if_icmp .gt 64, 3) := by decide +kernel
theorem dX1_read_92 : decode cX1_read 92 = .ok (.aload_n 1, 1) := by decide +kernel
theorem dX1_read_93 : decode cX1_read 93 = .ok (.iload_n 2, 1) := by decide +kernel
theorem dX1_read_94 : decode cX1_read 94 = .ok (.iload_n 3, 1) := by decide +kernel
theorem dX1_read_95 : decode cX1_read 95 = .ok (.invokestatic 40, 3) := by decide +kernel
theorem dX1_read_98 : decode cX1_read 98 = .ok (.istore_n 3, 1) := by decide +kernel
theorem dX1_read_99 : decode cX1_read 99 = .ok (.iload_n 3, 1) := by decide +kernel
theorem dX1_read_100 : decode cX1_read 100 = .ok (.aload_n 1, 1) := by decide +kernel
theorem dX1_read_101 : decode cX1_read 101 = .ok (.iload_n 2, 1) := by decide +kernel
theorem dX1_read_102 : decode cX1_read 102 = .ok (.invokevirtual 59, 3) := by decide +kernel
theorem dX1_read_105 : decode cX1_read 105 = .ok (.if_icmp .lt 17, 3) := by decide +kernel
theorem dX1_read_108 : decode cX1_read 108 = .ok (.aload_n 0, 1) := by decide +kernel
theorem dX1_read_109 : decode cX1_read 109 = .ok (.getfield 31, 3) := by decide +kernel
theorem dX1_read_112 : decode cX1_read 112 = .ok (.ifCond .ne 7, 3) := by decide +kernel
theorem dX1_read_115 : decode cX1_read 115 = .ok (.iload_n 3, 1) := by decide +kernel
theorem dX1_read_116 : decode cX1_read 116 = .ok (.goto 5, 3) := by decide +kernel
theorem dX1_read_119 : decode cX1_read 119 = .ok (.bipush (-9), 2) := by decide +kernel
theorem dX1_read_121 : decode cX1_read 121 = .ok (.ireturn, 1) := by decide +kernel
theorem dX1_read_122 : decode cX1_read 122 = .ok (.aload_n 0, 1) := by decide +kernel
theorem dX1_read_123 : decode cX1_read 123 = .ok (.aload_n 1, 1) := by decide +kernel
theorem dX1_read_124 : decode cX1_read 124 = .ok (.iload_n 2, 1) := by decide +kernel
theorem dX1_read_125 : decode cX1_read 125 = .ok (.iload_n 3, 1) := by decide +kernel
theorem dX1_read_126 : decode cX1_read 126 = .ok (.invokevirtual 63, 3) := by decide +kernel
theorem dX1_read_129 : decode cX1_read 129 = .ok (.istore 5, 2) := by decide +kernel
theorem dX1_read_131 : decode cX1_read 131 = .ok (.iload 5, 2) := by decide +kernel
theorem dX1_read_133 : decode cX1_read 133 = .ok (.iconst 4, 1) := by decide +kernel
theorem dX1_read_134 : decode cX1_read 134 = .ok (.if_icmp .ge 8, 3) := by decide +kernel
theorem dX1_read_137 : decode cX1_read 137 = .ok (.iload_n 3, 1) := by decide +kernel
theorem dX1_read_138 : decode cX1_read 138 = .ok (.iload 5, 2) := by decide +kernel
theorem dX1_read_140 : decode cX1_read 140 = .ok (.iadd, 1) := by decide +kernel
theorem dX1_read_141 : decode cX1_read 141 = .ok (.ireturn, 1) := by decide +kernel
theorem dX1_read_142 : decode cX1_read 142 = .ok (.iload_n 3, 1) := by decide +kernel
theorem dX1_read_143 : decode cX1_read 143 = .ok (.iload 5, 2) := by decide +kernel
theorem dX1_read_145 : decode cX1_read 145 = .ok (.iadd, 1) := by decide +kernel
theorem dX1_read_146 : decode cX1_read 146 = .ok (.istore_n 3, 1) := by decide +kernel
theorem dX1_read_147 : decode cX1_read 147 = .ok (.iinc 4 1, 3) := by decide +kernel
theorem dX1_read_150 : decode cX1_read 150 = .ok (.goto (-65), 3) := by decide +kernel
theorem dX1_read_153 : decode cX1_read 153 = .ok (.iload_n 3, 1) := by decide +kernel
theorem dX1_read_154 : decode cX1_read 154 = .ok (.ireturn, 1) := by decide +kernel
theorem dX1_readLines_0 : decode cX1_readLines 0 = .ok (.iload_n 3, 1) := by decide +kernel
theorem dX1_readLines_1 : decode cX1_readLines 1 = .ok (.istore 4, 2) := by decide +kernel
theorem dX1_readLines_3 : decode cX1_readLines 3 = .ok (.iconst 0, 1) := by decide +kernel
theorem dX1_readLines_4 : decode cX1_readLines 4 = .ok (.istore 5, 2) := by decide +kernel
theorem dX1_readLines_6 : decode cX1_readLines 6 = .ok (.iload 5, 2) := by decide +kernel
theorem dX1_readLines_8 : decode cX1_readLines 8 = .ok (.bipush 6, 2) := by decide +kernel
theorem dX1_readLines_10 : decode cX1_readLines 10 = .ok (.if_icmp .ge 44, 3) := by decide +kernel
theorem dX1_readLines_13 : decode cX1_readLines 13 = .ok (.aload_n 1, 1) := by decide +kernel
theorem dX1_readLines_14 : decode cX1_readLines 14 = .ok (.iload_n 2, 1) := by decide +kernel
theorem dX1_readLines_15 : decode cX1_readLines 15 = .ok (.iload 4, 2) := by decide +kernel
theorem dX1_readLines_17 : decode cX1_readLines 17 = .ok (.invokestatic 50, 3) := by decide +kernel
theorem dX1_readLines_20 : decode cX1_readLines 20 = .ok (.ifCond .le 34, 3) := by decide +kernel
theorem dX1_readLines_23 : decode cX1_readLines 23 = .ok (.aload_n 0, 1) := by decide +kernel
theorem dX1_readLines_24 : decode cX1_readLines 24 = .ok (.getfield 9, 3) := by decide +kernel
theorem dX1_readLines_27 : decode cX1_readLines 27 = .ok (.iload 5, 2) := by decide +kernel
theorem dX1_readLines_29 : decode cX1_readLines 29 = .ok (.aload_n 1, 1) := by decide +kernel
theorem dX1_readLines_30 : decode cX1_readLines 30 = .ok (.iload_n 2, 1) := by decide +kernel
theorem dX1_readLines_31 : decode cX1_readLines 31 = .ok (.iload 4, 2) := by decide +kernel
theorem dX1_readLines_33 : decode cX1_readLines 33 = .ok (.invokestatic 50, 3) := by decide +kernel
theorem dX1_readLines_36 : decode cX1_readLines 36 = .ok (.iastore, 1) := by decide +kernel
theorem dX1_readLines_37 : decode cX1_readLines 37 = .ok (.aload_n 0, 1) := by decide +kernel
theorem dX1_readLines_38 : decode cX1_readLines 38 = .ok (.iload 5, 2) := by decide +kernel
theorem dX1_readLines_40 : decode cX1_readLines 40 = .ok (.iconst 1, 1) := by decide +kernel
theorem dX1_readLines_41 : decode cX1_readLines 41 = .ok (.iadd, 1) := by decide +kernel
theorem dX1_readLines_42 : decode cX1_readLines 42 = .ok (.putfield 27, 3) := by decide +kernel
theorem dX1_readLines_45 : decode cX1_readLines 45 = .ok (.iinc 4 1, 3) := by decide +kernel
theorem dX1_readLines_48 : decode cX1_readLines 48 = .ok (.iinc 5 1, 3) := by decide +kernel
theorem dX1_readLines_51 : decode cX1_readLines 51 = .ok (.goto (-45), 3) := by decide +kernel
theorem dX1_readLines_54 : decode cX1_readLines 54 = .ok (.iload 4, 2) := by decide +kernel
theorem dX1_readLines_56 : decode cX1_readLines 56 = .ok (.ireturn, 1) := by decide +kernel
theorem dX1_readSitter_0 : decode cX1_readSitter 0 = .ok (.aload_n 0, 1) := by decide +kernel
theorem dX1_readSitter_1 : decode cX1_readSitter 1 = .ok (.getfield 31, 3) := by decide +kernel
theorem dX1_readSitter_4 : decode cX1_readSitter 4 = .ok (.istore 4, 2) := by decide +kernel
theorem dX1_readSitter_6 : decode cX1_readSitter 6 = .ok (.aload_n 1, 1) := by decide +kernel
theorem dX1_readSitter_7 : decode cX1_readSitter 7 = .ok (.iload_n 2, 1) := by decide +kernel
theorem dX1_readSitter_8 : decode cX1_readSitter 8 = .ok (.iload_n 3, 1) := by decide +kernel
theorem dX1_readSitter_9 : decode cX1_readSitter 9 = .ok (.invokestatic 66, 3) := by decide +kernel
theorem dX1_readSitter_12 : decode cX1_readSitter 12 = .ok (.istore 5, 2) := by decide +kernel
theorem dX1_readSitter_14 : decode cX1_readSitter 14 = .ok (.iload 4, 2) := by decide +kernel
theorem dX1_readSitter_16 : decode cX1_readSitter 16 = .ok (.bipush 6, 2) := by decide +kernel
theorem dX1_readSitter_18 : decode cX1_readSitter 18 = .ok (.if_icmp .ge 10, 3) := by decide +kernel
theorem dX1_readSitter_21 : decode cX1_readSitter 21 = .ok (.iload 5, 2) := by decide +kernel
theorem dX1_readSitter_23 : decode cX1_readSitter 23 = .ok (.bipush (-9), 2) := by decide +kernel
theorem dX1_readSitter_25 : decode cX1_readSitter 25 = .ok (.if_icmp .ne 5, 3) := by decide +kernel
theorem dX1_readSitter_28 : decode cX1_readSitter 28 = .ok (.iconst 0, 1) := by decide +kernel
theorem dX1_readSitter_29 : decode cX1_readSitter 29 = .ok (.ireturn, 1) := by decide +kernel
theorem dX1_readSitter_30 : decode cX1_readSitter 30 = .ok (.aload_n 1, 1) := by decide +kernel
theorem dX1_readSitter_31 : decode cX1_readSitter 31 = .ok (.iload_n 2, 1) := by decide +kernel
theorem dX1_readSitter_32 : decode cX1_readSitter 32 = .ok (.iload_n 3, 1) := by decide +kernel
theorem dX1_readSitter_33 : decode cX1_readSitter 33 = .ok (.iconst 1, 1) := by decide +kernel
theorem dX1_readSitter_34 : decode cX1_readSitter 34 = .ok (.iadd, 1) := by decide +kernel
theorem dX1_readSitter_35 : decode cX1_readSitter 35 = .ok (.invokestatic 50, 3) := by decide +kernel
theorem dX1_readSitter_38 : decode cX1_readSitter 38 = .ok (.istore 6, 2) := by decide +kernel
theorem dX1_readSitter_40 : decode cX1_readSitter 40 = .ok (.iload 6, 2) := by decide +kernel
theorem dX1_readSitter_42 : decode cX1_readSitter 42 = .ok (.ifCond .lt 15, 3) := by decide +kernel
theorem dX1_readSitter_45 : decode cX1_readSitter 45 = .ok (.aload_n 0, 1) := by decide +kernel
theorem dX1_readSitter_46 : decode cX1_readSitter 46 = .ok (.getfield 34, 3) := by decide +kernel
theorem dX1_readSitter_49 : decode cX1_readSitter 49 = .ok (.iload 6, 2) := by decide +kernel
theorem dX1_readSitter_51 : decode cX1_readSitter 51 = .ok (.invokestatic 69, 3) := by decide +kernel
theorem dX1_readSitter_54 : decode cX1_readSitter 54 = .ok (.ifCond .eq 5, 3) := by decide +kernel
theorem dX1_readSitter_57 : decode cX1_readSitter 57 = .ok (.iconst 1, 1) := by decide +kernel
theorem dX1_readSitter_58 : decode cX1_readSitter 58 = .ok (.ireturn, 1) := by decide +kernel
theorem dX1_readSitter_59 : decode cX1_readSitter 59 = .ok (.aload_n 0, 1) := by decide +kernel
theorem dX1_readSitter_60 : decode cX1_readSitter 60 = .ok (.getfield 15, 3) := by decide +kernel
theorem dX1_readSitter_63 : decode cX1_readSitter 63 = .ok (.iload 4, 2) := by decide +kernel
theorem dX1_readSitter_65 : decode cX1_readSitter 65 = .ok (.iload 5, 2) := by decide +kernel
theorem dX1_readSitter_67 : decode cX1_readSitter 67 = .ok (.iastore, 1) := by decide +kernel
theorem dX1_readSitter_68 : decode cX1_readSitter 68 = .ok (.aload_n 0, 1) := by decide +kernel
theorem dX1_readSitter_69 : decode cX1_readSitter 69 = .ok (.getfield 18, 3) := by decide +kernel
theorem dX1_readSitter_72 : decode cX1_readSitter 72 = .ok (.iload 4, 2) := by decide +kernel
theorem dX1_readSitter_74 : decode cX1_readSitter 74 = .ok (.iload 6, 2) := by decide +kernel
theorem dX1_readSitter_76 : decode cX1_readSitter 76 = .ok (.iastore, 1) := by decide +kernel
theorem dX1_readSitter_77 : decode cX1_readSitter 77 = .ok (.aload_n 0, 1) := by decide +kernel
theorem dX1_readSitter_78 : decode cX1_readSitter 78 = .ok (.getfield 21, 3) := by decide +kernel
theorem dX1_readSitter_81 : decode cX1_readSitter 81 = .ok (.iload 4, 2) := by decide +kernel
theorem dX1_readSitter_83 : decode cX1_readSitter 83 = .ok (.aload_n 1, 1) := by decide +kernel
theorem dX1_readSitter_84 : decode cX1_readSitter 84 = .ok (.iload_n 2, 1) := by decide +kernel
theorem dX1_readSitter_85 : decode cX1_readSitter 85 = .ok (.iload_n 3, 1) := by decide +kernel
theorem dX1_readSitter_86 : decode cX1_readSitter 86 = .ok (.iconst 2, 1) := by decide +kernel
theorem dX1_readSitter_87 : decode cX1_readSitter 87 = .ok (.iadd, 1) := by decide +kernel
theorem dX1_readSitter_88 : decode cX1_readSitter 88 = .ok (.invokestatic 50, 3) := by decide +kernel
theorem dX1_readSitter_91 : decode cX1_readSitter 91 = .ok (.iastore, 1) := by decide +kernel
theorem dX1_readSitter_92 : decode cX1_readSitter 92 = .ok (.aload_n 0, 1) := by decide +kernel
theorem dX1_readSitter_93 : decode cX1_readSitter 93 = .ok (.getfield 24, 3) := by decide +kernel
theorem dX1_readSitter_96 : decode cX1_readSitter 96 = .ok (.iload 4, 2) := by decide +kernel
theorem dX1_readSitter_98 : decode cX1_readSitter 98 = .ok (.aload_n 1, 1) := by decide +kernel
theorem dX1_readSitter_99 : decode cX1_readSitter 99 = .ok (.iload_n 2, 1) := by decide +kernel
theorem dX1_readSitter_100 : decode cX1_readSitter 100 = .ok (.iload_n 3, 1) := by decide +kernel
theorem dX1_readSitter_101 : decode cX1_readSitter 101 = .ok (.iconst 3, 1) := by decide +kernel
theorem dX1_readSitter_102 : decode cX1_readSitter 102 = .ok (.iadd, 1) := by decide +kernel
theorem dX1_readSitter_103 : decode cX1_readSitter 103 = .ok (.invokestatic 50, 3) := by decide +kernel
theorem dX1_readSitter_106 : decode cX1_readSitter 106 = .ok (.iastore, 1) := by decide +kernel
theorem dX1_readSitter_107 : decode cX1_readSitter 107 = .ok (.aload_n 0, 1) := by decide +kernel
theorem dX1_readSitter_108 : decode cX1_readSitter 108 = .ok (.getfield 21, 3) := by decide +kernel
theorem dX1_readSitter_111 : decode cX1_readSitter 111 = .ok (.iload 4, 2) := by decide +kernel
theorem dX1_readSitter_113 : decode cX1_readSitter 113 = .ok (.iaload, 1) := by decide +kernel
theorem dX1_readSitter_114 : decode cX1_readSitter 114 = .ok (.ifCond .ge 5, 3) := by decide +kernel
theorem dX1_readSitter_117 : decode cX1_readSitter 117 = .ok (.iconst 2, 1) := by decide +kernel
theorem dX1_readSitter_118 : decode cX1_readSitter 118 = .ok (.ireturn, 1) := by decide +kernel
theorem dX1_readSitter_119 : decode cX1_readSitter 119 = .ok (.aload_n 0, 1) := by decide +kernel
theorem dX1_readSitter_120 : decode cX1_readSitter 120 = .ok (.getfield 24, 3) := by decide +kernel
theorem dX1_readSitter_123 : decode cX1_readSitter 123 = .ok (.iload 4, 2) := by decide +kernel
theorem dX1_readSitter_125 : decode cX1_readSitter 125 = .ok (.iaload, 1) := by decide +kernel
theorem dX1_readSitter_126 : decode cX1_readSitter 126 = .ok (.ifCond .ge 5, 3) := by decide +kernel
theorem dX1_readSitter_129 : decode cX1_readSitter 129 = .ok (.iconst 3, 1) := by decide +kernel
theorem dX1_readSitter_130 : decode cX1_readSitter 130 = .ok (.ireturn, 1) := by decide +kernel
theorem dX1_readSitter_131 : decode cX1_readSitter 131 = .ok (.aload_n 0, 1) := by decide +kernel
theorem dX1_readSitter_132 : decode cX1_readSitter 132 = .ok (.dup, 1) := by decide +kernel
theorem dX1_readSitter_133 : decode cX1_readSitter 133 = .ok (.getfield 34, 3) := by decide +kernel
theorem dX1_readSitter_136 : decode cX1_readSitter 136 = .ok (.iconst 1, 1) := by decide +kernel
theorem dX1_readSitter_137 : decode cX1_readSitter 137 = .ok (.iload 6, 2) := by decide +kernel
theorem dX1_readSitter_139 : decode cX1_readSitter 139 = .ok (.ishl, 1) := by decide +kernel
theorem dX1_readSitter_140 : decode cX1_readSitter 140 = .ok (.ior, 1) := by decide +kernel
theorem dX1_readSitter_141 : decode cX1_readSitter 141 = .ok (.putfield 34, 3) := by decide +kernel
theorem dX1_readSitter_144 : decode cX1_readSitter 144 = .ok (.aload_n 0, 1) := by decide +kernel
theorem dX1_readSitter_145 : decode cX1_readSitter 145 = .ok (.dup, 1) := by decide +kernel
theorem dX1_readSitter_146 : decode cX1_readSitter 146 = .ok (.getfield 37, 3) := by decide +kernel
theorem dX1_readSitter_149 : decode cX1_readSitter 149 = .ok (.iload 5, 2) := by decide +kernel
theorem dX1_readSitter_151 : decode cX1_readSitter 151 = .ok (.iconst 5, 1) := by decide +kernel
theorem dX1_readSitter_152 : decode cX1_readSitter 152 = .ok (.if_icmp .ne 10, 3) := by decide +kernel
theorem dX1_readSitter_155 : decode cX1_readSitter 155 = .ok (.iconst 1, 1) := by decide +kernel
theorem dX1_readSitter_156 : decode cX1_readSitter 156 = .ok (.iload 4, 2) := by decide +kernel
theorem dX1_readSitter_158 : decode cX1_readSitter 158 = .ok (.ishl, 1) := by decide +kernel
theorem dX1_readSitter_159 : decode cX1_readSitter 159 = .ok (.goto 4, 3) := by decide +kernel
theorem dX1_readSitter_162 : decode cX1_readSitter 162 = .ok (.iconst 0, 1) := by decide +kernel
theorem dX1_readSitter_163 : decode cX1_readSitter 163 = .ok (.ior, 1) := by decide +kernel
theorem dX1_readSitter_164 : decode cX1_readSitter 164 = .ok (.putfield 37, 3) := by decide +kernel
theorem dX1_readSitter_167 : decode cX1_readSitter 167 = .ok (.aload_n 0, 1) := by decide +kernel
theorem dX1_readSitter_168 : decode cX1_readSitter 168 = .ok (.iload 4, 2) := by decide +kernel
theorem dX1_readSitter_170 : decode cX1_readSitter 170 = .ok (.iconst 1, 1) := by decide +kernel
theorem dX1_readSitter_171 : decode cX1_readSitter 171 = .ok (.iadd, 1) := by decide +kernel
theorem dX1_readSitter_172 : decode cX1_readSitter 172 = .ok (.putfield 31, 3) := by decide +kernel
theorem dX1_readSitter_175 : decode cX1_readSitter 175 = .ok (.iconst 4, 1) := by decide +kernel
theorem dX1_readSitter_176 : decode cX1_readSitter 176 = .ok (.ireturn, 1) := by decide +kernel
theorem dX1_figureAt_0 : decode cX1_figureAt 0 = .ok (.aload_n 0, 1) := by decide +kernel
theorem dX1_figureAt_1 : decode cX1_figureAt 1 = .ok (.iload_n 1, 1) := by decide +kernel
theorem dX1_figureAt_2 : decode cX1_figureAt 2 = .ok (.iload_n 2, 1) := by decide +kernel
theorem dX1_figureAt_3 : decode cX1_figureAt 3 = .ok (.invokevirtual 44, 3) := by decide +kernel
theorem dX1_figureAt_6 : decode cX1_figureAt 6 = .ok (.istore_n 3, 1) := by decide +kernel
theorem dX1_figureAt_7 : decode cX1_figureAt 7 = .ok (.iload_n 3, 1) := by decide +kernel
theorem dX1_figureAt_8 : decode cX1_figureAt 8 = .ok (.bipush 48, 2) := by decide +kernel
theorem dX1_figureAt_10 : decode cX1_figureAt 10 = .ok (.if_icmp .lt 16, 3) := by decide +kernel
theorem dX1_figureAt_13 : decode cX1_figureAt 13 = .ok (.iload_n 3, 1) := by decide +kernel
theorem dX1_figureAt_14 : decode cX1_figureAt 14 = .ok (.bipush 57, 2) := by decide +kernel
theorem dX1_figureAt_16 : decode cX1_figureAt 16 = .ok (.if_icmp .gt 10, 3) := by decide +kernel
theorem dX1_figureAt_19 : decode cX1_figureAt 19 = .ok (.iload_n 3, 1) := by decide +kernel
theorem dX1_figureAt_20 : decode cX1_figureAt 20 = .ok (.bipush 48, 2) := by decide +kernel
theorem dX1_figureAt_22 : decode cX1_figureAt 22 = .ok (.isub, 1) := by decide +kernel
theorem dX1_figureAt_23 : decode cX1_figureAt 23 = .ok (.goto 5, 3) := by decide +kernel
theorem dX1_figureAt_26 : decode cX1_figureAt 26 = .ok (.bipush (-9), 2) := by decide +kernel
theorem dX1_figureAt_28 : decode cX1_figureAt 28 = .ok (.ireturn, 1) := by decide +kernel
theorem dX1_kindAt_0 : decode cX1_kindAt 0 = .ok (.aload_n 0, 1) := by decide +kernel
theorem dX1_kindAt_1 : decode cX1_kindAt 1 = .ok (.iload_n 1, 1) := by decide +kernel
theorem dX1_kindAt_2 : decode cX1_kindAt 2 = .ok (.iload_n 2, 1) := by decide +kernel
theorem dX1_kindAt_3 : decode cX1_kindAt 3 = .ok (.invokevirtual 44, 3) := by decide +kernel
theorem dX1_kindAt_6 : decode cX1_kindAt 6 = .ok (.istore_n 3, 1) := by decide +kernel
theorem dX1_kindAt_7 : decode cX1_kindAt 7 = .ok (.iconst 0, 1) := by decide +kernel
theorem dX1_kindAt_8 : decode cX1_kindAt 8 = .ok (.istore 4, 2) := by decide +kernel
theorem dX1_kindAt_10 : decode cX1_kindAt 10 = .ok (.iload 4, 2) := by decide +kernel
theorem dX1_kindAt_12 : decode cX1_kindAt 12 = .ok (.getstatic 73, 3) := by decide +kernel
theorem dX1_kindAt_15 : decode cX1_kindAt 15 = .ok (.arraylength, 1) := by decide +kernel
theorem dX1_kindAt_16 : decode cX1_kindAt 16 = .ok (.if_icmp .ge 22, 3) := by decide +kernel
theorem dX1_kindAt_19 : decode cX1_kindAt 19 = .ok (.getstatic 73, 3) := by decide +kernel
theorem dX1_kindAt_22 : decode cX1_kindAt 22 = .ok (.iload 4, 2) := by decide +kernel
theorem dX1_kindAt_24 : decode cX1_kindAt 24 = .ok (.caload, 1) := by decide +kernel
theorem dX1_kindAt_25 : decode cX1_kindAt 25 = .ok (.iload_n 3, 1) := by decide +kernel
theorem dX1_kindAt_26 : decode cX1_kindAt 26 = .ok (.if_icmp .ne 6, 3) := by decide +kernel
theorem dX1_kindAt_29 : decode cX1_kindAt 29 = .ok (.iload 4, 2) := by decide +kernel
theorem dX1_kindAt_31 : decode cX1_kindAt 31 = .ok (.ireturn, 1) := by decide +kernel
theorem dX1_kindAt_32 : decode cX1_kindAt 32 = .ok (.iinc 4 1, 3) := by decide +kernel
theorem dX1_kindAt_35 : decode cX1_kindAt 35 = .ok (.goto (-25), 3) := by decide +kernel
theorem dX1_kindAt_38 : decode cX1_kindAt 38 = .ok (.bipush (-9), 2) := by decide +kernel
theorem dX1_kindAt_40 : decode cX1_kindAt 40 = .ok (.ireturn, 1) := by decide +kernel
theorem dX1_pastBlanks_0 : decode cX1_pastBlanks 0 = .ok (.iload_n 2, 1) := by decide +kernel
theorem dX1_pastBlanks_1 : decode cX1_pastBlanks 1 = .ok (.istore_n 3, 1) := by decide +kernel
theorem dX1_pastBlanks_2 : decode cX1_pastBlanks 2 = .ok (.iload_n 3, 1) := by decide +kernel
theorem dX1_pastBlanks_3 : decode cX1_pastBlanks 3 = .ok (.aload_n 0, 1) := by decide +kernel
theorem dX1_pastBlanks_4 : decode cX1_pastBlanks 4 = .ok (.iload_n 1, 1) := by decide +kernel
theorem dX1_pastBlanks_5 : decode cX1_pastBlanks 5 = .ok (.invokevirtual 59, 3) := by decide +kernel
theorem dX1_pastBlanks_8 : decode cX1_pastBlanks 8 = .ok (.if_icmp .ge 20, 3) := by decide +kernel
theorem dX1_pastBlanks_11 : decode cX1_pastBlanks 11 = .ok (.aload_n 0, 1) := by decide +kernel
theorem dX1_pastBlanks_12 : decode cX1_pastBlanks 12 = .ok (.iload_n 1, 1) := by decide +kernel
theorem dX1_pastBlanks_13 : decode cX1_pastBlanks 13 = .ok (.iload_n 3, 1) := by decide +kernel
theorem dX1_pastBlanks_14 : decode cX1_pastBlanks 14 = .ok (.invokevirtual 44, 3) := by decide +kernel
theorem dX1_pastBlanks_17 : decode cX1_pastBlanks 17 = .ok (.bipush 32, 2) := by decide +kernel
theorem dX1_pastBlanks_19 : decode cX1_pastBlanks 19 = .ok (.if_icmp .ne 9, 3) := by decide +kernel
theorem dX1_pastBlanks_22 : decode cX1_pastBlanks 22 = .ok (.iinc 3 1, 3) := by decide +kernel
theorem dX1_pastBlanks_25 : decode cX1_pastBlanks 25 = .ok (.goto (-23), 3) := by decide +kernel
theorem dX1_pastBlanks_28 : decode cX1_pastBlanks 28 = .ok (.iload_n 3, 1) := by decide +kernel
theorem dX1_pastBlanks_29 : decode cX1_pastBlanks 29 = .ok (.ireturn, 1) := by decide +kernel
theorem dX1_isSitter_0 : decode cX1_isSitter 0 = .ok (.iload_n 1, 1) := by decide +kernel
theorem dX1_isSitter_1 : decode cX1_isSitter 1 = .ok (.ifCond .lt 15, 3) := by decide +kernel
theorem dX1_isSitter_4 : decode cX1_isSitter 4 = .ok (.iload_n 1, 1) := by decide +kernel
theorem dX1_isSitter_5 : decode cX1_isSitter 5 = .ok (.aload_n 0, 1) := by decide +kernel
theorem dX1_isSitter_6 : decode cX1_isSitter 6 = .ok (.getfield 31, 3) := by decide +kernel
theorem dX1_isSitter_9 : decode cX1_isSitter 9 = .ok (.if_icmp .ge 7, 3) := by decide +kernel
theorem dX1_isSitter_12 : decode cX1_isSitter 12 = .ok (.iconst 1, 1) := by decide +kernel
theorem dX1_isSitter_13 : decode cX1_isSitter 13 = .ok (.goto 4, 3) := by decide +kernel
theorem dX1_isSitter_16 : decode cX1_isSitter 16 = .ok (.iconst 0, 1) := by decide +kernel
theorem dX1_isSitter_17 : decode cX1_isSitter 17 = .ok (.ireturn, 1) := by decide +kernel
theorem dX1_clerkCount_0 : decode cX1_clerkCount 0 = .ok (.iconst 0, 1) := by decide +kernel
theorem dX1_clerkCount_1 : decode cX1_clerkCount 1 = .ok (.istore_n 1, 1) := by decide +kernel
theorem dX1_clerkCount_2 : decode cX1_clerkCount 2 = .ok (.iconst 0, 1) := by decide +kernel
theorem dX1_clerkCount_3 : decode cX1_clerkCount 3 = .ok (.istore_n 2, 1) := by decide +kernel
theorem dX1_clerkCount_4 : decode cX1_clerkCount 4 = .ok (.iload_n 2, 1) := by decide +kernel
theorem dX1_clerkCount_5 : decode cX1_clerkCount 5 = .ok (.aload_n 0, 1) := by decide +kernel
theorem dX1_clerkCount_6 : decode cX1_clerkCount 6 = .ok (.getfield 31, 3) := by decide +kernel
theorem dX1_clerkCount_9 : decode cX1_clerkCount 9 = .ok (.if_icmp .ge 30, 3) := by decide +kernel
theorem dX1_clerkCount_12 : decode cX1_clerkCount 12 = .ok (.iload_n 1, 1) := by decide +kernel
theorem dX1_clerkCount_13 : decode cX1_clerkCount 13 = .ok (.aload_n 0, 1) := by decide +kernel
theorem dX1_clerkCount_14 : decode cX1_clerkCount 14 = .ok (.getfield 15, 3) := by decide +kernel
theorem dX1_clerkCount_17 : decode cX1_clerkCount 17 = .ok (.iload_n 2, 1) := by decide +kernel
theorem dX1_clerkCount_18 : decode cX1_clerkCount 18 = .ok (.iaload, 1) := by decide +kernel
theorem dX1_clerkCount_19 : decode cX1_clerkCount 19 = .ok (.iconst 1, 1) := by decide +kernel
theorem dX1_clerkCount_20 : decode cX1_clerkCount 20 = .ok (.invokestatic 77, 3) := by decide +kernel
theorem dX1_clerkCount_23 : decode cX1_clerkCount 23 = .ok (.ifCond .eq 7, 3) := by decide +kernel
theorem dX1_clerkCount_26 : decode cX1_clerkCount 26 = .ok (.iconst 1, 1) := by decide +kernel
theorem dX1_clerkCount_27 : decode cX1_clerkCount 27 = .ok (.goto 4, 3) := by decide +kernel
theorem dX1_clerkCount_30 : decode cX1_clerkCount 30 = .ok (.iconst 0, 1) := by decide +kernel
theorem dX1_clerkCount_31 : decode cX1_clerkCount 31 = .ok (.iadd, 1) := by decide +kernel
theorem dX1_clerkCount_32 : decode cX1_clerkCount 32 = .ok (.istore_n 1, 1) := by decide +kernel
theorem dX1_clerkCount_33 : decode cX1_clerkCount 33 = .ok (.iinc 2 1, 3) := by decide +kernel
theorem dX1_clerkCount_36 : decode cX1_clerkCount 36 = .ok (.goto (-32), 3) := by decide +kernel
theorem dX1_clerkCount_39 : decode cX1_clerkCount 39 = .ok (.iload_n 1, 1) := by decide +kernel
theorem dX1_clerkCount_40 : decode cX1_clerkCount 40 = .ok (.ireturn, 1) := by decide +kernel
theorem dX1_otherClaques_0 : decode cX1_otherClaques 0 = .ok (.aload_n 0, 1) := by decide +kernel
theorem dX1_otherClaques_1 : decode cX1_otherClaques 1 = .ok (.getfield 37, 3) := by decide +kernel
theorem dX1_otherClaques_4 : decode cX1_otherClaques 4 = .ok (.iload_n 2, 1) := by decide +kernel
theorem dX1_otherClaques_5 : decode cX1_otherClaques 5 = .ok (.iconst (-1), 1) := by decide +kernel
theorem dX1_otherClaques_6 : decode cX1_otherClaques 6 = .ok (.ixor, 1) := by decide +kernel
theorem dX1_otherClaques_7 : decode cX1_otherClaques 7 = .ok (.iand, 1) := by decide +kernel
theorem dX1_otherClaques_8 : decode cX1_otherClaques 8 = .ok (.iconst 1, 1) := by decide +kernel
theorem dX1_otherClaques_9 : decode cX1_otherClaques 9 = .ok (.iload_n 1, 1) := by decide +kernel
theorem dX1_otherClaques_10 : decode cX1_otherClaques 10 = .ok (.ishl, 1) := by decide +kernel
theorem dX1_otherClaques_11 : decode cX1_otherClaques 11 = .ok (.iconst (-1), 1) := by decide +kernel
theorem dX1_otherClaques_12 : decode cX1_otherClaques 12 = .ok (.ixor, 1) := by decide +kernel
theorem dX1_otherClaques_13 : decode cX1_otherClaques 13 = .ok (.iand, 1) := by decide +kernel
theorem dX1_otherClaques_14 : decode cX1_otherClaques 14 = .ok (.invokestatic 80, 3) := by decide +kernel
theorem dX1_otherClaques_17 : decode cX1_otherClaques 17 = .ok (.ireturn, 1) := by decide +kernel
theorem dX1_lacking_0 : decode cX1_lacking 0 = .ok (.aload_n 0, 1) := by decide +kernel
theorem dX1_lacking_1 : decode cX1_lacking 1 = .ok (.iload_n 1, 1) := by decide +kernel
theorem dX1_lacking_2 : decode cX1_lacking 2 = .ok (.invokevirtual 85, 3) := by decide +kernel
theorem dX1_lacking_5 : decode cX1_lacking 5 = .ok (.ifCond .eq 15, 3) := by decide +kernel
theorem dX1_lacking_8 : decode cX1_lacking 8 = .ok (.iload_n 2, 1) := by decide +kernel
theorem dX1_lacking_9 : decode cX1_lacking 9 = .ok (.ifCond .lt 11, 3) := by decide +kernel
theorem dX1_lacking_12 : decode cX1_lacking 12 = .ok (.iload_n 2, 1) := by decide +kernel
theorem dX1_lacking_13 : decode cX1_lacking 13 = .ok (.aload_n 0, 1) := by decide +kernel
theorem dX1_lacking_14 : decode cX1_lacking 14 = .ok (.getfield 27, 3) := by decide +kernel
theorem dX1_lacking_17 : decode cX1_lacking 17 = .ok (.if_icmp .lt 5, 3) := by decide +kernel
theorem dX1_lacking_20 : decode cX1_lacking 20 = .ok (.iconst 0, 1) := by decide +kernel
theorem dX1_lacking_21 : decode cX1_lacking 21 = .ok (.ireturn, 1) := by decide +kernel
theorem dX1_lacking_22 : decode cX1_lacking 22 = .ok (.aload_n 0, 1) := by decide +kernel
theorem dX1_lacking_23 : decode cX1_lacking 23 = .ok (.getfield 15, 3) := by decide +kernel
theorem dX1_lacking_26 : decode cX1_lacking 26 = .ok (.iload_n 1, 1) := by decide +kernel
theorem dX1_lacking_27 : decode cX1_lacking 27 = .ok (.iaload, 1) := by decide +kernel
theorem dX1_lacking_28 : decode cX1_lacking 28 = .ok (.aload_n 0, 1) := by decide +kernel
theorem dX1_lacking_29 : decode cX1_lacking 29 = .ok (.getfield 21, 3) := by decide +kernel
theorem dX1_lacking_32 : decode cX1_lacking 32 = .ok (.iload_n 1, 1) := by decide +kernel
theorem dX1_lacking_33 : decode cX1_lacking 33 = .ok (.iaload, 1) := by decide +kernel
theorem dX1_lacking_34 : decode cX1_lacking 34 = .ok (.aload_n 0, 1) := by decide +kernel
theorem dX1_lacking_35 : decode cX1_lacking 35 = .ok (.getfield 24, 3) := by decide +kernel
theorem dX1_lacking_38 : decode cX1_lacking 38 = .ok (.iload_n 1, 1) := by decide +kernel
theorem dX1_lacking_39 : decode cX1_lacking 39 = .ok (.iaload, 1) := by decide +kernel
theorem dX1_lacking_40 : decode cX1_lacking 40 = .ok (.iload 4, 2) := by decide +kernel
theorem dX1_lacking_42 : decode cX1_lacking 42 = .ok (.aload_n 0, 1) := by decide +kernel
theorem dX1_lacking_43 : decode cX1_lacking 43 = .ok (.iload_n 1, 1) := by decide +kernel
theorem dX1_lacking_44 : decode cX1_lacking 44 = .ok (.iload_n 3, 1) := by decide +kernel
theorem dX1_lacking_45 : decode cX1_lacking 45 = .ok (.invokevirtual 89, 3) := by decide +kernel
theorem dX1_lacking_48 : decode cX1_lacking 48 = .ok (.invokestatic 92, 3) := by decide +kernel
theorem dX1_lacking_51 : decode cX1_lacking 51 = .ok (.istore 5, 2) := by decide +kernel
theorem dX1_lacking_53 : decode cX1_lacking 53 = .ok (.iconst 0, 1) := by decide +kernel
theorem dX1_lacking_54 : decode cX1_lacking 54 = .ok (.aload_n 0, 1) := by decide +kernel
theorem dX1_lacking_55 : decode cX1_lacking 55 = .ok (.getfield 9, 3) := by decide +kernel
theorem dX1_lacking_58 : decode cX1_lacking 58 = .ok (.iload_n 2, 1) := by decide +kernel
theorem dX1_lacking_59 : decode cX1_lacking 59 = .ok (.iaload, 1) := by decide +kernel
theorem dX1_lacking_60 : decode cX1_lacking 60 = .ok (.iload 5, 2) := by decide +kernel
theorem dX1_lacking_62 : decode cX1_lacking 62 = .ok (.isub, 1) := by decide +kernel
theorem dX1_lacking_63 : decode cX1_lacking 63 = .ok (.invokestatic 96, 3) := by decide +kernel
theorem dX1_lacking_66 : decode cX1_lacking 66 = .ok (.ireturn, 1) := by decide +kernel
theorem dX2_init_0 : decode cX2_init 0 = .ok (.aload_n 0, 1) := by decide +kernel
theorem dX2_init_1 : decode cX2_init 1 = .ok (.invokespecial 3, 3) := by decide +kernel
theorem dX2_init_4 : decode cX2_init 4 = .ok (.aload_n 0, 1) := by decide +kernel
theorem dX2_init_5 : decode cX2_init 5 = .ok (.bipush 6, 2) := by decide +kernel
theorem dX2_init_7 : decode cX2_init 7 = .ok (.newarray .int, 2) := by decide +kernel
theorem dX2_init_9 : decode cX2_init 9 = .ok (.putfield 9, 3) := by decide +kernel
theorem dX2_init_12 : decode cX2_init 12 = .ok (.aload_n 0, 1) := by decide +kernel
theorem dX2_init_13 : decode cX2_init 13 = .ok (.bipush 6, 2) := by decide +kernel
theorem dX2_init_15 : decode cX2_init 15 = .ok (.newarray .int, 2) := by decide +kernel
theorem dX2_init_17 : decode cX2_init 17 = .ok (.putfield 15, 3) := by decide +kernel
theorem dX2_init_20 : decode cX2_init 20 = .ok (.aload_n 0, 1) := by decide +kernel
theorem dX2_init_21 : decode cX2_init 21 = .ok (.bipush 7, 2) := by decide +kernel
theorem dX2_init_23 : decode cX2_init 23 = .ok (.bipush 7, 2) := by decide +kernel
theorem dX2_init_25 : decode cX2_init 25 = .ok (.multianewarray 18 2, 4) := by decide +kernel
theorem dX2_init_29 : decode cX2_init 29 = .ok (.putfield 20, 3) := by decide +kernel
theorem dX2_init_32 : decode cX2_init 32 = .ok (.aload_n 0, 1) := by decide +kernel
theorem dX2_init_33 : decode cX2_init 33 = .ok (.aload_n 1, 1) := by decide +kernel
theorem dX2_init_34 : decode cX2_init 34 = .ok (.putfield 23, 3) := by decide +kernel
theorem dX2_init_37 : decode cX2_init 37 = .ok (.aload_n 0, 1) := by decide +kernel
theorem dX2_init_38 : decode cX2_init 38 = .ok (.aload_n 1, 1) := by decide +kernel
theorem dX2_init_39 : decode cX2_init 39 = .ok (.getfield 27, 3) := by decide +kernel
theorem dX2_init_42 : decode cX2_init 42 = .ok (.putfield 33, 3) := by decide +kernel
theorem dX2_init_45 : decode cX2_init 45 = .ok (.iconst 0, 1) := by decide +kernel
theorem dX2_init_46 : decode cX2_init 46 = .ok (.istore_n 2, 1) := by decide +kernel
theorem dX2_init_47 : decode cX2_init 47 = .ok (.iload_n 2, 1) := by decide +kernel
theorem dX2_init_48 : decode cX2_init 48 = .ok (.bipush 6, 2) := by decide +kernel
theorem dX2_init_50 : decode cX2_init 50 = .ok (.if_icmp .gt 18, 3) := by decide +kernel
theorem dX2_init_53 : decode cX2_init 53 = .ok (.aload_n 0, 1) := by decide +kernel
theorem dX2_init_54 : decode cX2_init 54 = .ok (.getfield 20, 3) := by decide +kernel
theorem dX2_init_57 : decode cX2_init 57 = .ok (.iconst 0, 1) := by decide +kernel
theorem dX2_init_58 : decode cX2_init 58 = .ok (.aaload, 1) := by decide +kernel
theorem dX2_init_59 : decode cX2_init 59 = .ok (.iload_n 2, 1) := by decide +kernel
theorem dX2_init_60 : decode cX2_init 60 = .ok (.iconst 1, 1) := by decide +kernel
theorem dX2_init_61 : decode cX2_init 61 = .ok (.iastore, 1) := by decide +kernel
theorem dX2_init_62 : decode cX2_init 62 = .ok (.iinc 2 1, 3) := by decide +kernel
theorem dX2_init_65 : decode cX2_init 65 = .ok (.goto (-18), 3) := by decide +kernel
theorem dX2_init_68 : decode cX2_init 68 = .ok (.iconst 1, 1) := by decide +kernel
theorem dX2_init_69 : decode cX2_init 69 = .ok (.istore_n 2, 1) := by decide +kernel
theorem dX2_init_70 : decode cX2_init 70 = .ok (.iload_n 2, 1) := by decide +kernel
theorem dX2_init_71 : decode cX2_init 71 = .ok (.bipush 6, 2) := by decide +kernel
theorem dX2_init_73 : decode cX2_init 73 = .ok (.if_icmp .gt 65, 3) := by decide +kernel
theorem dX2_init_76 : decode cX2_init 76 = .ok (.aload_n 0, 1) := by decide +kernel
theorem dX2_init_77 : decode cX2_init 77 = .ok (.getfield 20, 3) := by decide +kernel
theorem dX2_init_80 : decode cX2_init 80 = .ok (.iload_n 2, 1) := by decide +kernel
theorem dX2_init_81 : decode cX2_init 81 = .ok (.aaload, 1) := by decide +kernel
theorem dX2_init_82 : decode cX2_init 82 = .ok (.iconst 0, 1) := by decide +kernel
theorem dX2_init_83 : decode cX2_init 83 = .ok (.iconst 1, 1) := by decide +kernel
theorem dX2_init_84 : decode cX2_init 84 = .ok (.iastore, 1) := by decide +kernel
theorem dX2_init_85 : decode cX2_init 85 = .ok (.iconst 1, 1) := by decide +kernel
theorem dX2_init_86 : decode cX2_init 86 = .ok (.istore_n 3, 1) := by decide +kernel
theorem dX2_init_87 : decode cX2_init 87 = .ok (.iload_n 3, 1) := by decide +kernel
theorem dX2_init_88 : decode cX2_init 88 = .ok (.bipush 6, 2) := by decide +kernel
theorem dX2_init_90 : decode cX2_init 90 = .ok (.if_icmp .gt 42, 3) := by decide +kernel
theorem dX2_init_93 : decode cX2_init 93 = .ok (.aload_n 0, 1) := by decide +kernel
theorem dX2_init_94 : decode cX2_init 94 = .ok (.getfield 20, 3) := by decide +kernel
theorem dX2_init_97 : decode cX2_init 97 = .ok (.iload_n 2, 1) := by decide +kernel
theorem dX2_init_98 : decode cX2_init 98 = .ok (.aaload, 1) := by decide +kernel
theorem dX2_init_99 : decode cX2_init 99 = .ok (.iload_n 3, 1) := by decide +kernel
theorem dX2_init_100 : decode cX2_init 100 = .ok (.aload_n 0, 1) := by decide +kernel
theorem dX2_init_101 : decode cX2_init 101 = .ok (.getfield 20, 3) := by decide +kernel
theorem dX2_init_104 : decode cX2_init 104 = .ok (.iload_n 2, 1) := by decide +kernel
theorem dX2_init_105 : decode cX2_init 105 = .ok (.iconst 1, 1) := by decide +kernel
theorem dX2_init_106 : decode cX2_init 106 = .ok (.isub, 1) := by decide +kernel
theorem dX2_init_107 : decode cX2_init 107 = .ok (.aaload, 1) := by decide +kernel
theorem dX2_init_108 : decode cX2_init 108 = .ok (.iload_n 3, 1) := by decide +kernel
theorem dX2_init_109 : decode cX2_init 109 = .ok (.iaload, 1) := by decide +kernel
theorem dX2_init_110 : decode cX2_init 110 = .ok (.iload_n 3, 1) := by decide +kernel
theorem dX2_init_111 : decode cX2_init 111 = .ok (.aload_n 0, 1) := by decide +kernel
theorem dX2_init_112 : decode cX2_init 112 = .ok (.getfield 20, 3) := by decide +kernel
theorem dX2_init_115 : decode cX2_init 115 = .ok (.iload_n 2, 1) := by decide +kernel
theorem dX2_init_116 : decode cX2_init 116 = .ok (.iconst 1, 1) := by decide +kernel
theorem dX2_init_117 : decode cX2_init 117 = .ok (.isub, 1) := by decide +kernel
theorem dX2_init_118 : decode cX2_init 118 = .ok (.aaload, 1) := by decide +kernel
theorem dX2_init_119 : decode cX2_init 119 = .ok (.iload_n 3, 1) := by decide +kernel
theorem dX2_init_120 : decode cX2_init 120 = .ok (.iconst 1, 1) := by decide +kernel
theorem dX2_init_121 : decode cX2_init 121 = .ok (.isub, 1) := by decide +kernel
theorem dX2_init_122 : decode cX2_init 122 = .ok (.iaload, 1) := by decide +kernel
theorem dX2_init_123 : decode cX2_init 123 = .ok (.imul, 1) := by decide +kernel
theorem dX2_init_124 : decode cX2_init 124 = .ok (.iadd, 1) := by decide +kernel
theorem dX2_init_125 : decode cX2_init 125 = .ok (.iastore, 1) := by decide +kernel
theorem dX2_init_126 : decode cX2_init 126 = .ok (.iinc 3 1, 3) := by decide +kernel
theorem dX2_init_129 : decode cX2_init 129 = .ok (.goto (-42), 3) := by decide +kernel
theorem dX2_init_132 : decode cX2_init 132 = .ok (.iinc 2 1, 3) := by decide +kernel
theorem dX2_init_135 : decode cX2_init 135 = .ok (.goto (-65), 3) := by decide +kernel
theorem dX2_init_138 : decode cX2_init 138 = .ok (.return_, 1) := by decide +kernel
theorem dX2_isFree_0 : decode cX2_isFree 0 = .ok (.aload_n 0, 1) := by decide +kernel
theorem dX2_isFree_1 : decode cX2_isFree 1 = .ok (.getfield 34, 3) := by decide +kernel
theorem dX2_isFree_4 : decode cX2_isFree 4 = .ok (.iload_n 2, 1) := by decide +kernel
theorem dX2_isFree_5 : decode cX2_isFree 5 = .ok (.iconst (-1), 1) := by decide +kernel
theorem dX2_isFree_6 : decode cX2_isFree 6 = .ok (.ixor, 1) := by decide +kernel
theorem dX2_isFree_7 : decode cX2_isFree 7 = .ok (.iand, 1) := by decide +kernel
theorem dX2_isFree_8 : decode cX2_isFree 8 = .ok (.iload_n 1, 1) := by decide +kernel
theorem dX2_isFree_9 : decode cX2_isFree 9 = .ok (.invokestatic 38, 3) := by decide +kernel
theorem dX2_isFree_12 : decode cX2_isFree 12 = .ok (.ireturn, 1) := by decide +kernel
theorem dX2_freeCount_0 : decode cX2_freeCount 0 = .ok (.aload_n 0, 1) := by decide +kernel
theorem dX2_freeCount_1 : decode cX2_freeCount 1 = .ok (.getfield 34, 3) := by decide +kernel
theorem dX2_freeCount_4 : decode cX2_freeCount 4 = .ok (.iload_n 1, 1) := by decide +kernel
theorem dX2_freeCount_5 : decode cX2_freeCount 5 = .ok (.iconst (-1), 1) := by decide +kernel
theorem dX2_freeCount_6 : decode cX2_freeCount 6 = .ok (.ixor, 1) := by decide +kernel
theorem dX2_freeCount_7 : decode cX2_freeCount 7 = .ok (.iand, 1) := by decide +kernel
theorem dX2_freeCount_8 : decode cX2_freeCount 8 = .ok (.invokestatic 42, 3) := by decide +kernel
theorem dX2_freeCount_11 : decode cX2_freeCount 11 = .ok (.ireturn, 1) := by decide +kernel
theorem dX2_hope_0 : decode cX2_hope 0 = .ok (.aload_n 0, 1) := by decide +kernel
theorem dX2_hope_1 : decode cX2_hope 1 = .ok (.getfield 33, 3) := by decide +kernel
theorem dX2_hope_4 : decode cX2_hope 4 = .ok (.getfield 48, 3) := by decide +kernel
theorem dX2_hope_7 : decode cX2_hope 7 = .ok (.iload_n 1, 1) := by decide +kernel
theorem dX2_hope_8 : decode cX2_hope 8 = .ok (.isub, 1) := by decide +kernel
theorem dX2_hope_9 : decode cX2_hope 9 = .ok (.aload_n 0, 1) := by decide +kernel
theorem dX2_hope_10 : decode cX2_hope 10 = .ok (.iload_n 2, 1) := by decide +kernel
theorem dX2_hope_11 : decode cX2_hope 11 = .ok (.invokevirtual 53, 3) := by decide +kernel
theorem dX2_hope_14 : decode cX2_hope 14 = .ok (.invokestatic 56, 3) := by decide +kernel
theorem dX2_hope_17 : decode cX2_hope 17 = .ok (.ireturn, 1) := by decide +kernel
theorem dX2_clappingBehind_0 : decode cX2_clappingBehind 0 = .ok (.iload_n 1, 1) := by decide +kernel
theorem dX2_clappingBehind_1 : decode cX2_clappingBehind 1 = .ok (.iload_n 2, 1) := by decide +kernel
theorem dX2_clappingBehind_2 : decode cX2_clappingBehind 2 = .ok (.if_icmp .le 7, 3) := by decide +kernel
theorem dX2_clappingBehind_5 : decode cX2_clappingBehind 5 = .ok (.iload_n 0, 1) := by decide +kernel
theorem dX2_clappingBehind_6 : decode cX2_clappingBehind 6 = .ok (.iconst 1, 1) := by decide +kernel
theorem dX2_clappingBehind_7 : decode cX2_clappingBehind 7 = .ok (.isub, 1) := by decide +kernel
theorem dX2_clappingBehind_8 : decode cX2_clappingBehind 8 = .ok (.ireturn, 1) := by decide +kernel
theorem dX2_clappingBehind_9 : decode cX2_clappingBehind 9 = .ok (.iload_n 0, 1) := by decide +kernel
theorem dX2_clappingBehind_10 : decode cX2_clappingBehind 10 = .ok (.iload_n 1, 1) := by decide +kernel
theorem dX2_clappingBehind_11 : decode cX2_clappingBehind 11 = .ok (.ifCond .ne 7, 3) := by decide +kernel
theorem dX2_clappingBehind_14 : decode cX2_clappingBehind 14 = .ok (.iconst 2, 1) := by decide +kernel
theorem dX2_clappingBehind_15 : decode cX2_clappingBehind 15 = .ok (.goto 4, 3) := by decide +kernel
theorem dX2_clappingBehind_18 : decode cX2_clappingBehind 18 = .ok (.iconst 1, 1) := by decide +kernel
theorem dX2_clappingBehind_19 : decode cX2_clappingBehind 19 = .ok (.iadd, 1) := by decide +kernel
theorem dX2_clappingBehind_20 : decode cX2_clappingBehind 20 = .ok (.ireturn, 1) := by decide +kernel
theorem dX2_promptsBehind_0 : decode cX2_promptsBehind 0 = .ok (.iload_n 0, 1) := by decide +kernel
theorem dX2_promptsBehind_1 : decode cX2_promptsBehind 1 = .ok (.iload_n 1, 1) := by decide +kernel
theorem dX2_promptsBehind_2 : decode cX2_promptsBehind 2 = .ok (.if_icmp .le 7, 3) := by decide +kernel
theorem dX2_promptsBehind_5 : decode cX2_promptsBehind 5 = .ok (.iload_n 1, 1) := by decide +kernel
theorem dX2_promptsBehind_6 : decode cX2_promptsBehind 6 = .ok (.goto 6, 3) := by decide +kernel
theorem dX2_promptsBehind_9 : decode cX2_promptsBehind 9 = .ok (.iload_n 1, 1) := by decide +kernel
theorem dX2_promptsBehind_10 : decode cX2_promptsBehind 10 = .ok (.iload_n 0, 1) := by decide +kernel
theorem dX2_promptsBehind_11 : decode cX2_promptsBehind 11 = .ok (.isub, 1) := by decide +kernel
theorem dX2_promptsBehind_12 : decode cX2_promptsBehind 12 = .ok (.ireturn, 1) := by decide +kernel
theorem dX2_playPlan_0 : decode cX2_playPlan 0 = .ok (.aload_n 0, 1) := by decide +kernel
theorem dX2_playPlan_1 : decode cX2_playPlan 1 = .ok (.getfield 23, 3) := by decide +kernel
theorem dX2_playPlan_4 : decode cX2_playPlan 4 = .ok (.getfield 62, 3) := by decide +kernel
theorem dX2_playPlan_7 : decode cX2_playPlan 7 = .ok (.istore_n 3, 1) := by decide +kernel
theorem dX2_playPlan_8 : decode cX2_playPlan 8 = .ok (.aload_n 0, 1) := by decide +kernel
theorem dX2_playPlan_9 : decode cX2_playPlan 9 = .ok (.getfield 23, 3) := by decide +kernel
theorem dX2_playPlan_12 : decode cX2_playPlan 12 = .ok (.getfield 65, 3) := by decide +kernel
theorem dX2_playPlan_15 : decode cX2_playPlan 15 = .ok (.istore 4, 2) := by decide +kernel
theorem dX2_playPlan_17 : decode cX2_playPlan 17 = .ok (.iconst 0, 1) := by decide +kernel
theorem dX2_playPlan_18 : decode cX2_playPlan 18 = .ok (.istore 5, 2) := by decide +kernel
theorem dX2_playPlan_20 : decode cX2_playPlan 20 = .ok (.aload_n 0, 1) := by decide +kernel
theorem dX2_playPlan_21 : decode cX2_playPlan 21 = .ok (.aload_n 0, 1) := by decide +kernel
theorem dX2_playPlan_22 : decode cX2_playPlan 22 = .ok (.getfield 23, 3) := by decide +kernel
theorem dX2_playPlan_25 : decode cX2_playPlan 25 = .ok (.getfield 68, 3) := by decide +kernel
theorem dX2_playPlan_28 : decode cX2_playPlan 28 = .ok (.putfield 71, 3) := by decide +kernel
theorem dX2_playPlan_31 : decode cX2_playPlan 31 = .ok (.iconst 0, 1) := by decide +kernel
theorem dX2_playPlan_32 : decode cX2_playPlan 32 = .ok (.istore 6, 2) := by decide +kernel
theorem dX2_playPlan_34 : decode cX2_playPlan 34 = .ok (.iload 6, 2) := by decide +kernel
theorem dX2_playPlan_36 : decode cX2_playPlan 36 = .ok (.aload_n 1, 1) := by decide +kernel
theorem dX2_playPlan_37 : decode cX2_playPlan 37 = .ok (.iload_n 2, 1) := by decide +kernel
theorem dX2_playPlan_38 : decode cX2_playPlan 38 = .ok (.invokevirtual 74, 3) := by decide +kernel
theorem dX2_playPlan_41 : decode cX2_playPlan 41 = .ok (.if_icmp .ge 99, 3) := by decide +kernel
theorem dX2_playPlan_44 : decode cX2_playPlan 44 = .ok (.aload_n 1, 1) := by decide +kernel
theorem dX2_playPlan_45 : decode cX2_playPlan 45 = .ok (.iload_n 2, 1) := by decide +kernel
theorem dX2_playPlan_46 : decode cX2_playPlan 46 = .ok (.iload 6, 2) := by decide +kernel
theorem dX2_playPlan_48 : decode cX2_playPlan 48 = .ok (.invokevirtual 79, 3) := by decide +kernel
theorem dX2_playPlan_51 : decode cX2_playPlan 51 = .ok (.istore 7, 2) := by decide +kernel
theorem dX2_playPlan_53 : decode cX2_playPlan 53 = .ok (.iload 7, 2) := by decide +kernel
theorem dX2_playPlan_55 : decode cX2_playPlan 55 = .ok (.bipush (-9), 2) := by decide +kernel
theorem dX2_playPlan_57 : decode cX2_playPlan 57 = .ok (.if_icmp .eq 77, 3) := by decide +kernel
theorem dX2_playPlan_60 : decode cX2_playPlan 60 = .ok (.aload_n 0, 1) := by decide +kernel
theorem dX2_playPlan_61 : decode cX2_playPlan 61 = .ok (.getfield 33, 3) := by decide +kernel
theorem dX2_playPlan_64 : decode cX2_playPlan 64 = .ok (.iload 7, 2) := by decide +kernel
theorem dX2_playPlan_66 : decode cX2_playPlan 66 = .ok (.aload_n 0, 1) := by decide +kernel
theorem dX2_playPlan_67 : decode cX2_playPlan 67 = .ok (.getfield 23, 3) := by decide +kernel
theorem dX2_playPlan_70 : decode cX2_playPlan 70 = .ok (.getfield 82, 3) := by decide +kernel
theorem dX2_playPlan_73 : decode cX2_playPlan 73 = .ok (.iload 6, 2) := by decide +kernel
theorem dX2_playPlan_75 : decode cX2_playPlan 75 = .ok (.iadd, 1) := by decide +kernel
theorem dX2_playPlan_76 : decode cX2_playPlan 76 = .ok (.iload_n 3, 1) := by decide +kernel
theorem dX2_playPlan_77 : decode cX2_playPlan 77 = .ok (.aload_n 0, 1) := by decide +kernel
theorem dX2_playPlan_78 : decode cX2_playPlan 78 = .ok (.getfield 71, 3) := by decide +kernel
theorem dX2_playPlan_81 : decode cX2_playPlan 81 = .ok (.invokevirtual 85, 3) := by decide +kernel
theorem dX2_playPlan_84 : decode cX2_playPlan 84 = .ok (.istore 8, 2) := by decide +kernel
theorem dX2_playPlan_86 : decode cX2_playPlan 86 = .ok (.iload 5, 2) := by decide +kernel
theorem dX2_playPlan_88 : decode cX2_playPlan 88 = .ok (.iload 8, 2) := by decide +kernel
theorem dX2_playPlan_90 : decode cX2_playPlan 90 = .ok (.iload 4, 2) := by decide +kernel
theorem dX2_playPlan_92 : decode cX2_playPlan 92 = .ok (.if_icmp .gt 7, 3) := by decide +kernel
theorem dX2_playPlan_95 : decode cX2_playPlan 95 = .ok (.iconst 1, 1) := by decide +kernel
theorem dX2_playPlan_96 : decode cX2_playPlan 96 = .ok (.goto 4, 3) := by decide +kernel
theorem dX2_playPlan_99 : decode cX2_playPlan 99 = .ok (.iconst 0, 1) := by decide +kernel
theorem dX2_playPlan_100 : decode cX2_playPlan 100 = .ok (.iadd, 1) := by decide +kernel
theorem dX2_playPlan_101 : decode cX2_playPlan 101 = .ok (.istore 5, 2) := by decide +kernel
theorem dX2_playPlan_103 : decode cX2_playPlan 103 = .ok (.aload_n 0, 1) := by decide +kernel
theorem dX2_playPlan_104 : decode cX2_playPlan 104 = .ok (.aload_n 0, 1) := by decide +kernel
theorem dX2_playPlan_105 : decode cX2_playPlan 105 = .ok (.getfield 71, 3) := by decide +kernel
theorem dX2_playPlan_108 : decode cX2_playPlan 108 = .ok (.iload 8, 2) := by decide +kernel
theorem dX2_playPlan_110 : decode cX2_playPlan 110 = .ok (.iload 4, 2) := by decide +kernel
theorem dX2_playPlan_112 : decode cX2_playPlan 112 = .ok (.invokestatic 89, 3) := by decide +kernel
theorem dX2_playPlan_115 : decode cX2_playPlan 115 = .ok (.putfield 71, 3) := by decide +kernel
theorem dX2_playPlan_118 : decode cX2_playPlan 118 = .ok (.iload 8, 2) := by decide +kernel
theorem dX2_playPlan_120 : decode cX2_playPlan 120 = .ok (.iload 4, 2) := by decide +kernel
theorem dX2_playPlan_122 : decode cX2_playPlan 122 = .ok (.invokestatic 93, 3) := by decide +kernel
theorem dX2_playPlan_125 : decode cX2_playPlan 125 = .ok (.istore 4, 2) := by decide +kernel
theorem dX2_playPlan_127 : decode cX2_playPlan 127 = .ok (.iload_n 3, 1) := by decide +kernel
theorem dX2_playPlan_128 : decode cX2_playPlan 128 = .ok (.iconst 1, 1) := by decide +kernel
theorem dX2_playPlan_129 : decode cX2_playPlan 129 = .ok (.iload 7, 2) := by decide +kernel
theorem dX2_playPlan_131 : decode cX2_playPlan 131 = .ok (.ishl, 1) := by decide +kernel
theorem dX2_playPlan_132 : decode cX2_playPlan 132 = .ok (.ior, 1) := by decide +kernel
theorem dX2_playPlan_133 : decode cX2_playPlan 133 = .ok (.istore_n 3, 1) := by decide +kernel
theorem dX2_playPlan_134 : decode cX2_playPlan 134 = .ok (.iinc 6 1, 3) := by decide +kernel
theorem dX2_playPlan_137 : decode cX2_playPlan 137 = .ok (.goto (-103), 3) := by decide +kernel
theorem dX2_playPlan_140 : decode cX2_playPlan 140 = .ok (.iload 5, 2) := by decide +kernel
theorem dX2_playPlan_142 : decode cX2_playPlan 142 = .ok (.ireturn, 1) := by decide +kernel
theorem dX2_findMost_0 : decode cX2_findMost 0 = .ok (.aload_n 0, 1) := by decide +kernel
theorem dX2_findMost_1 : decode cX2_findMost 1 = .ok (.iload_n 1, 1) := by decide +kernel
theorem dX2_findMost_2 : decode cX2_findMost 2 = .ok (.putfield 34, 3) := by decide +kernel
theorem dX2_findMost_5 : decode cX2_findMost 5 = .ok (.aload_n 0, 1) := by decide +kernel
theorem dX2_findMost_6 : decode cX2_findMost 6 = .ok (.iload_n 2, 1) := by decide +kernel
theorem dX2_findMost_7 : decode cX2_findMost 7 = .ok (.putfield 96, 3) := by decide +kernel
theorem dX2_findMost_10 : decode cX2_findMost 10 = .ok (.aload_n 0, 1) := by decide +kernel
theorem dX2_findMost_11 : decode cX2_findMost 11 = .ok (.aload_n 0, 1) := by decide +kernel
theorem dX2_findMost_12 : decode cX2_findMost 12 = .ok (.getfield 23, 3) := by decide +kernel
theorem dX2_findMost_15 : decode cX2_findMost 15 = .ok (.getfield 82, 3) := by decide +kernel
theorem dX2_findMost_18 : decode cX2_findMost 18 = .ok (.aload_n 0, 1) := by decide +kernel
theorem dX2_findMost_19 : decode cX2_findMost 19 = .ok (.getfield 23, 3) := by decide +kernel
theorem dX2_findMost_22 : decode cX2_findMost 22 = .ok (.getfield 62, 3) := by decide +kernel
theorem dX2_findMost_25 : decode cX2_findMost 25 = .ok (.aload_n 0, 1) := by decide +kernel
theorem dX2_findMost_26 : decode cX2_findMost 26 = .ok (.getfield 23, 3) := by decide +kernel
theorem dX2_findMost_29 : decode cX2_findMost 29 = .ok (.getfield 68, 3) := by decide +kernel
theorem dX2_findMost_32 : decode cX2_findMost 32 = .ok (.aload_n 0, 1) := by decide +kernel
theorem dX2_findMost_33 : decode cX2_findMost 33 = .ok (.getfield 23, 3) := by decide +kernel
theorem dX2_findMost_36 : decode cX2_findMost 36 = .ok (.getfield 65, 3) := by decide +kernel
theorem dX2_findMost_39 : decode cX2_findMost 39 = .ok (.iconst 0, 1) := by decide +kernel
theorem dX2_findMost_40 : decode cX2_findMost 40 = .ok (.invokevirtual 99, 3) := by decide +kernel
theorem dX2_findMost_43 : decode cX2_findMost 43 = .ok (.aload_n 0, 1) := by decide +kernel
theorem dX2_findMost_44 : decode cX2_findMost 44 = .ok (.getfield 96, 3) := by decide +kernel
theorem dX2_findMost_47 : decode cX2_findMost 47 = .ok (.ireturn, 1) := by decide +kernel
theorem dX2_seekMost_0 : decode cX2_seekMost 0 = .ok (.aload_n 0, 1) := by decide +kernel
theorem dX2_seekMost_1 : decode cX2_seekMost 1 = .ok (.aload_n 0, 1) := by decide +kernel
theorem dX2_seekMost_2 : decode cX2_seekMost 2 = .ok (.getfield 96, 3) := by decide +kernel
theorem dX2_seekMost_5 : decode cX2_seekMost 5 = .ok (.iload 5, 2) := by decide +kernel
theorem dX2_seekMost_7 : decode cX2_seekMost 7 = .ok (.invokestatic 103, 3) := by decide +kernel
theorem dX2_seekMost_10 : decode cX2_seekMost 10 = .ok (.putfield 96, 3) := by decide +kernel
theorem dX2_seekMost_13 : decode cX2_seekMost 13 = .ok (.iload_n 1, 1) := by decide +kernel
theorem dX2_seekMost_14 : decode cX2_seekMost 14 = .ok (.aload_n 0, 1) := by decide +kernel
theorem dX2_seekMost_15 : decode cX2_seekMost 15 = .ok (.getfield 33, 3) := by decide +kernel
theorem dX2_seekMost_18 : decode cX2_seekMost 18 = .ok (.getfield 48, 3) := by decide +kernel
theorem dX2_seekMost_21 : decode cX2_seekMost 21 = .ok (.if_icmp .ge 19, 3) := by decide +kernel
theorem dX2_seekMost_24 : decode cX2_seekMost 24 = .ok (.iload 5, 2) := by decide +kernel
theorem dX2_seekMost_26 : decode cX2_seekMost 26 = .ok (.aload_n 0, 1) := by decide +kernel
theorem dX2_seekMost_27 : decode cX2_seekMost 27 = .ok (.iload_n 1, 1) := by decide +kernel
theorem dX2_seekMost_28 : decode cX2_seekMost 28 = .ok (.iload_n 2, 1) := by decide +kernel
theorem dX2_seekMost_29 : decode cX2_seekMost 29 = .ok (.invokevirtual 106, 3) := by decide +kernel
theorem dX2_seekMost_32 : decode cX2_seekMost 32 = .ok (.iadd, 1) := by decide +kernel
theorem dX2_seekMost_33 : decode cX2_seekMost 33 = .ok (.aload_n 0, 1) := by decide +kernel
theorem dX2_seekMost_34 : decode cX2_seekMost 34 = .ok (.getfield 96, 3) := by decide +kernel
theorem dX2_seekMost_37 : decode cX2_seekMost 37 = .ok (.if_icmp .gt 4, 3) := by decide +kernel
theorem dX2_seekMost_40 : decode cX2_seekMost 40 = .ok (.return_, 1) := by decide +kernel
theorem dX2_seekMost_41 : decode cX2_seekMost 41 = .ok (.iconst 0, 1) := by decide +kernel
theorem dX2_seekMost_42 : decode cX2_seekMost 42 = .ok (.istore 6, 2) := by decide +kernel
theorem dX2_seekMost_44 : decode cX2_seekMost 44 = .ok (.iload 6, 2) := by decide +kernel
theorem dX2_seekMost_46 : decode cX2_seekMost 46 = .ok (.aload_n 0, 1) := by decide +kernel
theorem dX2_seekMost_47 : decode cX2_seekMost 47 = .ok (.getfield 33, 3) := by decide +kernel
theorem dX2_seekMost_50 : decode cX2_seekMost 50 = .ok (.getfield 109, 3) := by decide +kernel
theorem dX2_seekMost_53 : decode cX2_seekMost 53 = .ok (.if_icmp .ge 80, 3) := by decide +kernel
theorem dX2_seekMost_56 : decode cX2_seekMost 56 = .ok (.aload_n 0, 1) := by decide +kernel
theorem dX2_seekMost_57 : decode cX2_seekMost 57 = .ok (.iload 6, 2) := by decide +kernel
theorem dX2_seekMost_59 : decode cX2_seekMost 59 = .ok (.iload_n 2, 1) := by decide +kernel
theorem dX2_seekMost_60 : decode cX2_seekMost 60 = .ok (.invokevirtual 112, 3) := by decide +kernel
theorem dX2_seekMost_63 : decode cX2_seekMost 63 = .ok (.ifCond .eq 18, 3) := by decide +kernel
theorem dX2_seekMost_66 : decode cX2_seekMost 66 = .ok (.aload_n 0, 1) := by decide +kernel
theorem dX2_seekMost_67 : decode cX2_seekMost 67 = .ok (.getfield 33, 3) := by decide +kernel
theorem dX2_seekMost_70 : decode cX2_seekMost 70 = .ok (.iload 6, 2) := by decide +kernel
theorem dX2_seekMost_72 : decode cX2_seekMost 72 = .ok (.iload_n 1, 1) := by decide +kernel
theorem dX2_seekMost_73 : decode cX2_seekMost 73 = .ok (.iload_n 2, 1) := by decide +kernel
theorem dX2_seekMost_74 : decode cX2_seekMost 74 = .ok (.iload_n 3, 1) := by decide +kernel
theorem dX2_seekMost_75 : decode cX2_seekMost 75 = .ok (.invokevirtual 85, 3) := by decide +kernel
theorem dX2_seekMost_78 : decode cX2_seekMost 78 = .ok (.goto 5, 3) := by decide +kernel
theorem dX2_seekMost_81 : decode cX2_seekMost 81 = .ok (.bipush (-9), 2) := by decide +kernel
theorem dX2_seekMost_83 : decode cX2_seekMost 83 = .ok (.istore 7, 2) := by decide +kernel
theorem dX2_seekMost_85 : decode cX2_seekMost 85 = .ok (.iload 7, 2) := by decide +kernel
theorem dX2_seekMost_87 : decode cX2_seekMost 87 = .ok (.ifCond .lt 40, 3) := by decide +kernel
theorem dX2_seekMost_90 : decode cX2_seekMost 90 = .ok (.iload 7, 2) := by decide +kernel
theorem dX2_seekMost_92 : decode cX2_seekMost 92 = .ok (.iload 4, 2) := by decide +kernel
theorem dX2_seekMost_94 : decode cX2_seekMost 94 = .ok (.if_icmp .gt 33, 3) := by decide +kernel
theorem dX2_seekMost_97 : decode cX2_seekMost 97 = .ok (.aload_n 0, 1) := by decide +kernel
theorem dX2_seekMost_98 : decode cX2_seekMost 98 = .ok (.iload_n 1, 1) := by decide +kernel
theorem dX2_seekMost_99 : decode cX2_seekMost 99 = .ok (.iconst 1, 1) := by decide +kernel
theorem dX2_seekMost_100 : decode cX2_seekMost 100 = .ok (.iadd, 1) := by decide +kernel
theorem dX2_seekMost_101 : decode cX2_seekMost 101 = .ok (.iload_n 2, 1) := by decide +kernel
theorem dX2_seekMost_102 : decode cX2_seekMost 102 = .ok (.iconst 1, 1) := by decide +kernel
theorem dX2_seekMost_103 : decode cX2_seekMost 103 = .ok (.iload 6, 2) := by decide +kernel
theorem dX2_seekMost_105 : decode cX2_seekMost 105 = .ok (.ishl, 1) := by decide +kernel
theorem dX2_seekMost_106 : decode cX2_seekMost 106 = .ok (.ior, 1) := by decide +kernel
theorem dX2_seekMost_107 : decode cX2_seekMost 107 = .ok (.iload_n 3, 1) := by decide +kernel
theorem dX2_seekMost_108 : decode cX2_seekMost 108 = .ok (.iload 7, 2) := by decide +kernel
theorem dX2_seekMost_110 : decode cX2_seekMost 110 = .ok (.iload 4, 2) := by decide +kernel
theorem dX2_seekMost_112 : decode cX2_seekMost 112 = .ok (.invokestatic 89, 3) := by decide +kernel
theorem dX2_seekMost_115 : decode cX2_seekMost 115 = .ok (.iload 4, 2) := by decide +kernel
theorem dX2_seekMost_117 : decode cX2_seekMost 117 = .ok (.iload 7, 2) := by decide +kernel
theorem dX2_seekMost_119 : decode cX2_seekMost 119 = .ok (.isub, 1) := by decide +kernel
theorem dX2_seekMost_120 : decode cX2_seekMost 120 = .ok (.iload 5, 2) := by decide +kernel
theorem dX2_seekMost_122 : decode cX2_seekMost 122 = .ok (.iconst 1, 1) := by decide +kernel
theorem dX2_seekMost_123 : decode cX2_seekMost 123 = .ok (.iadd, 1) := by decide +kernel
theorem dX2_seekMost_124 : decode cX2_seekMost 124 = .ok (.invokevirtual 99, 3) := by decide +kernel
theorem dX2_seekMost_127 : decode cX2_seekMost 127 = .ok (.iinc 6 1, 3) := by decide +kernel
theorem dX2_seekMost_130 : decode cX2_seekMost 130 = .ok (.goto (-86), 3) := by decide +kernel
theorem dX2_seekMost_133 : decode cX2_seekMost 133 = .ok (.aload_n 0, 1) := by decide +kernel
theorem dX2_seekMost_134 : decode cX2_seekMost 134 = .ok (.iload_n 1, 1) := by decide +kernel
theorem dX2_seekMost_135 : decode cX2_seekMost 135 = .ok (.iconst 1, 1) := by decide +kernel
theorem dX2_seekMost_136 : decode cX2_seekMost 136 = .ok (.iadd, 1) := by decide +kernel
theorem dX2_seekMost_137 : decode cX2_seekMost 137 = .ok (.iload_n 2, 1) := by decide +kernel
theorem dX2_seekMost_138 : decode cX2_seekMost 138 = .ok (.iload_n 3, 1) := by decide +kernel
theorem dX2_seekMost_139 : decode cX2_seekMost 139 = .ok (.iload 4, 2) := by decide +kernel
theorem dX2_seekMost_141 : decode cX2_seekMost 141 = .ok (.iload 5, 2) := by decide +kernel
theorem dX2_seekMost_143 : decode cX2_seekMost 143 = .ok (.invokevirtual 99, 3) := by decide +kernel
theorem dX2_seekMost_146 : decode cX2_seekMost 146 = .ok (.return_, 1) := by decide +kernel
theorem dX2_findFirstOfMost_0 : decode cX2_findFirstOfMost 0 = .ok (.aload_n 0, 1) := by decide +kernel
theorem dX2_findFirstOfMost_1 : decode cX2_findFirstOfMost 1 = .ok (.aload_n 0, 1) := by decide +kernel
theorem dX2_findFirstOfMost_2 : decode cX2_findFirstOfMost 2 = .ok (.getfield 23, 3) := by decide +kernel
theorem dX2_findFirstOfMost_5 : decode cX2_findFirstOfMost 5 = .ok (.getfield 65, 3) := by decide +kernel
theorem dX2_findFirstOfMost_8 : decode cX2_findFirstOfMost 8 = .ok (.iconst 1, 1) := by decide +kernel
theorem dX2_findFirstOfMost_9 : decode cX2_findFirstOfMost 9 = .ok (.iadd, 1) := by decide +kernel
theorem dX2_findFirstOfMost_10 : decode cX2_findFirstOfMost 10 = .ok (.putfield 115, 3) := by decide +kernel
theorem dX2_findFirstOfMost_13 : decode cX2_findFirstOfMost 13 = .ok (.aload_n 0, 1) := by decide +kernel
theorem dX2_findFirstOfMost_14 : decode cX2_findFirstOfMost 14 = .ok (.aload_n 0, 1) := by decide +kernel
theorem dX2_findFirstOfMost_15 : decode cX2_findFirstOfMost 15 = .ok (.getfield 23, 3) := by decide +kernel
theorem dX2_findFirstOfMost_18 : decode cX2_findFirstOfMost 18 = .ok (.getfield 82, 3) := by decide +kernel
theorem dX2_findFirstOfMost_21 : decode cX2_findFirstOfMost 21 = .ok (.aload_n 0, 1) := by decide +kernel
theorem dX2_findFirstOfMost_22 : decode cX2_findFirstOfMost 22 = .ok (.getfield 23, 3) := by decide +kernel
theorem dX2_findFirstOfMost_25 : decode cX2_findFirstOfMost 25 = .ok (.getfield 62, 3) := by decide +kernel
theorem dX2_findFirstOfMost_28 : decode cX2_findFirstOfMost 28 = .ok (.aload_n 0, 1) := by decide +kernel
theorem dX2_findFirstOfMost_29 : decode cX2_findFirstOfMost 29 = .ok (.getfield 23, 3) := by decide +kernel
theorem dX2_findFirstOfMost_32 : decode cX2_findFirstOfMost 32 = .ok (.getfield 68, 3) := by decide +kernel
theorem dX2_findFirstOfMost_35 : decode cX2_findFirstOfMost 35 = .ok (.aload_n 0, 1) := by decide +kernel
theorem dX2_findFirstOfMost_36 : decode cX2_findFirstOfMost 36 = .ok (.getfield 23, 3) := by decide +kernel
theorem dX2_findFirstOfMost_39 : decode cX2_findFirstOfMost 39 = .ok (.getfield 65, 3) := by decide +kernel
theorem dX2_findFirstOfMost_42 : decode cX2_findFirstOfMost 42 = .ok (.iconst 0, 1) := by decide +kernel
theorem dX2_findFirstOfMost_43 : decode cX2_findFirstOfMost 43 = .ok (.invokevirtual 118, 3) := by decide +kernel
theorem dX2_findFirstOfMost_46 : decode cX2_findFirstOfMost 46 = .ok (.return_, 1) := by decide +kernel
theorem dX2_choiceFor_0 : decode cX2_choiceFor 0 = .ok (.iload_n 1, 1) := by decide +kernel
theorem dX2_choiceFor_1 : decode cX2_choiceFor 1 = .ok (.ifCond .lt 18, 3) := by decide +kernel
theorem dX2_choiceFor_4 : decode cX2_choiceFor 4 = .ok (.iload_n 1, 1) := by decide +kernel
theorem dX2_choiceFor_5 : decode cX2_choiceFor 5 = .ok (.bipush 6, 2) := by decide +kernel
theorem dX2_choiceFor_7 : decode cX2_choiceFor 7 = .ok (.if_icmp .ge 12, 3) := by decide +kernel
theorem dX2_choiceFor_10 : decode cX2_choiceFor 10 = .ok (.aload_n 0, 1) := by decide +kernel
theorem dX2_choiceFor_11 : decode cX2_choiceFor 11 = .ok (.getfield 15, 3) := by decide +kernel
theorem dX2_choiceFor_14 : decode cX2_choiceFor 14 = .ok (.iload_n 1, 1) := by decide +kernel
theorem dX2_choiceFor_15 : decode cX2_choiceFor 15 = .ok (.iaload, 1) := by decide +kernel
theorem dX2_choiceFor_16 : decode cX2_choiceFor 16 = .ok (.goto 5, 3) := by decide +kernel
theorem dX2_choiceFor_19 : decode cX2_choiceFor 19 = .ok (.bipush (-9), 2) := by decide +kernel
theorem dX2_choiceFor_21 : decode cX2_choiceFor 21 = .ok (.ireturn, 1) := by decide +kernel
theorem dX2_seekBest_0 : decode cX2_seekBest 0 = .ok (.aload_n 0, 1) := by decide +kernel
theorem dX2_seekBest_1 : decode cX2_seekBest 1 = .ok (.getfield 23, 3) := by decide +kernel
theorem dX2_seekBest_4 : decode cX2_seekBest 4 = .ok (.getfield 65, 3) := by decide +kernel
theorem dX2_seekBest_7 : decode cX2_seekBest 7 = .ok (.iload 4, 2) := by decide +kernel
theorem dX2_seekBest_9 : decode cX2_seekBest 9 = .ok (.isub, 1) := by decide +kernel
theorem dX2_seekBest_10 : decode cX2_seekBest 10 = .ok (.istore 6, 2) := by decide +kernel
theorem dX2_seekBest_12 : decode cX2_seekBest 12 = .ok (.iload 5, 2) := by decide +kernel
theorem dX2_seekBest_14 : decode cX2_seekBest 14 = .ok (.aload_n 0, 1) := by decide +kernel
theorem dX2_seekBest_15 : decode cX2_seekBest 15 = .ok (.iload_n 1, 1) := by decide +kernel
theorem dX2_seekBest_16 : decode cX2_seekBest 16 = .ok (.iload_n 2, 1) := by decide +kernel
theorem dX2_seekBest_17 : decode cX2_seekBest 17 = .ok (.invokevirtual 106, 3) := by decide +kernel
theorem dX2_seekBest_20 : decode cX2_seekBest 20 = .ok (.iadd, 1) := by decide +kernel
theorem dX2_seekBest_21 : decode cX2_seekBest 21 = .ok (.aload_n 0, 1) := by decide +kernel
theorem dX2_seekBest_22 : decode cX2_seekBest 22 = .ok (.getfield 96, 3) := by decide +kernel
theorem dX2_seekBest_25 : decode cX2_seekBest 25 = .ok (.if_icmp .lt 12, 3) := by decide +kernel
theorem dX2_seekBest_28 : decode cX2_seekBest 28 = .ok (.iload 6, 2) := by decide +kernel
theorem dX2_seekBest_30 : decode cX2_seekBest 30 = .ok (.aload_n 0, 1) := by decide +kernel
theorem dX2_seekBest_31 : decode cX2_seekBest 31 = .ok (.getfield 115, 3) := by decide +kernel
theorem dX2_seekBest_34 : decode cX2_seekBest 34 = .ok (.if_icmp .lt 4, 3) := by decide +kernel
theorem dX2_seekBest_37 : decode cX2_seekBest 37 = .ok (.return_, 1) := by decide +kernel
theorem dX2_seekBest_38 : decode cX2_seekBest 38 = .ok (.iload_n 1, 1) := by decide +kernel
theorem dX2_seekBest_39 : decode cX2_seekBest 39 = .ok (.aload_n 0, 1) := by decide +kernel
theorem dX2_seekBest_40 : decode cX2_seekBest 40 = .ok (.getfield 33, 3) := by decide +kernel
theorem dX2_seekBest_43 : decode cX2_seekBest 43 = .ok (.getfield 48, 3) := by decide +kernel
theorem dX2_seekBest_46 : decode cX2_seekBest 46 = .ok (.if_icmp .lt 25, 3) := by decide +kernel
theorem dX2_seekBest_49 : decode cX2_seekBest 49 = .ok (.aload_n 0, 1) := by decide +kernel
theorem dX2_seekBest_50 : decode cX2_seekBest 50 = .ok (.iload 6, 2) := by decide +kernel
theorem dX2_seekBest_52 : decode cX2_seekBest 52 = .ok (.putfield 115, 3) := by decide +kernel
theorem dX2_seekBest_55 : decode cX2_seekBest 55 = .ok (.aload_n 0, 1) := by decide +kernel
theorem dX2_seekBest_56 : decode cX2_seekBest 56 = .ok (.getfield 9, 3) := by decide +kernel
theorem dX2_seekBest_59 : decode cX2_seekBest 59 = .ok (.iconst 0, 1) := by decide +kernel
theorem dX2_seekBest_60 : decode cX2_seekBest 60 = .ok (.aload_n 0, 1) := by decide +kernel
theorem dX2_seekBest_61 : decode cX2_seekBest 61 = .ok (.getfield 15, 3) := by decide +kernel
theorem dX2_seekBest_64 : decode cX2_seekBest 64 = .ok (.iconst 0, 1) := by decide +kernel
theorem dX2_seekBest_65 : decode cX2_seekBest 65 = .ok (.bipush 6, 2) := by decide +kernel
theorem dX2_seekBest_67 : decode cX2_seekBest 67 = .ok (.invokestatic 121, 3) := by decide +kernel
theorem dX2_seekBest_70 : decode cX2_seekBest 70 = .ok (.return_, 1) := by decide +kernel
theorem dX2_seekBest_71 : decode cX2_seekBest 71 = .ok (.aload_n 0, 1) := by decide +kernel
theorem dX2_seekBest_72 : decode cX2_seekBest 72 = .ok (.getfield 9, 3) := by decide +kernel
theorem dX2_seekBest_75 : decode cX2_seekBest 75 = .ok (.iload_n 1, 1) := by decide +kernel
theorem dX2_seekBest_76 : decode cX2_seekBest 76 = .ok (.bipush (-9), 2) := by decide +kernel
theorem dX2_seekBest_78 : decode cX2_seekBest 78 = .ok (.iastore, 1) := by decide +kernel
theorem dX2_seekBest_79 : decode cX2_seekBest 79 = .ok (.aload_n 0, 1) := by decide +kernel
theorem dX2_seekBest_80 : decode cX2_seekBest 80 = .ok (.iload_n 1, 1) := by decide +kernel
theorem dX2_seekBest_81 : decode cX2_seekBest 81 = .ok (.iconst 1, 1) := by decide +kernel
theorem dX2_seekBest_82 : decode cX2_seekBest 82 = .ok (.iadd, 1) := by decide +kernel
theorem dX2_seekBest_83 : decode cX2_seekBest 83 = .ok (.iload_n 2, 1) := by decide +kernel
theorem dX2_seekBest_84 : decode cX2_seekBest 84 = .ok (.iload_n 3, 1) := by decide +kernel
theorem dX2_seekBest_85 : decode cX2_seekBest 85 = .ok (.iload 4, 2) := by decide +kernel
theorem dX2_seekBest_87 : decode cX2_seekBest 87 = .ok (.iload 5, 2) := by decide +kernel
theorem dX2_seekBest_89 : decode cX2_seekBest 89 = .ok (.invokevirtual 118, 3) := by decide +kernel
theorem dX2_seekBest_92 : decode cX2_seekBest 92 = .ok (.iconst 0, 1) := by decide +kernel
theorem dX2_seekBest_93 : decode cX2_seekBest 93 = .ok (.istore 7, 2) := by decide +kernel
theorem dX2_seekBest_95 : decode cX2_seekBest 95 = .ok (.iload 7, 2) := by decide +kernel
theorem dX2_seekBest_97 : decode cX2_seekBest 97 = .ok (.aload_n 0, 1) := by decide +kernel
theorem dX2_seekBest_98 : decode cX2_seekBest 98 = .ok (.getfield 33, 3) := by decide +kernel
theorem dX2_seekBest_101 : decode cX2_seekBest 101 = .ok (.getfield 109, 3) := by decide +kernel
theorem dX2_seekBest_104 : decode cX2_seekBest 104 = .ok (.if_icmp .ge 88, 3) := by decide +kernel
theorem dX2_seekBest_107 : decode cX2_seekBest 107 = .ok (.aload_n 0, 1) := by decide +kernel
theorem dX2_seekBest_108 : decode cX2_seekBest 108 = .ok (.iload 7, 2) := by decide +kernel
theorem dX2_seekBest_110 : decode cX2_seekBest 110 = .ok (.iload_n 2, 1) := by decide +kernel
theorem dX2_seekBest_111 : decode cX2_seekBest 111 = .ok (.invokevirtual 112, 3) := by decide +kernel
theorem dX2_seekBest_114 : decode cX2_seekBest 114 = .ok (.ifCond .eq 18, 3) := by decide +kernel
theorem dX2_seekBest_117 : decode cX2_seekBest 117 = .ok (.aload_n 0, 1) := by decide +kernel
theorem dX2_seekBest_118 : decode cX2_seekBest 118 = .ok (.getfield 33, 3) := by decide +kernel
theorem dX2_seekBest_121 : decode cX2_seekBest 121 = .ok (.iload 7, 2) := by decide +kernel
theorem dX2_seekBest_123 : decode cX2_seekBest 123 = .ok (.iload_n 1, 1) := by decide +kernel
theorem dX2_seekBest_124 : decode cX2_seekBest 124 = .ok (.iload_n 2, 1) := by decide +kernel
theorem dX2_seekBest_125 : decode cX2_seekBest 125 = .ok (.iload_n 3, 1) := by decide +kernel
theorem dX2_seekBest_126 : decode cX2_seekBest 126 = .ok (.invokevirtual 85, 3) := by decide +kernel
theorem dX2_seekBest_129 : decode cX2_seekBest 129 = .ok (.goto 5, 3) := by decide +kernel
theorem dX2_seekBest_132 : decode cX2_seekBest 132 = .ok (.bipush (-9), 2) := by decide +kernel
theorem dX2_seekBest_134 : decode cX2_seekBest 134 = .ok (.istore 8, 2) := by decide +kernel
theorem dX2_seekBest_136 : decode cX2_seekBest 136 = .ok (.iload 8, 2) := by decide +kernel
theorem dX2_seekBest_138 : decode cX2_seekBest 138 = .ok (.ifCond .lt 48, 3) := by decide +kernel
theorem dX2_seekBest_141 : decode cX2_seekBest 141 = .ok (.iload 8, 2) := by decide +kernel
theorem dX2_seekBest_143 : decode cX2_seekBest 143 = .ok (.iload 4, 2) := by decide +kernel
theorem dX2_seekBest_145 : decode cX2_seekBest 145 = .ok (.if_icmp .gt 41, 3) := by decide +kernel
theorem dX2_seekBest_148 : decode cX2_seekBest 148 = .ok (.aload_n 0, 1) := by decide +kernel
theorem dX2_seekBest_149 : decode cX2_seekBest 149 = .ok (.getfield 9, 3) := by decide +kernel
theorem dX2_seekBest_152 : decode cX2_seekBest 152 = .ok (.iload_n 1, 1) := by decide +kernel
theorem dX2_seekBest_153 : decode cX2_seekBest 153 = .ok (.iload 7, 2) := by decide +kernel
theorem dX2_seekBest_155 : decode cX2_seekBest 155 = .ok (.iastore, 1) := by decide +kernel
theorem dX2_seekBest_156 : decode cX2_seekBest 156 = .ok (.aload_n 0, 1) := by decide +kernel
theorem dX2_seekBest_157 : decode cX2_seekBest 157 = .ok (.iload_n 1, 1) := by decide +kernel
theorem dX2_seekBest_158 : decode cX2_seekBest 158 = .ok (.iconst 1, 1) := by decide +kernel
theorem dX2_seekBest_159 : decode cX2_seekBest 159 = .ok (.iadd, 1) := by decide +kernel
theorem dX2_seekBest_160 : decode cX2_seekBest 160 = .ok (.iload_n 2, 1) := by decide +kernel
theorem dX2_seekBest_161 : decode cX2_seekBest 161 = .ok (.iconst 1, 1) := by decide +kernel
theorem dX2_seekBest_162 : decode cX2_seekBest 162 = .ok (.iload 7, 2) := by decide +kernel
theorem dX2_seekBest_164 : decode cX2_seekBest 164 = .ok (.ishl, 1) := by decide +kernel
theorem dX2_seekBest_165 : decode cX2_seekBest 165 = .ok (.ior, 1) := by decide +kernel
theorem dX2_seekBest_166 : decode cX2_seekBest 166 = .ok (.iload_n 3, 1) := by decide +kernel
theorem dX2_seekBest_167 : decode cX2_seekBest 167 = .ok (.iload 8, 2) := by decide +kernel
theorem dX2_seekBest_169 : decode cX2_seekBest 169 = .ok (.iload 4, 2) := by decide +kernel
theorem dX2_seekBest_171 : decode cX2_seekBest 171 = .ok (.invokestatic 89, 3) := by decide +kernel
theorem dX2_seekBest_174 : decode cX2_seekBest 174 = .ok (.iload 4, 2) := by decide +kernel
theorem dX2_seekBest_176 : decode cX2_seekBest 176 = .ok (.iload 8, 2) := by decide +kernel
theorem dX2_seekBest_178 : decode cX2_seekBest 178 = .ok (.isub, 1) := by decide +kernel
theorem dX2_seekBest_179 : decode cX2_seekBest 179 = .ok (.iload 5, 2) := by decide +kernel
theorem dX2_seekBest_181 : decode cX2_seekBest 181 = .ok (.iconst 1, 1) := by decide +kernel
theorem dX2_seekBest_182 : decode cX2_seekBest 182 = .ok (.iadd, 1) := by decide +kernel
theorem dX2_seekBest_183 : decode cX2_seekBest 183 = .ok (.invokevirtual 118, 3) := by decide +kernel
theorem dX2_seekBest_186 : decode cX2_seekBest 186 = .ok (.iinc 7 1, 3) := by decide +kernel
theorem dX2_seekBest_189 : decode cX2_seekBest 189 = .ok (.goto (-94), 3) := by decide +kernel
theorem dX2_seekBest_192 : decode cX2_seekBest 192 = .ok (.return_, 1) := by decide +kernel
theorem dX2_findLeast_0 : decode cX2_findLeast 0 = .ok (.aload_n 0, 1) := by decide +kernel
theorem dX2_findLeast_1 : decode cX2_findLeast 1 = .ok (.aload_n 0, 1) := by decide +kernel
theorem dX2_findLeast_2 : decode cX2_findLeast 2 = .ok (.getfield 23, 3) := by decide +kernel
theorem dX2_findLeast_5 : decode cX2_findLeast 5 = .ok (.invokevirtual 127, 3) := by decide +kernel
theorem dX2_findLeast_8 : decode cX2_findLeast 8 = .ok (.putfield 34, 3) := by decide +kernel
theorem dX2_findLeast_11 : decode cX2_findLeast 11 = .ok (.aload_n 0, 1) := by decide +kernel
theorem dX2_findLeast_12 : decode cX2_findLeast 12 = .ok (.bipush (-9), 2) := by decide +kernel
theorem dX2_findLeast_14 : decode cX2_findLeast 14 = .ok (.putfield 130, 3) := by decide +kernel
theorem dX2_findLeast_17 : decode cX2_findLeast 17 = .ok (.aload_n 0, 1) := by decide +kernel
theorem dX2_findLeast_18 : decode cX2_findLeast 18 = .ok (.bipush 55, 2) := by decide +kernel
theorem dX2_findLeast_20 : decode cX2_findLeast 20 = .ok (.putfield 115, 3) := by decide +kernel
theorem dX2_findLeast_23 : decode cX2_findLeast 23 = .ok (.aload_n 0, 1) := by decide +kernel
theorem dX2_findLeast_24 : decode cX2_findLeast 24 = .ok (.aload_n 0, 1) := by decide +kernel
theorem dX2_findLeast_25 : decode cX2_findLeast 25 = .ok (.getfield 23, 3) := by decide +kernel
theorem dX2_findLeast_28 : decode cX2_findLeast 28 = .ok (.getfield 82, 3) := by decide +kernel
theorem dX2_findLeast_31 : decode cX2_findLeast 31 = .ok (.aload_n 0, 1) := by decide +kernel
theorem dX2_findLeast_32 : decode cX2_findLeast 32 = .ok (.getfield 23, 3) := by decide +kernel
theorem dX2_findLeast_35 : decode cX2_findLeast 35 = .ok (.getfield 62, 3) := by decide +kernel
theorem dX2_findLeast_38 : decode cX2_findLeast 38 = .ok (.aload_n 0, 1) := by decide +kernel
theorem dX2_findLeast_39 : decode cX2_findLeast 39 = .ok (.getfield 23, 3) := by decide +kernel
theorem dX2_findLeast_42 : decode cX2_findLeast 42 = .ok (.getfield 68, 3) := by decide +kernel
theorem dX2_findLeast_45 : decode cX2_findLeast 45 = .ok (.iconst 0, 1) := by decide +kernel
theorem dX2_findLeast_46 : decode cX2_findLeast 46 = .ok (.invokevirtual 133, 3) := by decide +kernel
theorem dX2_findLeast_49 : decode cX2_findLeast 49 = .ok (.aload_n 0, 1) := by decide +kernel
theorem dX2_findLeast_50 : decode cX2_findLeast 50 = .ok (.getfield 115, 3) := by decide +kernel
theorem dX2_findLeast_53 : decode cX2_findLeast 53 = .ok (.ireturn, 1) := by decide +kernel
theorem dX2_seekLeast_0 : decode cX2_seekLeast 0 = .ok (.iload 4, 2) := by decide +kernel
theorem dX2_seekLeast_2 : decode cX2_seekLeast 2 = .ok (.aload_n 0, 1) := by decide +kernel
theorem dX2_seekLeast_3 : decode cX2_seekLeast 3 = .ok (.getfield 115, 3) := by decide +kernel
theorem dX2_seekLeast_6 : decode cX2_seekLeast 6 = .ok (.if_icmp .lt 4, 3) := by decide +kernel
theorem dX2_seekLeast_9 : decode cX2_seekLeast 9 = .ok (.return_, 1) := by decide +kernel
theorem dX2_seekLeast_10 : decode cX2_seekLeast 10 = .ok (.iload_n 1, 1) := by decide +kernel
theorem dX2_seekLeast_11 : decode cX2_seekLeast 11 = .ok (.aload_n 0, 1) := by decide +kernel
theorem dX2_seekLeast_12 : decode cX2_seekLeast 12 = .ok (.getfield 33, 3) := by decide +kernel
theorem dX2_seekLeast_15 : decode cX2_seekLeast 15 = .ok (.getfield 48, 3) := by decide +kernel
theorem dX2_seekLeast_18 : decode cX2_seekLeast 18 = .ok (.if_icmp .lt 42, 3) := by decide +kernel
theorem dX2_seekLeast_21 : decode cX2_seekLeast 21 = .ok (.aload_n 0, 1) := by decide +kernel
theorem dX2_seekLeast_22 : decode cX2_seekLeast 22 = .ok (.iload 4, 2) := by decide +kernel
theorem dX2_seekLeast_24 : decode cX2_seekLeast 24 = .ok (.putfield 115, 3) := by decide +kernel
theorem dX2_seekLeast_27 : decode cX2_seekLeast 27 = .ok (.aload_n 0, 1) := by decide +kernel
theorem dX2_seekLeast_28 : decode cX2_seekLeast 28 = .ok (.iload_n 1, 1) := by decide +kernel
theorem dX2_seekLeast_29 : decode cX2_seekLeast 29 = .ok (.aload_n 0, 1) := by decide +kernel
theorem dX2_seekLeast_30 : decode cX2_seekLeast 30 = .ok (.getfield 23, 3) := by decide +kernel
theorem dX2_seekLeast_33 : decode cX2_seekLeast 33 = .ok (.getfield 82, 3) := by decide +kernel
theorem dX2_seekLeast_36 : decode cX2_seekLeast 36 = .ok (.if_icmp .le 18, 3) := by decide +kernel
theorem dX2_seekLeast_39 : decode cX2_seekLeast 39 = .ok (.aload_n 0, 1) := by decide +kernel
theorem dX2_seekLeast_40 : decode cX2_seekLeast 40 = .ok (.getfield 9, 3) := by decide +kernel
theorem dX2_seekLeast_43 : decode cX2_seekLeast 43 = .ok (.aload_n 0, 1) := by decide +kernel
theorem dX2_seekLeast_44 : decode cX2_seekLeast 44 = .ok (.getfield 23, 3) := by decide +kernel
theorem dX2_seekLeast_47 : decode cX2_seekLeast 47 = .ok (.getfield 82, 3) := by decide +kernel
theorem dX2_seekLeast_50 : decode cX2_seekLeast 50 = .ok (.iaload, 1) := by decide +kernel
theorem dX2_seekLeast_51 : decode cX2_seekLeast 51 = .ok (.goto 5, 3) := by decide +kernel
theorem dX2_seekLeast_54 : decode cX2_seekLeast 54 = .ok (.bipush (-9), 2) := by decide +kernel
theorem dX2_seekLeast_56 : decode cX2_seekLeast 56 = .ok (.putfield 130, 3) := by decide +kernel
theorem dX2_seekLeast_59 : decode cX2_seekLeast 59 = .ok (.return_, 1) := by decide +kernel
theorem dX2_seekLeast_60 : decode cX2_seekLeast 60 = .ok (.iconst 0, 1) := by decide +kernel
theorem dX2_seekLeast_61 : decode cX2_seekLeast 61 = .ok (.istore 5, 2) := by decide +kernel
theorem dX2_seekLeast_63 : decode cX2_seekLeast 63 = .ok (.iload 5, 2) := by decide +kernel
theorem dX2_seekLeast_65 : decode cX2_seekLeast 65 = .ok (.aload_n 0, 1) := by decide +kernel
theorem dX2_seekLeast_66 : decode cX2_seekLeast 66 = .ok (.getfield 33, 3) := by decide +kernel
theorem dX2_seekLeast_69 : decode cX2_seekLeast 69 = .ok (.getfield 109, 3) := by decide +kernel
theorem dX2_seekLeast_72 : decode cX2_seekLeast 72 = .ok (.if_icmp .ge 67, 3) := by decide +kernel
theorem dX2_seekLeast_75 : decode cX2_seekLeast 75 = .ok (.aload_n 0, 1) := by decide +kernel
theorem dX2_seekLeast_76 : decode cX2_seekLeast 76 = .ok (.iload 5, 2) := by decide +kernel
theorem dX2_seekLeast_78 : decode cX2_seekLeast 78 = .ok (.iload_n 2, 1) := by decide +kernel
theorem dX2_seekLeast_79 : decode cX2_seekLeast 79 = .ok (.invokevirtual 112, 3) := by decide +kernel
theorem dX2_seekLeast_82 : decode cX2_seekLeast 82 = .ok (.ifCond .eq 51, 3) := by decide +kernel
theorem dX2_seekLeast_85 : decode cX2_seekLeast 85 = .ok (.aload_n 0, 1) := by decide +kernel
theorem dX2_seekLeast_86 : decode cX2_seekLeast 86 = .ok (.getfield 33, 3) := by decide +kernel
theorem dX2_seekLeast_89 : decode cX2_seekLeast 89 = .ok (.iload 5, 2) := by decide +kernel
theorem dX2_seekLeast_91 : decode cX2_seekLeast 91 = .ok (.iload_n 1, 1) := by decide +kernel
theorem dX2_seekLeast_92 : decode cX2_seekLeast 92 = .ok (.iload_n 2, 1) := by decide +kernel
theorem dX2_seekLeast_93 : decode cX2_seekLeast 93 = .ok (.iload_n 3, 1) := by decide +kernel
theorem dX2_seekLeast_94 : decode cX2_seekLeast 94 = .ok (.invokevirtual 85, 3) := by decide +kernel
theorem dX2_seekLeast_97 : decode cX2_seekLeast 97 = .ok (.istore 6, 2) := by decide +kernel
theorem dX2_seekLeast_99 : decode cX2_seekLeast 99 = .ok (.aload_n 0, 1) := by decide +kernel
theorem dX2_seekLeast_100 : decode cX2_seekLeast 100 = .ok (.getfield 9, 3) := by decide +kernel
theorem dX2_seekLeast_103 : decode cX2_seekLeast 103 = .ok (.iload_n 1, 1) := by decide +kernel
theorem dX2_seekLeast_104 : decode cX2_seekLeast 104 = .ok (.iload 5, 2) := by decide +kernel
theorem dX2_seekLeast_106 : decode cX2_seekLeast 106 = .ok (.iastore, 1) := by decide +kernel
theorem dX2_seekLeast_107 : decode cX2_seekLeast 107 = .ok (.aload_n 0, 1) := by decide +kernel
theorem dX2_seekLeast_108 : decode cX2_seekLeast 108 = .ok (.iload_n 1, 1) := by decide +kernel
theorem dX2_seekLeast_109 : decode cX2_seekLeast 109 = .ok (.iconst 1, 1) := by decide +kernel
theorem dX2_seekLeast_110 : decode cX2_seekLeast 110 = .ok (.iadd, 1) := by decide +kernel
theorem dX2_seekLeast_111 : decode cX2_seekLeast 111 = .ok (.iload_n 2, 1) := by decide +kernel
theorem dX2_seekLeast_112 : decode cX2_seekLeast 112 = .ok (.iconst 1, 1) := by decide +kernel
theorem dX2_seekLeast_113 : decode cX2_seekLeast 113 = .ok (.iload 5, 2) := by decide +kernel
theorem dX2_seekLeast_115 : decode cX2_seekLeast 115 = .ok (.ishl, 1) := by decide +kernel
theorem dX2_seekLeast_116 : decode cX2_seekLeast 116 = .ok (.ior, 1) := by decide +kernel
theorem dX2_seekLeast_117 : decode cX2_seekLeast 117 = .ok (.iload_n 3, 1) := by decide +kernel
theorem dX2_seekLeast_118 : decode cX2_seekLeast 118 = .ok (.iload 6, 2) := by decide +kernel
theorem dX2_seekLeast_120 : decode cX2_seekLeast 120 = .ok (.iload 6, 2) := by decide +kernel
theorem dX2_seekLeast_122 : decode cX2_seekLeast 122 = .ok (.invokestatic 89, 3) := by decide +kernel
theorem dX2_seekLeast_125 : decode cX2_seekLeast 125 = .ok (.iload 4, 2) := by decide +kernel
theorem dX2_seekLeast_127 : decode cX2_seekLeast 127 = .ok (.iload 6, 2) := by decide +kernel
theorem dX2_seekLeast_129 : decode cX2_seekLeast 129 = .ok (.iadd, 1) := by decide +kernel
theorem dX2_seekLeast_130 : decode cX2_seekLeast 130 = .ok (.invokevirtual 133, 3) := by decide +kernel
theorem dX2_seekLeast_133 : decode cX2_seekLeast 133 = .ok (.iinc 5 1, 3) := by decide +kernel
theorem dX2_seekLeast_136 : decode cX2_seekLeast 136 = .ok (.goto (-73), 3) := by decide +kernel
theorem dX2_seekLeast_139 : decode cX2_seekLeast 139 = .ok (.return_, 1) := by decide +kernel
theorem dX2_findWays_0 : decode cX2_findWays 0 = .ok (.aload_n 0, 1) := by decide +kernel
theorem dX2_findWays_1 : decode cX2_findWays 1 = .ok (.aload_n 0, 1) := by decide +kernel
theorem dX2_findWays_2 : decode cX2_findWays 2 = .ok (.getfield 23, 3) := by decide +kernel
theorem dX2_findWays_5 : decode cX2_findWays 5 = .ok (.invokevirtual 127, 3) := by decide +kernel
theorem dX2_findWays_8 : decode cX2_findWays 8 = .ok (.putfield 34, 3) := by decide +kernel
theorem dX2_findWays_11 : decode cX2_findWays 11 = .ok (.aload_n 0, 1) := by decide +kernel
theorem dX2_findWays_12 : decode cX2_findWays 12 = .ok (.iload_n 1, 1) := by decide +kernel
theorem dX2_findWays_13 : decode cX2_findWays 13 = .ok (.putfield 137, 3) := by decide +kernel
theorem dX2_findWays_16 : decode cX2_findWays 16 = .ok (.aload_n 0, 1) := by decide +kernel
theorem dX2_findWays_17 : decode cX2_findWays 17 = .ok (.lconst 0, 1) := by decide +kernel
theorem dX2_findWays_18 : decode cX2_findWays 18 = .ok (.putfield 140, 3) := by decide +kernel
theorem dX2_findWays_21 : decode cX2_findWays 21 = .ok (.aload_n 0, 1) := by decide +kernel
theorem dX2_findWays_22 : decode cX2_findWays 22 = .ok (.aload_n 0, 1) := by decide +kernel
theorem dX2_findWays_23 : decode cX2_findWays 23 = .ok (.getfield 23, 3) := by decide +kernel
theorem dX2_findWays_26 : decode cX2_findWays 26 = .ok (.getfield 62, 3) := by decide +kernel
theorem dX2_findWays_29 : decode cX2_findWays 29 = .ok (.iconst (-1), 1) := by decide +kernel
theorem dX2_findWays_30 : decode cX2_findWays 30 = .ok (.ixor, 1) := by decide +kernel
theorem dX2_findWays_31 : decode cX2_findWays 31 = .ok (.putfield 144, 3) := by decide +kernel
theorem dX2_findWays_34 : decode cX2_findWays 34 = .ok (.aload_n 0, 1) := by decide +kernel
theorem dX2_findWays_35 : decode cX2_findWays 35 = .ok (.aload_n 0, 1) := by decide +kernel
theorem dX2_findWays_36 : decode cX2_findWays 36 = .ok (.getfield 23, 3) := by decide +kernel
theorem dX2_findWays_39 : decode cX2_findWays 39 = .ok (.getfield 82, 3) := by decide +kernel
theorem dX2_findWays_42 : decode cX2_findWays 42 = .ok (.aload_n 0, 1) := by decide +kernel
theorem dX2_findWays_43 : decode cX2_findWays 43 = .ok (.getfield 23, 3) := by decide +kernel
theorem dX2_findWays_46 : decode cX2_findWays 46 = .ok (.getfield 62, 3) := by decide +kernel
theorem dX2_findWays_49 : decode cX2_findWays 49 = .ok (.aload_n 0, 1) := by decide +kernel
theorem dX2_findWays_50 : decode cX2_findWays 50 = .ok (.getfield 23, 3) := by decide +kernel
theorem dX2_findWays_53 : decode cX2_findWays 53 = .ok (.getfield 68, 3) := by decide +kernel
theorem dX2_findWays_56 : decode cX2_findWays 56 = .ok (.aload_n 0, 1) := by decide +kernel
theorem dX2_findWays_57 : decode cX2_findWays 57 = .ok (.getfield 23, 3) := by decide +kernel
theorem dX2_findWays_60 : decode cX2_findWays 60 = .ok (.getfield 65, 3) := by decide +kernel
theorem dX2_findWays_63 : decode cX2_findWays 63 = .ok (.iconst 0, 1) := by decide +kernel
theorem dX2_findWays_64 : decode cX2_findWays 64 = .ok (.invokevirtual 147, 3) := by decide +kernel
theorem dX2_findWays_67 : decode cX2_findWays 67 = .ok (.aload_n 0, 1) := by decide +kernel
theorem dX2_findWays_68 : decode cX2_findWays 68 = .ok (.aload_n 0, 1) := by decide +kernel
theorem dX2_findWays_69 : decode cX2_findWays 69 = .ok (.getfield 140, 3) := by decide +kernel
theorem dX2_findWays_72 : decode cX2_findWays 72 = .ok (.lconst 0, 1) := by decide +kernel
theorem dX2_findWays_73 : decode cX2_findWays 73 = .ok (.lcmp, 1) := by decide +kernel
theorem dX2_findWays_74 : decode cX2_findWays 74 = .ok (.ifCond .ne 7, 3) := by decide +kernel
theorem dX2_findWays_77 : decode cX2_findWays 77 = .ok (.iconst 0, 1) := by decide +kernel
theorem dX2_findWays_78 : decode cX2_findWays 78 = .ok (.goto 7, 3) := by decide +kernel
theorem dX2_findWays_81 : decode cX2_findWays 81 = .ok (.aload_n 0, 1) := by decide +kernel
theorem dX2_findWays_82 : decode cX2_findWays 82 = .ok (.getfield 144, 3) := by decide +kernel
theorem dX2_findWays_85 : decode cX2_findWays 85 = .ok (.putfield 144, 3) := by decide +kernel
theorem dX2_findWays_88 : decode cX2_findWays 88 = .ok (.return_, 1) := by decide +kernel
theorem dX2_seekWays_0 : decode cX2_seekWays 0 = .ok (.iload 5, 2) := by decide +kernel
theorem dX2_seekWays_2 : decode cX2_seekWays 2 = .ok (.aload_n 0, 1) := by decide +kernel
theorem dX2_seekWays_3 : decode cX2_seekWays 3 = .ok (.getfield 137, 3) := by decide +kernel
theorem dX2_seekWays_6 : decode cX2_seekWays 6 = .ok (.if_icmp .lt 42, 3) := by decide +kernel
theorem dX2_seekWays_9 : decode cX2_seekWays 9 = .ok (.aload_n 0, 1) := by decide +kernel
theorem dX2_seekWays_10 : decode cX2_seekWays 10 = .ok (.dup, 1) := by decide +kernel
theorem dX2_seekWays_11 : decode cX2_seekWays 11 = .ok (.getfield 140, 3) := by decide +kernel
theorem dX2_seekWays_14 : decode cX2_seekWays 14 = .ok (.aload_n 0, 1) := by decide +kernel
theorem dX2_seekWays_15 : decode cX2_seekWays 15 = .ok (.aload_n 0, 1) := by decide +kernel
theorem dX2_seekWays_16 : decode cX2_seekWays 16 = .ok (.getfield 33, 3) := by decide +kernel
theorem dX2_seekWays_19 : decode cX2_seekWays 19 = .ok (.getfield 48, 3) := by decide +kernel
theorem dX2_seekWays_22 : decode cX2_seekWays 22 = .ok (.iload_n 1, 1) := by decide +kernel
theorem dX2_seekWays_23 : decode cX2_seekWays 23 = .ok (.isub, 1) := by decide +kernel
theorem dX2_seekWays_24 : decode cX2_seekWays 24 = .ok (.aload_n 0, 1) := by decide +kernel
theorem dX2_seekWays_25 : decode cX2_seekWays 25 = .ok (.iload_n 2, 1) := by decide +kernel
theorem dX2_seekWays_26 : decode cX2_seekWays 26 = .ok (.invokevirtual 53, 3) := by decide +kernel
theorem dX2_seekWays_29 : decode cX2_seekWays 29 = .ok (.invokevirtual 150, 3) := by decide +kernel
theorem dX2_seekWays_32 : decode cX2_seekWays 32 = .ok (.i2l, 1) := by decide +kernel
theorem dX2_seekWays_33 : decode cX2_seekWays 33 = .ok (.ladd, 1) := by decide +kernel
theorem dX2_seekWays_34 : decode cX2_seekWays 34 = .ok (.putfield 140, 3) := by decide +kernel
theorem dX2_seekWays_37 : decode cX2_seekWays 37 = .ok (.aload_n 0, 1) := by decide +kernel
theorem dX2_seekWays_38 : decode cX2_seekWays 38 = .ok (.dup, 1) := by decide +kernel
theorem dX2_seekWays_39 : decode cX2_seekWays 39 = .ok (.getfield 144, 3) := by decide +kernel
theorem dX2_seekWays_42 : decode cX2_seekWays 42 = .ok (.iload_n 2, 1) := by decide +kernel
theorem dX2_seekWays_43 : decode cX2_seekWays 43 = .ok (.iand, 1) := by decide +kernel
theorem dX2_seekWays_44 : decode cX2_seekWays 44 = .ok (.putfield 144, 3) := by decide +kernel
theorem dX2_seekWays_47 : decode cX2_seekWays 47 = .ok (.return_, 1) := by decide +kernel
theorem dX2_seekWays_48 : decode cX2_seekWays 48 = .ok (.iload_n 1, 1) := by decide +kernel
theorem dX2_seekWays_49 : decode cX2_seekWays 49 = .ok (.aload_n 0, 1) := by decide +kernel
theorem dX2_seekWays_50 : decode cX2_seekWays 50 = .ok (.getfield 33, 3) := by decide +kernel
theorem dX2_seekWays_53 : decode cX2_seekWays 53 = .ok (.getfield 48, 3) := by decide +kernel
theorem dX2_seekWays_56 : decode cX2_seekWays 56 = .ok (.if_icmp .ge 19, 3) := by decide +kernel
theorem dX2_seekWays_59 : decode cX2_seekWays 59 = .ok (.iload 5, 2) := by decide +kernel
theorem dX2_seekWays_61 : decode cX2_seekWays 61 = .ok (.aload_n 0, 1) := by decide +kernel
theorem dX2_seekWays_62 : decode cX2_seekWays 62 = .ok (.iload_n 1, 1) := by decide +kernel
theorem dX2_seekWays_63 : decode cX2_seekWays 63 = .ok (.iload_n 2, 1) := by decide +kernel
theorem dX2_seekWays_64 : decode cX2_seekWays 64 = .ok (.invokevirtual 106, 3) := by decide +kernel
theorem dX2_seekWays_67 : decode cX2_seekWays 67 = .ok (.iadd, 1) := by decide +kernel
theorem dX2_seekWays_68 : decode cX2_seekWays 68 = .ok (.aload_n 0, 1) := by decide +kernel
theorem dX2_seekWays_69 : decode cX2_seekWays 69 = .ok (.getfield 137, 3) := by decide +kernel
theorem dX2_seekWays_72 : decode cX2_seekWays 72 = .ok (.if_icmp .ge 4, 3) := by decide +kernel
theorem dX2_seekWays_75 : decode cX2_seekWays 75 = .ok (.return_, 1) := by decide +kernel
theorem dX2_seekWays_76 : decode cX2_seekWays 76 = .ok (.aload_n 0, 1) := by decide +kernel
theorem dX2_seekWays_77 : decode cX2_seekWays 77 = .ok (.iload_n 1, 1) := by decide +kernel
theorem dX2_seekWays_78 : decode cX2_seekWays 78 = .ok (.iconst 1, 1) := by decide +kernel
theorem dX2_seekWays_79 : decode cX2_seekWays 79 = .ok (.iadd, 1) := by decide +kernel
theorem dX2_seekWays_80 : decode cX2_seekWays 80 = .ok (.iload_n 2, 1) := by decide +kernel
theorem dX2_seekWays_81 : decode cX2_seekWays 81 = .ok (.iload_n 3, 1) := by decide +kernel
theorem dX2_seekWays_82 : decode cX2_seekWays 82 = .ok (.iload 4, 2) := by decide +kernel
theorem dX2_seekWays_84 : decode cX2_seekWays 84 = .ok (.iload 5, 2) := by decide +kernel
theorem dX2_seekWays_86 : decode cX2_seekWays 86 = .ok (.invokevirtual 147, 3) := by decide +kernel
theorem dX2_seekWays_89 : decode cX2_seekWays 89 = .ok (.iconst 0, 1) := by decide +kernel
theorem dX2_seekWays_90 : decode cX2_seekWays 90 = .ok (.istore 6, 2) := by decide +kernel
theorem dX2_seekWays_92 : decode cX2_seekWays 92 = .ok (.iload 6, 2) := by decide +kernel
theorem dX2_seekWays_94 : decode cX2_seekWays 94 = .ok (.aload_n 0, 1) := by decide +kernel
theorem dX2_seekWays_95 : decode cX2_seekWays 95 = .ok (.getfield 33, 3) := by decide +kernel
theorem dX2_seekWays_98 : decode cX2_seekWays 98 = .ok (.getfield 109, 3) := by decide +kernel
theorem dX2_seekWays_101 : decode cX2_seekWays 101 = .ok (.if_icmp .ge 76, 3) := by decide +kernel
theorem dX2_seekWays_104 : decode cX2_seekWays 104 = .ok (.aload_n 0, 1) := by decide +kernel
theorem dX2_seekWays_105 : decode cX2_seekWays 105 = .ok (.iload 6, 2) := by decide +kernel
theorem dX2_seekWays_107 : decode cX2_seekWays 107 = .ok (.iload_n 2, 1) := by decide +kernel
theorem dX2_seekWays_108 : decode cX2_seekWays 108 = .ok (.invokevirtual 112, 3) := by decide +kernel
theorem dX2_seekWays_111 : decode cX2_seekWays 111 = .ok (.ifCond .eq 60, 3) := by decide +kernel
theorem dX2_seekWays_114 : decode cX2_seekWays 114 = .ok (.aload_n 0, 1) := by decide +kernel
theorem dX2_seekWays_115 : decode cX2_seekWays 115 = .ok (.getfield 33, 3) := by decide +kernel
theorem dX2_seekWays_118 : decode cX2_seekWays 118 = .ok (.iload 6, 2) := by decide +kernel
theorem dX2_seekWays_120 : decode cX2_seekWays 120 = .ok (.iload_n 1, 1) := by decide +kernel
theorem dX2_seekWays_121 : decode cX2_seekWays 121 = .ok (.iload_n 2, 1) := by decide +kernel
theorem dX2_seekWays_122 : decode cX2_seekWays 122 = .ok (.iload_n 3, 1) := by decide +kernel
theorem dX2_seekWays_123 : decode cX2_seekWays 123 = .ok (.invokevirtual 85, 3) := by decide +kernel
theorem dX2_seekWays_126 : decode cX2_seekWays 126 = .ok (.istore 7, 2) := by decide +kernel
theorem dX2_seekWays_128 : decode cX2_seekWays 128 = .ok (.aload_n 0, 1) := by decide +kernel
theorem dX2_seekWays_129 : decode cX2_seekWays 129 = .ok (.iload_n 1, 1) := by decide +kernel
theorem dX2_seekWays_130 : decode cX2_seekWays 130 = .ok (.iconst 1, 1) := by decide +kernel
theorem dX2_seekWays_131 : decode cX2_seekWays 131 = .ok (.iadd, 1) := by decide +kernel
theorem dX2_seekWays_132 : decode cX2_seekWays 132 = .ok (.iload_n 2, 1) := by decide +kernel
theorem dX2_seekWays_133 : decode cX2_seekWays 133 = .ok (.iconst 1, 1) := by decide +kernel
theorem dX2_seekWays_134 : decode cX2_seekWays 134 = .ok (.iload 6, 2) := by decide +kernel
theorem dX2_seekWays_136 : decode cX2_seekWays 136 = .ok (.ishl, 1) := by decide +kernel
theorem dX2_seekWays_137 : decode cX2_seekWays 137 = .ok (.ior, 1) := by decide +kernel
theorem dX2_seekWays_138 : decode cX2_seekWays 138 = .ok (.iload_n 3, 1) := by decide +kernel
theorem dX2_seekWays_139 : decode cX2_seekWays 139 = .ok (.iload 7, 2) := by decide +kernel
theorem dX2_seekWays_141 : decode cX2_seekWays 141 = .ok (.iload 4, 2) := by decide +kernel
theorem dX2_seekWays_143 : decode cX2_seekWays 143 = .ok (.invokestatic 89, 3) := by decide +kernel
theorem dX2_seekWays_146 : decode cX2_seekWays 146 = .ok (.iload 7, 2) := by decide +kernel
theorem dX2_seekWays_148 : decode cX2_seekWays 148 = .ok (.iload 4, 2) := by decide +kernel
theorem dX2_seekWays_150 : decode cX2_seekWays 150 = .ok (.invokestatic 93, 3) := by decide +kernel
theorem dX2_seekWays_153 : decode cX2_seekWays 153 = .ok (.iload 5, 2) := by decide +kernel
theorem dX2_seekWays_155 : decode cX2_seekWays 155 = .ok (.iload 7, 2) := by decide +kernel
theorem dX2_seekWays_157 : decode cX2_seekWays 157 = .ok (.iload 4, 2) := by decide +kernel
theorem dX2_seekWays_159 : decode cX2_seekWays 159 = .ok (.if_icmp .gt 7, 3) := by decide +kernel
theorem dX2_seekWays_162 : decode cX2_seekWays 162 = .ok (.iconst 1, 1) := by decide +kernel
theorem dX2_seekWays_163 : decode cX2_seekWays 163 = .ok (.goto 4, 3) := by decide +kernel
theorem dX2_seekWays_166 : decode cX2_seekWays 166 = .ok (.iconst 0, 1) := by decide +kernel
theorem dX2_seekWays_167 : decode cX2_seekWays 167 = .ok (.iadd, 1) := by decide +kernel
theorem dX2_seekWays_168 : decode cX2_seekWays 168 = .ok (.invokevirtual 147, 3) := by decide +kernel
theorem dX2_seekWays_171 : decode cX2_seekWays 171 = .ok (.iinc 6 1, 3) := by decide +kernel
theorem dX2_seekWays_174 : decode cX2_seekWays 174 = .ok (.goto (-82), 3) := by decide +kernel
theorem dX2_seekWays_177 : decode cX2_seekWays 177 = .ok (.return_, 1) := by decide +kernel
theorem dX2_plansFor_0 : decode cX2_plansFor 0 = .ok (.iload_n 1, 1) := by decide +kernel
theorem dX2_plansFor_1 : decode cX2_plansFor 1 = .ok (.ifCond .lt 23, 3) := by decide +kernel
theorem dX2_plansFor_4 : decode cX2_plansFor 4 = .ok (.iload_n 1, 1) := by decide +kernel
theorem dX2_plansFor_5 : decode cX2_plansFor 5 = .ok (.bipush 6, 2) := by decide +kernel
theorem dX2_plansFor_7 : decode cX2_plansFor 7 = .ok (.if_icmp .gt 17, 3) := by decide +kernel
theorem dX2_plansFor_10 : decode cX2_plansFor 10 = .ok (.iload_n 2, 1) := by decide +kernel
theorem dX2_plansFor_11 : decode cX2_plansFor 11 = .ok (.ifCond .lt 13, 3) := by decide +kernel
theorem dX2_plansFor_14 : decode cX2_plansFor 14 = .ok (.iload_n 2, 1) := by decide +kernel
theorem dX2_plansFor_15 : decode cX2_plansFor 15 = .ok (.bipush 6, 2) := by decide +kernel
theorem dX2_plansFor_17 : decode cX2_plansFor 17 = .ok (.if_icmp .gt 7, 3) := by decide +kernel
theorem dX2_plansFor_20 : decode cX2_plansFor 20 = .ok (.iconst 1, 1) := by decide +kernel
theorem dX2_plansFor_21 : decode cX2_plansFor 21 = .ok (.goto 4, 3) := by decide +kernel
theorem dX2_plansFor_24 : decode cX2_plansFor 24 = .ok (.iconst 0, 1) := by decide +kernel
theorem dX2_plansFor_25 : decode cX2_plansFor 25 = .ok (.istore_n 3, 1) := by decide +kernel
theorem dX2_plansFor_26 : decode cX2_plansFor 26 = .ok (.iload_n 3, 1) := by decide +kernel
theorem dX2_plansFor_27 : decode cX2_plansFor 27 = .ok (.ifCond .eq 14, 3) := by decide +kernel
theorem dX2_plansFor_30 : decode cX2_plansFor 30 = .ok (.aload_n 0, 1) := by decide +kernel
theorem dX2_plansFor_31 : decode cX2_plansFor 31 = .ok (.getfield 20, 3) := by decide +kernel
theorem dX2_plansFor_34 : decode cX2_plansFor 34 = .ok (.iload_n 1, 1) := by decide +kernel
theorem dX2_plansFor_35 : decode cX2_plansFor 35 = .ok (.aaload, 1) := by decide +kernel
theorem dX2_plansFor_36 : decode cX2_plansFor 36 = .ok (.iload_n 2, 1) := by decide +kernel
theorem dX2_plansFor_37 : decode cX2_plansFor 37 = .ok (.iaload, 1) := by decide +kernel
theorem dX2_plansFor_38 : decode cX2_plansFor 38 = .ok (.goto 4, 3) := by decide +kernel
theorem dX2_plansFor_41 : decode cX2_plansFor 41 = .ok (.iconst 0, 1) := by decide +kernel
theorem dX2_plansFor_42 : decode cX2_plansFor 42 = .ok (.ireturn, 1) := by decide +kernel
theorem dX2_findDuel_0 : decode cX2_findDuel 0 = .ok (.aload_n 0, 1) := by decide +kernel
theorem dX2_findDuel_1 : decode cX2_findDuel 1 = .ok (.aload_n 0, 1) := by decide +kernel
theorem dX2_findDuel_2 : decode cX2_findDuel 2 = .ok (.getfield 23, 3) := by decide +kernel
theorem dX2_findDuel_5 : decode cX2_findDuel 5 = .ok (.invokevirtual 127, 3) := by decide +kernel
theorem dX2_findDuel_8 : decode cX2_findDuel 8 = .ok (.putfield 34, 3) := by decide +kernel
theorem dX2_findDuel_11 : decode cX2_findDuel 11 = .ok (.aload_n 0, 1) := by decide +kernel
theorem dX2_findDuel_12 : decode cX2_findDuel 12 = .ok (.aload_n 0, 1) := by decide +kernel
theorem dX2_findDuel_13 : decode cX2_findDuel 13 = .ok (.getfield 23, 3) := by decide +kernel
theorem dX2_findDuel_16 : decode cX2_findDuel 16 = .ok (.getfield 82, 3) := by decide +kernel
theorem dX2_findDuel_19 : decode cX2_findDuel 19 = .ok (.aload_n 0, 1) := by decide +kernel
theorem dX2_findDuel_20 : decode cX2_findDuel 20 = .ok (.getfield 23, 3) := by decide +kernel
theorem dX2_findDuel_23 : decode cX2_findDuel 23 = .ok (.getfield 82, 3) := by decide +kernel
theorem dX2_findDuel_26 : decode cX2_findDuel 26 = .ok (.iload_n 1, 1) := by decide +kernel
theorem dX2_findDuel_27 : decode cX2_findDuel 27 = .ok (.iadd, 1) := by decide +kernel
theorem dX2_findDuel_28 : decode cX2_findDuel 28 = .ok (.aload_n 0, 1) := by decide +kernel
theorem dX2_findDuel_29 : decode cX2_findDuel 29 = .ok (.getfield 23, 3) := by decide +kernel
theorem dX2_findDuel_32 : decode cX2_findDuel 32 = .ok (.getfield 62, 3) := by decide +kernel
theorem dX2_findDuel_35 : decode cX2_findDuel 35 = .ok (.aload_n 0, 1) := by decide +kernel
theorem dX2_findDuel_36 : decode cX2_findDuel 36 = .ok (.getfield 23, 3) := by decide +kernel
theorem dX2_findDuel_39 : decode cX2_findDuel 39 = .ok (.getfield 68, 3) := by decide +kernel
theorem dX2_findDuel_42 : decode cX2_findDuel 42 = .ok (.aload_n 0, 1) := by decide +kernel
theorem dX2_findDuel_43 : decode cX2_findDuel 43 = .ok (.getfield 23, 3) := by decide +kernel
theorem dX2_findDuel_46 : decode cX2_findDuel 46 = .ok (.getfield 65, 3) := by decide +kernel
theorem dX2_findDuel_49 : decode cX2_findDuel 49 = .ok (.iconst 1, 1) := by decide +kernel
theorem dX2_findDuel_50 : decode cX2_findDuel 50 = .ok (.invokevirtual 153, 3) := by decide +kernel
theorem dX2_findDuel_53 : decode cX2_findDuel 53 = .ok (.ireturn, 1) := by decide +kernel
theorem dX2_duelFrom_0 : decode cX2_duelFrom 0 = .ok (.iload_n 1, 1) := by decide +kernel
theorem dX2_duelFrom_1 : decode cX2_duelFrom 1 = .ok (.iload_n 2, 1) := by decide +kernel
theorem dX2_duelFrom_2 : decode cX2_duelFrom 2 = .ok (.if_icmp .ge 22, 3) := by decide +kernel
theorem dX2_duelFrom_5 : decode cX2_duelFrom 5 = .ok (.iload_n 1, 1) := by decide +kernel
theorem dX2_duelFrom_6 : decode cX2_duelFrom 6 = .ok (.aload_n 0, 1) := by decide +kernel
theorem dX2_duelFrom_7 : decode cX2_duelFrom 7 = .ok (.getfield 33, 3) := by decide +kernel
theorem dX2_duelFrom_10 : decode cX2_duelFrom 10 = .ok (.getfield 48, 3) := by decide +kernel
theorem dX2_duelFrom_13 : decode cX2_duelFrom 13 = .ok (.if_icmp .ge 11, 3) := by decide +kernel
theorem dX2_duelFrom_16 : decode cX2_duelFrom 16 = .ok (.aload_n 0, 1) := by decide +kernel
theorem dX2_duelFrom_17 : decode cX2_duelFrom 17 = .ok (.iload_n 3, 1) := by decide +kernel
theorem dX2_duelFrom_18 : decode cX2_duelFrom 18 = .ok (.invokevirtual 53, 3) := by decide +kernel
theorem dX2_duelFrom_21 : decode cX2_duelFrom 21 = .ok (.ifCond .ne 5, 3) := by decide +kernel
theorem dX2_duelFrom_24 : decode cX2_duelFrom 24 = .ok (.iconst 0, 1) := by decide +kernel
theorem dX2_duelFrom_25 : decode cX2_duelFrom 25 = .ok (.ireturn, 1) := by decide +kernel
theorem dX2_duelFrom_26 : decode cX2_duelFrom 26 = .ok (.iload 6, 2) := by decide +kernel
theorem dX2_duelFrom_28 : decode cX2_duelFrom 28 = .ok (.ifCond .eq 7, 3) := by decide +kernel
theorem dX2_duelFrom_31 : decode cX2_duelFrom 31 = .ok (.iconst (-1), 1) := by decide +kernel
theorem dX2_duelFrom_32 : decode cX2_duelFrom 32 = .ok (.goto 5, 3) := by decide +kernel
theorem dX2_duelFrom_35 : decode cX2_duelFrom 35 = .ok (.bipush 7, 2) := by decide +kernel
theorem dX2_duelFrom_37 : decode cX2_duelFrom 37 = .ok (.istore 7, 2) := by decide +kernel
theorem dX2_duelFrom_39 : decode cX2_duelFrom 39 = .ok (.iconst 0, 1) := by decide +kernel
theorem dX2_duelFrom_40 : decode cX2_duelFrom 40 = .ok (.istore 8, 2) := by decide +kernel
theorem dX2_duelFrom_42 : decode cX2_duelFrom 42 = .ok (.iload 8, 2) := by decide +kernel
theorem dX2_duelFrom_44 : decode cX2_duelFrom 44 = .ok (.aload_n 0, 1) := by decide +kernel
theorem dX2_duelFrom_45 : decode cX2_duelFrom 45 = .ok (.getfield 33, 3) := by decide +kernel
theorem dX2_duelFrom_48 : decode cX2_duelFrom 48 = .ok (.getfield 109, 3) := by decide +kernel
theorem dX2_duelFrom_51 : decode cX2_duelFrom 51 = .ok (.if_icmp .ge 113, 3) := by decide +kernel
theorem dX2_duelFrom_54 : decode cX2_duelFrom 54 = .ok (.aload_n 0, 1) := by decide +kernel
theorem dX2_duelFrom_55 : decode cX2_duelFrom 55 = .ok (.iload 8, 2) := by decide +kernel
theorem dX2_duelFrom_57 : decode cX2_duelFrom 57 = .ok (.iload_n 3, 1) := by decide +kernel
theorem dX2_duelFrom_58 : decode cX2_duelFrom 58 = .ok (.invokevirtual 112, 3) := by decide +kernel
theorem dX2_duelFrom_61 : decode cX2_duelFrom 61 = .ok (.ifCond .eq 97, 3) := by decide +kernel
theorem dX2_duelFrom_64 : decode cX2_duelFrom 64 = .ok (.aload_n 0, 1) := by decide +kernel
theorem dX2_duelFrom_65 : decode cX2_duelFrom 65 = .ok (.getfield 33, 3) := by decide +kernel
theorem dX2_duelFrom_68 : decode cX2_duelFrom 68 = .ok (.iload 8, 2) := by decide +kernel
theorem dX2_duelFrom_70 : decode cX2_duelFrom 70 = .ok (.iload_n 1, 1) := by decide +kernel
theorem dX2_duelFrom_71 : decode cX2_duelFrom 71 = .ok (.iload_n 3, 1) := by decide +kernel
theorem dX2_duelFrom_72 : decode cX2_duelFrom 72 = .ok (.iload 4, 2) := by decide +kernel
theorem dX2_duelFrom_74 : decode cX2_duelFrom 74 = .ok (.invokevirtual 85, 3) := by decide +kernel
theorem dX2_duelFrom_77 : decode cX2_duelFrom 77 = .ok (.istore 9, 2) := by decide +kernel
theorem dX2_duelFrom_79 : decode cX2_duelFrom 79 = .ok (.iload 9, 2) := by decide +kernel
theorem dX2_duelFrom_81 : decode cX2_duelFrom 81 = .ok (.iload 5, 2) := by decide +kernel
theorem dX2_duelFrom_83 : decode cX2_duelFrom 83 = .ok (.if_icmp .gt 7, 3) := by decide +kernel
theorem dX2_duelFrom_86 : decode cX2_duelFrom 86 = .ok (.iconst 1, 1) := by decide +kernel
theorem dX2_duelFrom_87 : decode cX2_duelFrom 87 = .ok (.goto 4, 3) := by decide +kernel
theorem dX2_duelFrom_90 : decode cX2_duelFrom 90 = .ok (.iconst 0, 1) := by decide +kernel
theorem dX2_duelFrom_91 : decode cX2_duelFrom 91 = .ok (.aload_n 0, 1) := by decide +kernel
theorem dX2_duelFrom_92 : decode cX2_duelFrom 92 = .ok (.iload_n 1, 1) := by decide +kernel
theorem dX2_duelFrom_93 : decode cX2_duelFrom 93 = .ok (.iconst 1, 1) := by decide +kernel
theorem dX2_duelFrom_94 : decode cX2_duelFrom 94 = .ok (.iadd, 1) := by decide +kernel
theorem dX2_duelFrom_95 : decode cX2_duelFrom 95 = .ok (.iload_n 2, 1) := by decide +kernel
theorem dX2_duelFrom_96 : decode cX2_duelFrom 96 = .ok (.iload_n 3, 1) := by decide +kernel
theorem dX2_duelFrom_97 : decode cX2_duelFrom 97 = .ok (.iconst 1, 1) := by decide +kernel
theorem dX2_duelFrom_98 : decode cX2_duelFrom 98 = .ok (.iload 8, 2) := by decide +kernel
theorem dX2_duelFrom_100 : decode cX2_duelFrom 100 = .ok (.ishl, 1) := by decide +kernel
theorem dX2_duelFrom_101 : decode cX2_duelFrom 101 = .ok (.ior, 1) := by decide +kernel
theorem dX2_duelFrom_102 : decode cX2_duelFrom 102 = .ok (.iload 4, 2) := by decide +kernel
theorem dX2_duelFrom_104 : decode cX2_duelFrom 104 = .ok (.iload 9, 2) := by decide +kernel
theorem dX2_duelFrom_106 : decode cX2_duelFrom 106 = .ok (.iload 5, 2) := by decide +kernel
theorem dX2_duelFrom_108 : decode cX2_duelFrom 108 = .ok (.invokestatic 89, 3) := by decide +kernel
theorem dX2_duelFrom_111 : decode cX2_duelFrom 111 = .ok (.iload 9, 2) := by decide +kernel
theorem dX2_duelFrom_113 : decode cX2_duelFrom 113 = .ok (.iload 5, 2) := by decide +kernel
theorem dX2_duelFrom_115 : decode cX2_duelFrom 115 = .ok (.invokestatic 93, 3) := by decide +kernel
theorem dX2_duelFrom_118 : decode cX2_duelFrom 118 = .ok (.iload 6, 2) := by decide +kernel
theorem dX2_duelFrom_120 : decode cX2_duelFrom 120 = .ok (.ifCond .ne 7, 3) := by decide +kernel
theorem dX2_duelFrom_123 : decode cX2_duelFrom 123 = .ok (.iconst 1, 1) := by decide +kernel
theorem dX2_duelFrom_124 : decode cX2_duelFrom 124 = .ok (.goto 4, 3) := by decide +kernel
theorem dX2_duelFrom_127 : decode cX2_duelFrom 127 = .ok (.iconst 0, 1) := by decide +kernel
theorem dX2_duelFrom_128 : decode cX2_duelFrom 128 = .ok (.invokevirtual 153, 3) := by decide +kernel
theorem dX2_duelFrom_131 : decode cX2_duelFrom 131 = .ok (.iadd, 1) := by decide +kernel
theorem dX2_duelFrom_132 : decode cX2_duelFrom 132 = .ok (.istore 10, 2) := by decide +kernel
theorem dX2_duelFrom_134 : decode cX2_duelFrom 134 = .ok (.iload 6, 2) := by decide +kernel
theorem dX2_duelFrom_136 : decode cX2_duelFrom 136 = .ok (.ifCond .eq 13, 3) := by decide +kernel
theorem dX2_duelFrom_139 : decode cX2_duelFrom 139 = .ok (.iload 7, 2) := by decide +kernel
theorem dX2_duelFrom_141 : decode cX2_duelFrom 141 = .ok (.iload 10, 2) := by decide +kernel
theorem dX2_duelFrom_143 : decode cX2_duelFrom 143 = .ok (.invokestatic 103, 3) := by decide +kernel
theorem dX2_duelFrom_146 : decode cX2_duelFrom 146 = .ok (.goto 10, 3) := by decide +kernel
theorem dX2_duelFrom_149 : decode cX2_duelFrom 149 = .ok (.iload 7, 2) := by decide +kernel
theorem dX2_duelFrom_151 : decode cX2_duelFrom 151 = .ok (.iload 10, 2) := by decide +kernel
theorem dX2_duelFrom_153 : decode cX2_duelFrom 153 = .ok (.invokestatic 56, 3) := by decide +kernel
theorem dX2_duelFrom_156 : decode cX2_duelFrom 156 = .ok (.istore 7, 2) := by decide +kernel
theorem dX2_duelFrom_158 : decode cX2_duelFrom 158 = .ok (.iinc 8 1, 3) := by decide +kernel
theorem dX2_duelFrom_161 : decode cX2_duelFrom 161 = .ok (.goto (-119), 3) := by decide +kernel
theorem dX2_duelFrom_164 : decode cX2_duelFrom 164 = .ok (.iload 7, 2) := by decide +kernel
theorem dX2_duelFrom_166 : decode cX2_duelFrom 166 = .ok (.ireturn, 1) := by decide +kernel
theorem dX2_findDraws_0 : decode cX2_findDraws 0 = .ok (.aload_n 0, 1) := by decide +kernel
theorem dX2_findDraws_1 : decode cX2_findDraws 1 = .ok (.aload_n 0, 1) := by decide +kernel
theorem dX2_findDraws_2 : decode cX2_findDraws 2 = .ok (.getfield 23, 3) := by decide +kernel
theorem dX2_findDraws_5 : decode cX2_findDraws 5 = .ok (.invokevirtual 127, 3) := by decide +kernel
theorem dX2_findDraws_8 : decode cX2_findDraws 8 = .ok (.putfield 34, 3) := by decide +kernel
theorem dX2_findDraws_11 : decode cX2_findDraws 11 = .ok (.aload_n 0, 1) := by decide +kernel
theorem dX2_findDraws_12 : decode cX2_findDraws 12 = .ok (.iload_n 1, 1) := by decide +kernel
theorem dX2_findDraws_13 : decode cX2_findDraws 13 = .ok (.putfield 137, 3) := by decide +kernel
theorem dX2_findDraws_16 : decode cX2_findDraws 16 = .ok (.aload_n 0, 1) := by decide +kernel
theorem dX2_findDraws_17 : decode cX2_findDraws 17 = .ok (.lconst 0, 1) := by decide +kernel
theorem dX2_findDraws_18 : decode cX2_findDraws 18 = .ok (.putfield 157, 3) := by decide +kernel
theorem dX2_findDraws_21 : decode cX2_findDraws 21 = .ok (.aload_n 0, 1) := by decide +kernel
theorem dX2_findDraws_22 : decode cX2_findDraws 22 = .ok (.lconst 0, 1) := by decide +kernel
theorem dX2_findDraws_23 : decode cX2_findDraws 23 = .ok (.putfield 160, 3) := by decide +kernel
theorem dX2_findDraws_26 : decode cX2_findDraws 26 = .ok (.aload_n 0, 1) := by decide +kernel
theorem dX2_findDraws_27 : decode cX2_findDraws 27 = .ok (.lconst 0, 1) := by decide +kernel
theorem dX2_findDraws_28 : decode cX2_findDraws 28 = .ok (.putfield 163, 3) := by decide +kernel
theorem dX2_findDraws_31 : decode cX2_findDraws 31 = .ok (.aload_n 0, 1) := by decide +kernel
theorem dX2_findDraws_32 : decode cX2_findDraws 32 = .ok (.aload_n 0, 1) := by decide +kernel
theorem dX2_findDraws_33 : decode cX2_findDraws 33 = .ok (.getfield 23, 3) := by decide +kernel
theorem dX2_findDraws_36 : decode cX2_findDraws 36 = .ok (.getfield 82, 3) := by decide +kernel
theorem dX2_findDraws_39 : decode cX2_findDraws 39 = .ok (.aload_n 0, 1) := by decide +kernel
theorem dX2_findDraws_40 : decode cX2_findDraws 40 = .ok (.getfield 23, 3) := by decide +kernel
theorem dX2_findDraws_43 : decode cX2_findDraws 43 = .ok (.getfield 62, 3) := by decide +kernel
theorem dX2_findDraws_46 : decode cX2_findDraws 46 = .ok (.aload_n 0, 1) := by decide +kernel
theorem dX2_findDraws_47 : decode cX2_findDraws 47 = .ok (.getfield 23, 3) := by decide +kernel
theorem dX2_findDraws_50 : decode cX2_findDraws 50 = .ok (.getfield 68, 3) := by decide +kernel
theorem dX2_findDraws_53 : decode cX2_findDraws 53 = .ok (.aload_n 0, 1) := by decide +kernel
theorem dX2_findDraws_54 : decode cX2_findDraws 54 = .ok (.getfield 23, 3) := by decide +kernel
theorem dX2_findDraws_57 : decode cX2_findDraws 57 = .ok (.getfield 65, 3) := by decide +kernel
theorem dX2_findDraws_60 : decode cX2_findDraws 60 = .ok (.iconst 0, 1) := by decide +kernel
theorem dX2_findDraws_61 : decode cX2_findDraws 61 = .ok (.invokevirtual 166, 3) := by decide +kernel
theorem dX2_findDraws_64 : decode cX2_findDraws 64 = .ok (.return_, 1) := by decide +kernel
theorem dX2_seekDraws_0 : decode cX2_seekDraws 0 = .ok (.iload_n 1, 1) := by decide +kernel
theorem dX2_seekDraws_1 : decode cX2_seekDraws 1 = .ok (.aload_n 0, 1) := by decide +kernel
theorem dX2_seekDraws_2 : decode cX2_seekDraws 2 = .ok (.getfield 33, 3) := by decide +kernel
theorem dX2_seekDraws_5 : decode cX2_seekDraws 5 = .ok (.getfield 48, 3) := by decide +kernel
theorem dX2_seekDraws_8 : decode cX2_seekDraws 8 = .ok (.if_icmp .ge 11, 3) := by decide +kernel
theorem dX2_seekDraws_11 : decode cX2_seekDraws 11 = .ok (.aload_n 0, 1) := by decide +kernel
theorem dX2_seekDraws_12 : decode cX2_seekDraws 12 = .ok (.iload_n 2, 1) := by decide +kernel
theorem dX2_seekDraws_13 : decode cX2_seekDraws 13 = .ok (.invokevirtual 53, 3) := by decide +kernel
theorem dX2_seekDraws_16 : decode cX2_seekDraws 16 = .ok (.ifCond .ne 48, 3) := by decide +kernel
theorem dX2_seekDraws_19 : decode cX2_seekDraws 19 = .ok (.aload_n 0, 1) := by decide +kernel
theorem dX2_seekDraws_20 : decode cX2_seekDraws 20 = .ok (.dup, 1) := by decide +kernel
theorem dX2_seekDraws_21 : decode cX2_seekDraws 21 = .ok (.getfield 157, 3) := by decide +kernel
theorem dX2_seekDraws_24 : decode cX2_seekDraws 24 = .ok (.lconst 1, 1) := by decide +kernel
theorem dX2_seekDraws_25 : decode cX2_seekDraws 25 = .ok (.ladd, 1) := by decide +kernel
theorem dX2_seekDraws_26 : decode cX2_seekDraws 26 = .ok (.putfield 157, 3) := by decide +kernel
theorem dX2_seekDraws_29 : decode cX2_seekDraws 29 = .ok (.aload_n 0, 1) := by decide +kernel
theorem dX2_seekDraws_30 : decode cX2_seekDraws 30 = .ok (.dup, 1) := by decide +kernel
theorem dX2_seekDraws_31 : decode cX2_seekDraws 31 = .ok (.getfield 160, 3) := by decide +kernel
theorem dX2_seekDraws_34 : decode cX2_seekDraws 34 = .ok (.iload 5, 2) := by decide +kernel
theorem dX2_seekDraws_36 : decode cX2_seekDraws 36 = .ok (.aload_n 0, 1) := by decide +kernel
theorem dX2_seekDraws_37 : decode cX2_seekDraws 37 = .ok (.getfield 137, 3) := by decide +kernel
theorem dX2_seekDraws_40 : decode cX2_seekDraws 40 = .ok (.if_icmp .lt 7, 3) := by decide +kernel
theorem dX2_seekDraws_43 : decode cX2_seekDraws 43 = .ok (.lconst 1, 1) := by decide +kernel
theorem dX2_seekDraws_44 : decode cX2_seekDraws 44 = .ok (.goto 4, 3) := by decide +kernel
theorem dX2_seekDraws_47 : decode cX2_seekDraws 47 = .ok (.lconst 0, 1) := by decide +kernel
theorem dX2_seekDraws_48 : decode cX2_seekDraws 48 = .ok (.ladd, 1) := by decide +kernel
theorem dX2_seekDraws_49 : decode cX2_seekDraws 49 = .ok (.putfield 160, 3) := by decide +kernel
theorem dX2_seekDraws_52 : decode cX2_seekDraws 52 = .ok (.aload_n 0, 1) := by decide +kernel
theorem dX2_seekDraws_53 : decode cX2_seekDraws 53 = .ok (.dup, 1) := by decide +kernel
theorem dX2_seekDraws_54 : decode cX2_seekDraws 54 = .ok (.getfield 163, 3) := by decide +kernel
theorem dX2_seekDraws_57 : decode cX2_seekDraws 57 = .ok (.iload_n 3, 1) := by decide +kernel
theorem dX2_seekDraws_58 : decode cX2_seekDraws 58 = .ok (.i2l, 1) := by decide +kernel
theorem dX2_seekDraws_59 : decode cX2_seekDraws 59 = .ok (.ladd, 1) := by decide +kernel
theorem dX2_seekDraws_60 : decode cX2_seekDraws 60 = .ok (.putfield 163, 3) := by decide +kernel
theorem dX2_seekDraws_63 : decode cX2_seekDraws 63 = .ok (.return_, 1) := by decide +kernel
theorem dX2_seekDraws_64 : decode cX2_seekDraws 64 = .ok (.iconst 0, 1) := by decide +kernel
theorem dX2_seekDraws_65 : decode cX2_seekDraws 65 = .ok (.istore 6, 2) := by decide +kernel
theorem dX2_seekDraws_67 : decode cX2_seekDraws 67 = .ok (.iload 6, 2) := by decide +kernel
theorem dX2_seekDraws_69 : decode cX2_seekDraws 69 = .ok (.aload_n 0, 1) := by decide +kernel
theorem dX2_seekDraws_70 : decode cX2_seekDraws 70 = .ok (.getfield 33, 3) := by decide +kernel
theorem dX2_seekDraws_73 : decode cX2_seekDraws 73 = .ok (.getfield 109, 3) := by decide +kernel
theorem dX2_seekDraws_76 : decode cX2_seekDraws 76 = .ok (.if_icmp .ge 76, 3) := by decide +kernel
theorem dX2_seekDraws_79 : decode cX2_seekDraws 79 = .ok (.aload_n 0, 1) := by decide +kernel
theorem dX2_seekDraws_80 : decode cX2_seekDraws 80 = .ok (.iload 6, 2) := by decide +kernel
theorem dX2_seekDraws_82 : decode cX2_seekDraws 82 = .ok (.iload_n 2, 1) := by decide +kernel
theorem dX2_seekDraws_83 : decode cX2_seekDraws 83 = .ok (.invokevirtual 112, 3) := by decide +kernel
theorem dX2_seekDraws_86 : decode cX2_seekDraws 86 = .ok (.ifCond .eq 60, 3) := by decide +kernel
theorem dX2_seekDraws_89 : decode cX2_seekDraws 89 = .ok (.aload_n 0, 1) := by decide +kernel
theorem dX2_seekDraws_90 : decode cX2_seekDraws 90 = .ok (.getfield 33, 3) := by decide +kernel
theorem dX2_seekDraws_93 : decode cX2_seekDraws 93 = .ok (.iload 6, 2) := by decide +kernel
theorem dX2_seekDraws_95 : decode cX2_seekDraws 95 = .ok (.iload_n 1, 1) := by decide +kernel
theorem dX2_seekDraws_96 : decode cX2_seekDraws 96 = .ok (.iload_n 2, 1) := by decide +kernel
theorem dX2_seekDraws_97 : decode cX2_seekDraws 97 = .ok (.iload_n 3, 1) := by decide +kernel
theorem dX2_seekDraws_98 : decode cX2_seekDraws 98 = .ok (.invokevirtual 85, 3) := by decide +kernel
theorem dX2_seekDraws_101 : decode cX2_seekDraws 101 = .ok (.istore 7, 2) := by decide +kernel
theorem dX2_seekDraws_103 : decode cX2_seekDraws 103 = .ok (.aload_n 0, 1) := by decide +kernel
theorem dX2_seekDraws_104 : decode cX2_seekDraws 104 = .ok (.iload_n 1, 1) := by decide +kernel
theorem dX2_seekDraws_105 : decode cX2_seekDraws 105 = .ok (.iconst 1, 1) := by decide +kernel
theorem dX2_seekDraws_106 : decode cX2_seekDraws 106 = .ok (.iadd, 1) := by decide +kernel
theorem dX2_seekDraws_107 : decode cX2_seekDraws 107 = .ok (.iload_n 2, 1) := by decide +kernel
theorem dX2_seekDraws_108 : decode cX2_seekDraws 108 = .ok (.iconst 1, 1) := by decide +kernel
theorem dX2_seekDraws_109 : decode cX2_seekDraws 109 = .ok (.iload 6, 2) := by decide +kernel
theorem dX2_seekDraws_111 : decode cX2_seekDraws 111 = .ok (.ishl, 1) := by decide +kernel
theorem dX2_seekDraws_112 : decode cX2_seekDraws 112 = .ok (.ior, 1) := by decide +kernel
theorem dX2_seekDraws_113 : decode cX2_seekDraws 113 = .ok (.iload_n 3, 1) := by decide +kernel
theorem dX2_seekDraws_114 : decode cX2_seekDraws 114 = .ok (.iload 7, 2) := by decide +kernel
theorem dX2_seekDraws_116 : decode cX2_seekDraws 116 = .ok (.iload 4, 2) := by decide +kernel
theorem dX2_seekDraws_118 : decode cX2_seekDraws 118 = .ok (.invokestatic 89, 3) := by decide +kernel
theorem dX2_seekDraws_121 : decode cX2_seekDraws 121 = .ok (.iload 7, 2) := by decide +kernel
theorem dX2_seekDraws_123 : decode cX2_seekDraws 123 = .ok (.iload 4, 2) := by decide +kernel
theorem dX2_seekDraws_125 : decode cX2_seekDraws 125 = .ok (.invokestatic 93, 3) := by decide +kernel
theorem dX2_seekDraws_128 : decode cX2_seekDraws 128 = .ok (.iload 5, 2) := by decide +kernel
theorem dX2_seekDraws_130 : decode cX2_seekDraws 130 = .ok (.iload 7, 2) := by decide +kernel
theorem dX2_seekDraws_132 : decode cX2_seekDraws 132 = .ok (.iload 4, 2) := by decide +kernel
theorem dX2_seekDraws_134 : decode cX2_seekDraws 134 = .ok (.if_icmp .gt 7, 3) := by decide +kernel
theorem dX2_seekDraws_137 : decode cX2_seekDraws 137 = .ok (.iconst 1, 1) := by decide +kernel
theorem dX2_seekDraws_138 : decode cX2_seekDraws 138 = .ok (.goto 4, 3) := by decide +kernel
theorem dX2_seekDraws_141 : decode cX2_seekDraws 141 = .ok (.iconst 0, 1) := by decide +kernel
theorem dX2_seekDraws_142 : decode cX2_seekDraws 142 = .ok (.iadd, 1) := by decide +kernel
theorem dX2_seekDraws_143 : decode cX2_seekDraws 143 = .ok (.invokevirtual 166, 3) := by decide +kernel
theorem dX2_seekDraws_146 : decode cX2_seekDraws 146 = .ok (.iinc 6 1, 3) := by decide +kernel
theorem dX2_seekDraws_149 : decode cX2_seekDraws 149 = .ok (.goto (-82), 3) := by decide +kernel
theorem dX2_seekDraws_152 : decode cX2_seekDraws 152 = .ok (.return_, 1) := by decide +kernel
theorem dX3_init_0 : decode cX3_init 0 = .ok (.aload_n 0, 1) := by decide +kernel
theorem dX3_init_1 : decode cX3_init 1 = .ok (.invokespecial 1, 3) := by decide +kernel
theorem dX3_init_4 : decode cX3_init 4 = .ok (.aload_n 0, 1) := by decide +kernel
theorem dX3_init_5 : decode cX3_init 5 = .ok (.iload_n 1, 1) := by decide +kernel
theorem dX3_init_6 : decode cX3_init 6 = .ok (.iload_n 2, 1) := by decide +kernel
theorem dX3_init_7 : decode cX3_init 7 = .ok (.multianewarray 7 2, 4) := by decide +kernel
theorem dX3_init_11 : decode cX3_init 11 = .ok (.putfield 9, 3) := by decide +kernel
theorem dX3_init_14 : decode cX3_init 14 = .ok (.aload_n 0, 1) := by decide +kernel
theorem dX3_init_15 : decode cX3_init 15 = .ok (.iload_n 1, 1) := by decide +kernel
theorem dX3_init_16 : decode cX3_init 16 = .ok (.newarray .int, 2) := by decide +kernel
theorem dX3_init_18 : decode cX3_init 18 = .ok (.putfield 14, 3) := by decide +kernel
theorem dX3_init_21 : decode cX3_init 21 = .ok (.aload_n 0, 1) := by decide +kernel
theorem dX3_init_22 : decode cX3_init 22 = .ok (.getfield 14, 3) := by decide +kernel
theorem dX3_init_25 : decode cX3_init 25 = .ok (.iconst (-1), 1) := by decide +kernel
theorem dX3_init_26 : decode cX3_init 26 = .ok (.invokestatic 18, 3) := by decide +kernel
theorem dX3_init_29 : decode cX3_init 29 = .ok (.return_, 1) := by decide +kernel
theorem dX3_isPlace_0 : decode cX3_isPlace 0 = .ok (.iload_n 1, 1) := by decide +kernel
theorem dX3_isPlace_1 : decode cX3_isPlace 1 = .ok (.ifCond .lt 16, 3) := by decide +kernel
theorem dX3_isPlace_4 : decode cX3_isPlace 4 = .ok (.iload_n 1, 1) := by decide +kernel
theorem dX3_isPlace_5 : decode cX3_isPlace 5 = .ok (.aload_n 0, 1) := by decide +kernel
theorem dX3_isPlace_6 : decode cX3_isPlace 6 = .ok (.getfield 14, 3) := by decide +kernel
theorem dX3_isPlace_9 : decode cX3_isPlace 9 = .ok (.arraylength, 1) := by decide +kernel
theorem dX3_isPlace_10 : decode cX3_isPlace 10 = .ok (.if_icmp .ge 7, 3) := by decide +kernel
theorem dX3_isPlace_13 : decode cX3_isPlace 13 = .ok (.iconst 1, 1) := by decide +kernel
theorem dX3_isPlace_14 : decode cX3_isPlace 14 = .ok (.goto 4, 3) := by decide +kernel
theorem dX3_isPlace_17 : decode cX3_isPlace 17 = .ok (.iconst 0, 1) := by decide +kernel
theorem dX3_isPlace_18 : decode cX3_isPlace 18 = .ok (.ireturn, 1) := by decide +kernel
theorem dX3_has_0 : decode cX3_has 0 = .ok (.aload_n 0, 1) := by decide +kernel
theorem dX3_has_1 : decode cX3_has 1 = .ok (.iload_n 1, 1) := by decide +kernel
theorem dX3_has_2 : decode cX3_has 2 = .ok (.invokevirtual 24, 3) := by decide +kernel
theorem dX3_has_5 : decode cX3_has 5 = .ok (.iconst (-1), 1) := by decide +kernel
theorem dX3_has_6 : decode cX3_has 6 = .ok (.if_icmp .eq 7, 3) := by decide +kernel
theorem dX3_has_9 : decode cX3_has 9 = .ok (.iconst 1, 1) := by decide +kernel
theorem dX3_has_10 : decode cX3_has 10 = .ok (.goto 4, 3) := by decide +kernel
theorem dX3_has_13 : decode cX3_has 13 = .ok (.iconst 0, 1) := by decide +kernel
theorem dX3_has_14 : decode cX3_has 14 = .ok (.ireturn, 1) := by decide +kernel
theorem dX3_size_0 : decode cX3_size 0 = .ok (.aload_n 0, 1) := by decide +kernel
theorem dX3_size_1 : decode cX3_size 1 = .ok (.iload_n 1, 1) := by decide +kernel
theorem dX3_size_2 : decode cX3_size 2 = .ok (.invokevirtual 28, 3) := by decide +kernel
theorem dX3_size_5 : decode cX3_size 5 = .ok (.ifCond .eq 12, 3) := by decide +kernel
theorem dX3_size_8 : decode cX3_size 8 = .ok (.aload_n 0, 1) := by decide +kernel
theorem dX3_size_9 : decode cX3_size 9 = .ok (.getfield 14, 3) := by decide +kernel
theorem dX3_size_12 : decode cX3_size 12 = .ok (.iload_n 1, 1) := by decide +kernel
theorem dX3_size_13 : decode cX3_size 13 = .ok (.iaload, 1) := by decide +kernel
theorem dX3_size_14 : decode cX3_size 14 = .ok (.goto 4, 3) := by decide +kernel
theorem dX3_size_17 : decode cX3_size 17 = .ok (.iconst (-1), 1) := by decide +kernel
theorem dX3_size_18 : decode cX3_size 18 = .ok (.ireturn, 1) := by decide +kernel
theorem dX3_holds_0 : decode cX3_holds 0 = .ok (.aload_n 0, 1) := by decide +kernel
theorem dX3_holds_1 : decode cX3_holds 1 = .ok (.iload_n 1, 1) := by decide +kernel
theorem dX3_holds_2 : decode cX3_holds 2 = .ok (.invokevirtual 28, 3) := by decide +kernel
theorem dX3_holds_5 : decode cX3_holds 5 = .ok (.ifCond .eq 21, 3) := by decide +kernel
theorem dX3_holds_8 : decode cX3_holds 8 = .ok (.iload_n 2, 1) := by decide +kernel
theorem dX3_holds_9 : decode cX3_holds 9 = .ok (.ifCond .lt 17, 3) := by decide +kernel
theorem dX3_holds_12 : decode cX3_holds 12 = .ok (.iload_n 2, 1) := by decide +kernel
theorem dX3_holds_13 : decode cX3_holds 13 = .ok (.aload_n 0, 1) := by decide +kernel
theorem dX3_holds_14 : decode cX3_holds 14 = .ok (.getfield 14, 3) := by decide +kernel
theorem dX3_holds_17 : decode cX3_holds 17 = .ok (.iload_n 1, 1) := by decide +kernel
theorem dX3_holds_18 : decode cX3_holds 18 = .ok (.iaload, 1) := by decide +kernel
theorem dX3_holds_19 : decode cX3_holds 19 = .ok (.if_icmp .ge 7, 3) := by decide +kernel
theorem dX3_holds_22 : decode cX3_holds 22 = .ok (.iconst 1, 1) := by decide +kernel
theorem dX3_holds_23 : decode cX3_holds 23 = .ok (.goto 4, 3) := by decide +kernel
theorem dX3_holds_26 : decode cX3_holds 26 = .ok (.iconst 0, 1) := by decide +kernel
theorem dX3_holds_27 : decode cX3_holds 27 = .ok (.ireturn, 1) := by decide +kernel
theorem dX3_holdsPart_0 : decode cX3_holdsPart 0 = .ok (.iload_n 2, 1) := by decide +kernel
theorem dX3_holdsPart_1 : decode cX3_holdsPart 1 = .ok (.ifCond .lt 22, 3) := by decide +kernel
theorem dX3_holdsPart_4 : decode cX3_holdsPart 4 = .ok (.iload_n 3, 1) := by decide +kernel
theorem dX3_holdsPart_5 : decode cX3_holdsPart 5 = .ok (.ifCond .lt 18, 3) := by decide +kernel
theorem dX3_holdsPart_8 : decode cX3_holdsPart 8 = .ok (.iload_n 2, 1) := by decide +kernel
theorem dX3_holdsPart_9 : decode cX3_holdsPart 9 = .ok (.aload_n 0, 1) := by decide +kernel
theorem dX3_holdsPart_10 : decode cX3_holdsPart 10 = .ok (.iload_n 1, 1) := by decide +kernel
theorem dX3_holdsPart_11 : decode cX3_holdsPart 11 = .ok (.invokevirtual 24, 3) := by decide +kernel
theorem dX3_holdsPart_14 : decode cX3_holdsPart 14 = .ok (.iload_n 3, 1) := by decide +kernel
theorem dX3_holdsPart_15 : decode cX3_holdsPart 15 = .ok (.isub, 1) := by decide +kernel
theorem dX3_holdsPart_16 : decode cX3_holdsPart 16 = .ok (.if_icmp .gt 7, 3) := by decide +kernel
theorem dX3_holdsPart_19 : decode cX3_holdsPart 19 = .ok (.iconst 1, 1) := by decide +kernel
theorem dX3_holdsPart_20 : decode cX3_holdsPart 20 = .ok (.goto 4, 3) := by decide +kernel
theorem dX3_holdsPart_23 : decode cX3_holdsPart 23 = .ok (.iconst 0, 1) := by decide +kernel
theorem dX3_holdsPart_24 : decode cX3_holdsPart 24 = .ok (.ireturn, 1) := by decide +kernel
theorem dX3_get_0 : decode cX3_get 0 = .ok (.aload_n 0, 1) := by decide +kernel
theorem dX3_get_1 : decode cX3_get 1 = .ok (.iload_n 1, 1) := by decide +kernel
theorem dX3_get_2 : decode cX3_get 2 = .ok (.iload_n 2, 1) := by decide +kernel
theorem dX3_get_3 : decode cX3_get 3 = .ok (.invokevirtual 32, 3) := by decide +kernel
theorem dX3_get_6 : decode cX3_get 6 = .ok (.ifCond .eq 14, 3) := by decide +kernel
theorem dX3_get_9 : decode cX3_get 9 = .ok (.aload_n 0, 1) := by decide +kernel
theorem dX3_get_10 : decode cX3_get 10 = .ok (.getfield 9, 3) := by decide +kernel
theorem dX3_get_13 : decode cX3_get 13 = .ok (.iload_n 1, 1) := by decide +kernel
theorem dX3_get_14 : decode cX3_get 14 = .ok (.aaload, 1) := by decide +kernel
theorem dX3_get_15 : decode cX3_get 15 = .ok (.iload_n 2, 1) := by decide +kernel
theorem dX3_get_16 : decode cX3_get 16 = .ok (.iaload, 1) := by decide +kernel
theorem dX3_get_17 : decode cX3_get 17 = .ok (.goto 4, 3) := by decide +kernel
theorem dX3_get_20 : decode cX3_get 20 = .ok (.iconst 0, 1) := by decide +kernel
theorem dX3_get_21 : decode cX3_get 21 = .ok (.ireturn, 1) := by decide +kernel
theorem dX3_set_0 : decode cX3_set 0 = .ok (.aload_n 0, 1) := by decide +kernel
theorem dX3_set_1 : decode cX3_set 1 = .ok (.iload_n 1, 1) := by decide +kernel
theorem dX3_set_2 : decode cX3_set 2 = .ok (.iload_n 2, 1) := by decide +kernel
theorem dX3_set_3 : decode cX3_set 3 = .ok (.invokevirtual 32, 3) := by decide +kernel
theorem dX3_set_6 : decode cX3_set 6 = .ok (.ifCond .eq 12, 3) := by decide +kernel
theorem dX3_set_9 : decode cX3_set 9 = .ok (.aload_n 0, 1) := by decide +kernel
theorem dX3_set_10 : decode cX3_set 10 = .ok (.getfield 9, 3) := by decide +kernel
theorem dX3_set_13 : decode cX3_set 13 = .ok (.iload_n 1, 1) := by decide +kernel
theorem dX3_set_14 : decode cX3_set 14 = .ok (.aaload, 1) := by decide +kernel
theorem dX3_set_15 : decode cX3_set 15 = .ok (.iload_n 2, 1) := by decide +kernel
theorem dX3_set_16 : decode cX3_set 16 = .ok (.iload_n 3, 1) := by decide +kernel
theorem dX3_set_17 : decode cX3_set 17 = .ok (.iastore, 1) := by decide +kernel
theorem dX3_set_18 : decode cX3_set 18 = .ok (.return_, 1) := by decide +kernel
theorem dX3_make_0 : decode cX3_make 0 = .ok (.aload_n 0, 1) := by decide +kernel
theorem dX3_make_1 : decode cX3_make 1 = .ok (.iload_n 1, 1) := by decide +kernel
theorem dX3_make_2 : decode cX3_make 2 = .ok (.invokevirtual 28, 3) := by decide +kernel
theorem dX3_make_5 : decode cX3_make 5 = .ok (.ifCond .eq 35, 3) := by decide +kernel
theorem dX3_make_8 : decode cX3_make 8 = .ok (.iload_n 2, 1) := by decide +kernel
theorem dX3_make_9 : decode cX3_make 9 = .ok (.ifCond .lt 31, 3) := by decide +kernel
theorem dX3_make_12 : decode cX3_make 12 = .ok (.iload_n 2, 1) := by decide +kernel
theorem dX3_make_13 : decode cX3_make 13 = .ok (.aload_n 0, 1) := by decide +kernel
theorem dX3_make_14 : decode cX3_make 14 = .ok (.getfield 9, 3) := by decide +kernel
theorem dX3_make_17 : decode cX3_make 17 = .ok (.iload_n 1, 1) := by decide +kernel
theorem dX3_make_18 : decode cX3_make 18 = .ok (.aaload, 1) := by decide +kernel
theorem dX3_make_19 : decode cX3_make 19 = .ok (.arraylength, 1) := by decide +kernel
theorem dX3_make_20 : decode cX3_make 20 = .ok (.if_icmp .gt 20, 3) := by decide +kernel
theorem dX3_make_23 : decode cX3_make 23 = .ok (.aload_n 0, 1) := by decide +kernel
theorem dX3_make_24 : decode cX3_make 24 = .ok (.getfield 14, 3) := by decide +kernel
theorem dX3_make_27 : decode cX3_make 27 = .ok (.iload_n 1, 1) := by decide +kernel
theorem dX3_make_28 : decode cX3_make 28 = .ok (.iload_n 2, 1) := by decide +kernel
theorem dX3_make_29 : decode cX3_make 29 = .ok (.iastore, 1) := by decide +kernel
theorem dX3_make_30 : decode cX3_make 30 = .ok (.aload_n 0, 1) := by decide +kernel
theorem dX3_make_31 : decode cX3_make 31 = .ok (.getfield 9, 3) := by decide +kernel
theorem dX3_make_34 : decode cX3_make 34 = .ok (.iload_n 1, 1) := by decide +kernel
theorem dX3_make_35 : decode cX3_make 35 = .ok (.aaload, 1) := by decide +kernel
theorem dX3_make_36 : decode cX3_make 36 = .ok (.iload_n 3, 1) := by decide +kernel
theorem dX3_make_37 : decode cX3_make 37 = .ok (.invokestatic 18, 3) := by decide +kernel
theorem dX3_make_40 : decode cX3_make 40 = .ok (.return_, 1) := by decide +kernel
theorem dX3_drop_0 : decode cX3_drop 0 = .ok (.aload_n 0, 1) := by decide +kernel
theorem dX3_drop_1 : decode cX3_drop 1 = .ok (.iload_n 1, 1) := by decide +kernel
theorem dX3_drop_2 : decode cX3_drop 2 = .ok (.invokevirtual 28, 3) := by decide +kernel
theorem dX3_drop_5 : decode cX3_drop 5 = .ok (.ifCond .eq 10, 3) := by decide +kernel
theorem dX3_drop_8 : decode cX3_drop 8 = .ok (.aload_n 0, 1) := by decide +kernel
theorem dX3_drop_9 : decode cX3_drop 9 = .ok (.getfield 14, 3) := by decide +kernel
theorem dX3_drop_12 : decode cX3_drop 12 = .ok (.iload_n 1, 1) := by decide +kernel
theorem dX3_drop_13 : decode cX3_drop 13 = .ok (.iconst (-1), 1) := by decide +kernel
theorem dX3_drop_14 : decode cX3_drop 14 = .ok (.iastore, 1) := by decide +kernel
theorem dX3_drop_15 : decode cX3_drop 15 = .ok (.return_, 1) := by decide +kernel
theorem dX3_copyPart_0 : decode cX3_copyPart 0 = .ok (.aload_n 0, 1) := by decide +kernel
theorem dX3_copyPart_1 : decode cX3_copyPart 1 = .ok (.iload_n 1, 1) := by decide +kernel
theorem dX3_copyPart_2 : decode cX3_copyPart 2 = .ok (.iload_n 2, 1) := by decide +kernel
theorem dX3_copyPart_3 : decode cX3_copyPart 3 = .ok (.iload 5, 2) := by decide +kernel
theorem dX3_copyPart_5 : decode cX3_copyPart 5 = .ok (.invokevirtual 36, 3) := by decide +kernel
theorem dX3_copyPart_8 : decode cX3_copyPart 8 = .ok (.ifCond .eq 35, 3) := by decide +kernel
theorem dX3_copyPart_11 : decode cX3_copyPart 11 = .ok (.aload_n 0, 1) := by decide +kernel
theorem dX3_copyPart_12 : decode cX3_copyPart 12 = .ok (.iload_n 3, 1) := by decide +kernel
theorem dX3_copyPart_13 : decode cX3_copyPart 13 = .ok (.iload 4, 2) := by decide +kernel
theorem dX3_copyPart_15 : decode cX3_copyPart 15 = .ok (.iload 5, 2) := by decide +kernel
theorem dX3_copyPart_17 : decode cX3_copyPart 17 = .ok (.invokevirtual 36, 3) := by decide +kernel
theorem dX3_copyPart_20 : decode cX3_copyPart 20 = .ok (.ifCond .eq 23, 3) := by decide +kernel
theorem dX3_copyPart_23 : decode cX3_copyPart 23 = .ok (.aload_n 0, 1) := by decide +kernel
theorem dX3_copyPart_24 : decode cX3_copyPart 24 = .ok (.getfield 9, 3) := by decide +kernel
theorem dX3_copyPart_27 : decode cX3_copyPart 27 = .ok (.iload_n 1, 1) := by decide +kernel
theorem dX3_copyPart_28 : decode cX3_copyPart 28 = .ok (.aaload, 1) := by decide +kernel
theorem dX3_copyPart_29 : decode cX3_copyPart 29 = .ok (.iload_n 2, 1) := by decide +kernel
theorem dX3_copyPart_30 : decode cX3_copyPart 30 = .ok (.aload_n 0, 1) := by decide +kernel
theorem dX3_copyPart_31 : decode cX3_copyPart 31 = .ok (.getfield 9, 3) := by decide +kernel
theorem dX3_copyPart_34 : decode cX3_copyPart 34 = .ok (.iload_n 3, 1) := by decide +kernel
theorem dX3_copyPart_35 : decode cX3_copyPart 35 = .ok (.aaload, 1) := by decide +kernel
theorem dX3_copyPart_36 : decode cX3_copyPart 36 = .ok (.iload 4, 2) := by decide +kernel
theorem dX3_copyPart_38 : decode cX3_copyPart 38 = .ok (.iload 5, 2) := by decide +kernel
theorem dX3_copyPart_40 : decode cX3_copyPart 40 = .ok (.invokestatic 40, 3) := by decide +kernel
theorem dX3_copyPart_43 : decode cX3_copyPart 43 = .ok (.return_, 1) := by decide +kernel
theorem dX3_thereCount_0 : decode cX3_thereCount 0 = .ok (.iconst 0, 1) := by decide +kernel
theorem dX3_thereCount_1 : decode cX3_thereCount 1 = .ok (.istore_n 1, 1) := by decide +kernel
theorem dX3_thereCount_2 : decode cX3_thereCount 2 = .ok (.iconst 0, 1) := by decide +kernel
theorem dX3_thereCount_3 : decode cX3_thereCount 3 = .ok (.istore_n 2, 1) := by decide +kernel
theorem dX3_thereCount_4 : decode cX3_thereCount 4 = .ok (.iload_n 2, 1) := by decide +kernel
theorem dX3_thereCount_5 : decode cX3_thereCount 5 = .ok (.aload_n 0, 1) := by decide +kernel
theorem dX3_thereCount_6 : decode cX3_thereCount 6 = .ok (.getfield 14, 3) := by decide +kernel
theorem dX3_thereCount_9 : decode cX3_thereCount 9 = .ok (.arraylength, 1) := by decide +kernel
theorem dX3_thereCount_10 : decode cX3_thereCount 10 = .ok (.if_icmp .ge 25, 3) := by decide +kernel
theorem dX3_thereCount_13 : decode cX3_thereCount 13 = .ok (.iload_n 1, 1) := by decide +kernel
theorem dX3_thereCount_14 : decode cX3_thereCount 14 = .ok (.aload_n 0, 1) := by decide +kernel
theorem dX3_thereCount_15 : decode cX3_thereCount 15 = .ok (.iload_n 2, 1) := by decide +kernel
theorem dX3_thereCount_16 : decode cX3_thereCount 16 = .ok (.invokevirtual 46, 3) := by decide +kernel
theorem dX3_thereCount_19 : decode cX3_thereCount 19 = .ok (.ifCond .eq 7, 3) := by decide +kernel
theorem dX3_thereCount_22 : decode cX3_thereCount 22 = .ok (.iconst 1, 1) := by decide +kernel
theorem dX3_thereCount_23 : decode cX3_thereCount 23 = .ok (.goto 4, 3) := by decide +kernel
theorem dX3_thereCount_26 : decode cX3_thereCount 26 = .ok (.iconst 0, 1) := by decide +kernel
theorem dX3_thereCount_27 : decode cX3_thereCount 27 = .ok (.iadd, 1) := by decide +kernel
theorem dX3_thereCount_28 : decode cX3_thereCount 28 = .ok (.istore_n 1, 1) := by decide +kernel
theorem dX3_thereCount_29 : decode cX3_thereCount 29 = .ok (.iinc 2 1, 3) := by decide +kernel
theorem dX3_thereCount_32 : decode cX3_thereCount 32 = .ok (.goto (-28), 3) := by decide +kernel
theorem dX3_thereCount_35 : decode cX3_thereCount 35 = .ok (.iload_n 1, 1) := by decide +kernel
theorem dX3_thereCount_36 : decode cX3_thereCount 36 = .ok (.ireturn, 1) := by decide +kernel
theorem dX3_digestFrom_0 : decode cX3_digestFrom 0 = .ok (.lload_n 1, 1) := by decide +kernel
theorem dX3_digestFrom_1 : decode cX3_digestFrom 1 = .ok (.lstore_n 3, 1) := by decide +kernel
theorem dX3_digestFrom_2 : decode cX3_digestFrom 2 = .ok (.iconst 0, 1) := by decide +kernel
theorem dX3_digestFrom_3 : decode cX3_digestFrom 3 = .ok (.istore 5, 2) := by decide +kernel
theorem dX3_digestFrom_5 : decode cX3_digestFrom 5 = .ok (.iload 5, 2) := by decide +kernel
theorem dX3_digestFrom_7 : decode cX3_digestFrom 7 = .ok (.aload_n 0, 1) := by decide +kernel
theorem dX3_digestFrom_8 : decode cX3_digestFrom 8 = .ok (.getfield 14, 3) := by decide +kernel
theorem dX3_digestFrom_11 : decode cX3_digestFrom 11 = .ok (.arraylength, 1) := by decide +kernel
theorem dX3_digestFrom_12 : decode cX3_digestFrom 12 = .ok (.if_icmp .ge 63, 3) := by decide +kernel
theorem dX3_digestFrom_15 : decode cX3_digestFrom 15 = .ok (.ldc2_w 49, 3) := by decide +kernel
theorem dX3_digestFrom_18 : decode cX3_digestFrom 18 = .ok (.lload_n 3, 1) := by decide +kernel
theorem dX3_digestFrom_19 : decode cX3_digestFrom 19 = .ok (.lmul, 1) := by decide +kernel
theorem dX3_digestFrom_20 : decode cX3_digestFrom 20 = .ok (.aload_n 0, 1) := by decide +kernel
theorem dX3_digestFrom_21 : decode cX3_digestFrom 21 = .ok (.getfield 14, 3) := by decide +kernel
theorem dX3_digestFrom_24 : decode cX3_digestFrom 24 = .ok (.iload 5, 2) := by decide +kernel
theorem dX3_digestFrom_26 : decode cX3_digestFrom 26 = .ok (.iaload, 1) := by decide +kernel
theorem dX3_digestFrom_27 : decode cX3_digestFrom 27 = .ok (.i2l, 1) := by decide +kernel
theorem dX3_digestFrom_28 : decode cX3_digestFrom 28 = .ok (.ladd, 1) := by decide +kernel
theorem dX3_digestFrom_29 : decode cX3_digestFrom 29 = .ok (.lstore_n 3, 1) := by decide +kernel
theorem dX3_digestFrom_30 : decode cX3_digestFrom 30 = .ok (.iconst 0, 1) := by decide +kernel
theorem dX3_digestFrom_31 : decode cX3_digestFrom 31 = .ok (.istore 6, 2) := by decide +kernel
theorem dX3_digestFrom_33 : decode cX3_digestFrom 33 = .ok (.iload 6, 2) := by decide +kernel
theorem dX3_digestFrom_35 : decode cX3_digestFrom 35 = .ok (.aload_n 0, 1) := by decide +kernel
theorem dX3_digestFrom_36 : decode cX3_digestFrom 36 = .ok (.getfield 14, 3) := by decide +kernel
theorem dX3_digestFrom_39 : decode cX3_digestFrom 39 = .ok (.iload 5, 2) := by decide +kernel
theorem dX3_digestFrom_41 : decode cX3_digestFrom 41 = .ok (.iaload, 1) := by decide +kernel
theorem dX3_digestFrom_42 : decode cX3_digestFrom 42 = .ok (.if_icmp .ge 27, 3) := by decide +kernel
theorem dX3_digestFrom_45 : decode cX3_digestFrom 45 = .ok (.ldc2_w 49, 3) := by decide +kernel
theorem dX3_digestFrom_48 : decode cX3_digestFrom 48 = .ok (.lload_n 3, 1) := by decide +kernel
theorem dX3_digestFrom_49 : decode cX3_digestFrom 49 = .ok (.lmul, 1) := by decide +kernel
theorem dX3_digestFrom_50 : decode cX3_digestFrom 50 = .ok (.aload_n 0, 1) := by decide +kernel
theorem dX3_digestFrom_51 : decode cX3_digestFrom 51 = .ok (.getfield 9, 3) := by decide +kernel
theorem dX3_digestFrom_54 : decode cX3_digestFrom 54 = .ok (.iload 5, 2) := by decide +kernel
theorem dX3_digestFrom_56 : decode cX3_digestFrom 56 = .ok (.aaload, 1) := by decide +kernel
theorem dX3_digestFrom_57 : decode cX3_digestFrom 57 = .ok (.iload 6, 2) := by decide +kernel
theorem dX3_digestFrom_59 : decode cX3_digestFrom 59 = .ok (.iaload, 1) := by decide +kernel
theorem dX3_digestFrom_60 : decode cX3_digestFrom 60 = .ok (.i2l, 1) := by decide +kernel
theorem dX3_digestFrom_61 : decode cX3_digestFrom 61 = .ok (.ladd, 1) := by decide +kernel
theorem dX3_digestFrom_62 : decode cX3_digestFrom 62 = .ok (.lstore_n 3, 1) := by decide +kernel
theorem dX3_digestFrom_63 : decode cX3_digestFrom 63 = .ok (.iinc 6 1, 3) := by decide +kernel
theorem dX3_digestFrom_66 : decode cX3_digestFrom 66 = .ok (.goto (-33), 3) := by decide +kernel
theorem dX3_digestFrom_69 : decode cX3_digestFrom 69 = .ok (.iinc 5 1, 3) := by decide +kernel
theorem dX3_digestFrom_72 : decode cX3_digestFrom 72 = .ok (.goto (-67), 3) := by decide +kernel
theorem dX3_digestFrom_75 : decode cX3_digestFrom 75 = .ok (.lload_n 3, 1) := by decide +kernel
theorem dX3_digestFrom_76 : decode cX3_digestFrom 76 = .ok (.lreturn, 1) := by decide +kernel
theorem dX4_init_0 : decode cX4_init 0 = .ok (.aload_n 0, 1) := by decide +kernel
theorem dX4_init_1 : decode cX4_init 1 = .ok (.invokespecial 1, 3) := by decide +kernel
theorem dX4_init_4 : decode cX4_init 4 = .ok (.aload_n 0, 1) := by decide +kernel
theorem dX4_init_5 : decode cX4_init 5 = .ok (.new 7, 3) := by decide +kernel
theorem dX4_init_8 : decode cX4_init 8 = .ok (.dup, 1) := by decide +kernel
theorem dX4_init_9 : decode cX4_init 9 = .ok (.bipush 6, 2) := by decide +kernel
theorem dX4_init_11 : decode cX4_init 11 = .ok (.bipush 40, 2) := by decide +kernel
theorem dX4_init_13 : decode cX4_init 13 = .ok (.invokespecial 11, 3) := by decide +kernel
theorem dX4_init_16 : decode cX4_init 16 = .ok (.putfield 14, 3) := by decide +kernel
theorem dX4_init_19 : decode cX4_init 19 = .ok (.aload_n 0, 1) := by decide +kernel
theorem dX4_init_20 : decode cX4_init 20 = .ok (.new 7, 3) := by decide +kernel
theorem dX4_init_23 : decode cX4_init 23 = .ok (.dup, 1) := by decide +kernel
theorem dX4_init_24 : decode cX4_init 24 = .ok (.iconst 4, 1) := by decide +kernel
theorem dX4_init_25 : decode cX4_init 25 = .ok (.bipush 60, 2) := by decide +kernel
theorem dX4_init_27 : decode cX4_init 27 = .ok (.invokespecial 11, 3) := by decide +kernel
theorem dX4_init_30 : decode cX4_init 30 = .ok (.putfield 18, 3) := by decide +kernel
theorem dX4_init_33 : decode cX4_init 33 = .ok (.aload_n 0, 1) := by decide +kernel
theorem dX4_init_34 : decode cX4_init 34 = .ok (.new 7, 3) := by decide +kernel
theorem dX4_init_37 : decode cX4_init 37 = .ok (.dup, 1) := by decide +kernel
theorem dX4_init_38 : decode cX4_init 38 = .ok (.iconst 3, 1) := by decide +kernel
theorem dX4_init_39 : decode cX4_init 39 = .ok (.bipush 40, 2) := by decide +kernel
theorem dX4_init_41 : decode cX4_init 41 = .ok (.invokespecial 11, 3) := by decide +kernel
theorem dX4_init_44 : decode cX4_init 44 = .ok (.putfield 21, 3) := by decide +kernel
theorem dX4_init_47 : decode cX4_init 47 = .ok (.aload_n 0, 1) := by decide +kernel
theorem dX4_init_48 : decode cX4_init 48 = .ok (.new 24, 3) := by decide +kernel
theorem dX4_init_51 : decode cX4_init 51 = .ok (.dup, 1) := by decide +kernel
theorem dX4_init_52 : decode cX4_init 52 = .ok (.invokespecial 26, 3) := by decide +kernel
theorem dX4_init_55 : decode cX4_init 55 = .ok (.putfield 27, 3) := by decide +kernel
theorem dX4_init_58 : decode cX4_init 58 = .ok (.aload_n 0, 1) := by decide +kernel
theorem dX4_init_59 : decode cX4_init 59 = .ok (.new 24, 3) := by decide +kernel
theorem dX4_init_62 : decode cX4_init 62 = .ok (.dup, 1) := by decide +kernel
theorem dX4_init_63 : decode cX4_init 63 = .ok (.invokespecial 26, 3) := by decide +kernel
theorem dX4_init_66 : decode cX4_init 66 = .ok (.putfield 31, 3) := by decide +kernel
theorem dX4_init_69 : decode cX4_init 69 = .ok (.aload_n 0, 1) := by decide +kernel
theorem dX4_init_70 : decode cX4_init 70 = .ok (.new 34, 3) := by decide +kernel
theorem dX4_init_73 : decode cX4_init 73 = .ok (.dup, 1) := by decide +kernel
theorem dX4_init_74 : decode cX4_init 74 = .ok (.aload_n 0, 1) := by decide +kernel
theorem dX4_init_75 : decode cX4_init 75 = .ok (.getfield 31, 3) := by decide +kernel
theorem dX4_init_78 : decode cX4_init 78 = .ok (.invokespecial 36, 3) := by decide +kernel
theorem dX4_init_81 : decode cX4_init 81 = .ok (.putfield 39, 3) := by decide +kernel
theorem dX4_init_84 : decode cX4_init 84 = .ok (.aload_n 0, 1) := by decide +kernel
theorem dX4_init_85 : decode cX4_init 85 = .ok (.new 43, 3) := by decide +kernel
theorem dX4_init_88 : decode cX4_init 88 = .ok (.dup, 1) := by decide +kernel
theorem dX4_init_89 : decode cX4_init 89 = .ok (.aload_n 0, 1) := by decide +kernel
theorem dX4_init_90 : decode cX4_init 90 = .ok (.getfield 39, 3) := by decide +kernel
theorem dX4_init_93 : decode cX4_init 93 = .ok (.invokespecial 45, 3) := by decide +kernel
theorem dX4_init_96 : decode cX4_init 96 = .ok (.putfield 48, 3) := by decide +kernel
theorem dX4_init_99 : decode cX4_init 99 = .ok (.aload_n 0, 1) := by decide +kernel
theorem dX4_init_100 : decode cX4_init 100 = .ok (.bipush 6, 2) := by decide +kernel
theorem dX4_init_102 : decode cX4_init 102 = .ok (.newarray .int, 2) := by decide +kernel
theorem dX4_init_104 : decode cX4_init 104 = .ok (.putfield 52, 3) := by decide +kernel
theorem dX4_init_107 : decode cX4_init 107 = .ok (.aload_n 0, 1) := by decide +kernel
theorem dX4_init_108 : decode cX4_init 108 = .ok (.lconst 1, 1) := by decide +kernel
theorem dX4_init_109 : decode cX4_init 109 = .ok (.putfield 56, 3) := by decide +kernel
theorem dX4_init_112 : decode cX4_init 112 = .ok (.return_, 1) := by decide +kernel
theorem dX4_row_0 : decode cX4_row 0 = .ok (.aload_n 0, 1) := by decide +kernel
theorem dX4_row_1 : decode cX4_row 1 = .ok (.getfield 14, 3) := by decide +kernel
theorem dX4_row_4 : decode cX4_row 4 = .ok (.iload_n 1, 1) := by decide +kernel
theorem dX4_row_5 : decode cX4_row 5 = .ok (.invokevirtual 60, 3) := by decide +kernel
theorem dX4_row_8 : decode cX4_row 8 = .ok (.ifCond .eq 9, 3) := by decide +kernel
theorem dX4_row_11 : decode cX4_row 11 = .ok (.iload_n 2, 1) := by decide +kernel
theorem dX4_row_12 : decode cX4_row 12 = .ok (.bipush 40, 2) := by decide +kernel
theorem dX4_row_14 : decode cX4_row 14 = .ok (.if_icmp .le 5, 3) := by decide +kernel
theorem dX4_row_17 : decode cX4_row 17 = .ok (.iconst (-1), 1) := by decide +kernel
theorem dX4_row_18 : decode cX4_row 18 = .ok (.ireturn, 1) := by decide +kernel
theorem dX4_row_19 : decode cX4_row 19 = .ok (.iload_n 2, 1) := by decide +kernel
theorem dX4_row_20 : decode cX4_row 20 = .ok (.ifCond .ge 9, 3) := by decide +kernel
theorem dX4_row_23 : decode cX4_row 23 = .ok (.aload_n 0, 1) := by decide +kernel
theorem dX4_row_24 : decode cX4_row 24 = .ok (.iconst 5, 1) := by decide +kernel
theorem dX4_row_25 : decode cX4_row 25 = .ok (.invokevirtual 64, 3) := by decide +kernel
theorem dX4_row_28 : decode cX4_row 28 = .ok (.ireturn, 1) := by decide +kernel
theorem dX4_row_29 : decode cX4_row 29 = .ok (.aload_n 0, 1) := by decide +kernel
theorem dX4_row_30 : decode cX4_row 30 = .ok (.getfield 14, 3) := by decide +kernel
theorem dX4_row_33 : decode cX4_row 33 = .ok (.iload_n 1, 1) := by decide +kernel
theorem dX4_row_34 : decode cX4_row 34 = .ok (.iload_n 2, 1) := by decide +kernel
theorem dX4_row_35 : decode cX4_row 35 = .ok (.iconst 0, 1) := by decide +kernel
theorem dX4_row_36 : decode cX4_row 36 = .ok (.invokevirtual 68, 3) := by decide +kernel
theorem dX4_row_39 : decode cX4_row 39 = .ok (.iload_n 2, 1) := by decide +kernel
theorem dX4_row_40 : decode cX4_row 40 = .ok (.ireturn, 1) := by decide +kernel
theorem dX4_lay_0 : decode cX4_lay 0 = .ok (.aload_n 0, 1) := by decide +kernel
theorem dX4_lay_1 : decode cX4_lay 1 = .ok (.aload_n 0, 1) := by decide +kernel
theorem dX4_lay_2 : decode cX4_lay 2 = .ok (.getfield 14, 3) := by decide +kernel
theorem dX4_lay_5 : decode cX4_lay 5 = .ok (.iload_n 1, 1) := by decide +kernel
theorem dX4_lay_6 : decode cX4_lay 6 = .ok (.iload_n 2, 1) := by decide +kernel
theorem dX4_lay_7 : decode cX4_lay 7 = .ok (.invokevirtual 72, 3) := by decide +kernel
theorem dX4_lay_10 : decode cX4_lay 10 = .ok (.istore 4, 2) := by decide +kernel
theorem dX4_lay_12 : decode cX4_lay 12 = .ok (.iload 4, 2) := by decide +kernel
theorem dX4_lay_14 : decode cX4_lay 14 = .ok (.ifCond .eq 6, 3) := by decide +kernel
theorem dX4_lay_17 : decode cX4_lay 17 = .ok (.iload 4, 2) := by decide +kernel
theorem dX4_lay_19 : decode cX4_lay 19 = .ok (.ireturn, 1) := by decide +kernel
theorem dX4_lay_20 : decode cX4_lay 20 = .ok (.aload_n 0, 1) := by decide +kernel
theorem dX4_lay_21 : decode cX4_lay 21 = .ok (.getfield 14, 3) := by decide +kernel
theorem dX4_lay_24 : decode cX4_lay 24 = .ok (.iload_n 1, 1) := by decide +kernel
theorem dX4_lay_25 : decode cX4_lay 25 = .ok (.iload_n 2, 1) := by decide +kernel
theorem dX4_lay_26 : decode cX4_lay 26 = .ok (.invokevirtual 76, 3) := by decide +kernel
theorem dX4_lay_29 : decode cX4_lay 29 = .ok (.istore 5, 2) := by decide +kernel
theorem dX4_lay_31 : decode cX4_lay 31 = .ok (.aload_n 0, 1) := by decide +kernel
theorem dX4_lay_32 : decode cX4_lay 32 = .ok (.getfield 14, 3) := by decide +kernel
theorem dX4_lay_35 : decode cX4_lay 35 = .ok (.iload_n 1, 1) := by decide +kernel
theorem dX4_lay_36 : decode cX4_lay 36 = .ok (.iload_n 2, 1) := by decide +kernel
theorem dX4_lay_37 : decode cX4_lay 37 = .ok (.iload_n 3, 1) := by decide +kernel
theorem dX4_lay_38 : decode cX4_lay 38 = .ok (.invokevirtual 80, 3) := by decide +kernel
theorem dX4_lay_41 : decode cX4_lay 41 = .ok (.aload_n 0, 1) := by decide +kernel
theorem dX4_lay_42 : decode cX4_lay 42 = .ok (.iload 5, 2) := by decide +kernel
theorem dX4_lay_44 : decode cX4_lay 44 = .ok (.invokevirtual 83, 3) := by decide +kernel
theorem dX4_lay_47 : decode cX4_lay 47 = .ok (.ireturn, 1) := by decide +kernel
theorem dX4_at_0 : decode cX4_at 0 = .ok (.aload_n 0, 1) := by decide +kernel
theorem dX4_at_1 : decode cX4_at 1 = .ok (.aload_n 0, 1) := by decide +kernel
theorem dX4_at_2 : decode cX4_at 2 = .ok (.getfield 14, 3) := by decide +kernel
theorem dX4_at_5 : decode cX4_at 5 = .ok (.iload_n 1, 1) := by decide +kernel
theorem dX4_at_6 : decode cX4_at 6 = .ok (.iload_n 2, 1) := by decide +kernel
theorem dX4_at_7 : decode cX4_at 7 = .ok (.invokevirtual 72, 3) := by decide +kernel
theorem dX4_at_10 : decode cX4_at 10 = .ok (.istore_n 3, 1) := by decide +kernel
theorem dX4_at_11 : decode cX4_at 11 = .ok (.iload_n 3, 1) := by decide +kernel
theorem dX4_at_12 : decode cX4_at 12 = .ok (.ifCond .eq 7, 3) := by decide +kernel
theorem dX4_at_15 : decode cX4_at 15 = .ok (.iload_n 3, 1) := by decide +kernel
theorem dX4_at_16 : decode cX4_at 16 = .ok (.goto 16, 3) := by decide +kernel
theorem dX4_at_19 : decode cX4_at 19 = .ok (.aload_n 0, 1) := by decide +kernel
theorem dX4_at_20 : decode cX4_at 20 = .ok (.aload_n 0, 1) := by decide +kernel
theorem dX4_at_21 : decode cX4_at 21 = .ok (.getfield 14, 3) := by decide +kernel
theorem dX4_at_24 : decode cX4_at 24 = .ok (.iload_n 1, 1) := by decide +kernel
theorem dX4_at_25 : decode cX4_at 25 = .ok (.iload_n 2, 1) := by decide +kernel
theorem dX4_at_26 : decode cX4_at 26 = .ok (.invokevirtual 76, 3) := by decide +kernel
theorem dX4_at_29 : decode cX4_at 29 = .ok (.invokevirtual 83, 3) := by decide +kernel
theorem dX4_at_32 : decode cX4_at 32 = .ok (.ireturn, 1) := by decide +kernel
theorem dX4_tear_0 : decode cX4_tear 0 = .ok (.aload_n 0, 1) := by decide +kernel
theorem dX4_tear_1 : decode cX4_tear 1 = .ok (.aload_n 0, 1) := by decide +kernel
theorem dX4_tear_2 : decode cX4_tear 2 = .ok (.getfield 14, 3) := by decide +kernel
theorem dX4_tear_5 : decode cX4_tear 5 = .ok (.iload_n 1, 1) := by decide +kernel
theorem dX4_tear_6 : decode cX4_tear 6 = .ok (.invokevirtual 86, 3) := by decide +kernel
theorem dX4_tear_9 : decode cX4_tear 9 = .ok (.istore_n 2, 1) := by decide +kernel
theorem dX4_tear_10 : decode cX4_tear 10 = .ok (.iload_n 2, 1) := by decide +kernel
theorem dX4_tear_11 : decode cX4_tear 11 = .ok (.ifCond .eq 5, 3) := by decide +kernel
theorem dX4_tear_14 : decode cX4_tear 14 = .ok (.iload_n 2, 1) := by decide +kernel
end
section
theorem dX4_tear_15 : decode cX4_tear 15 = .ok (.ireturn, 1) := by decide +kernel
theorem dX4_tear_16 : decode cX4_tear 16 = .ok (.aload_n 0, 1) := by decide +kernel
theorem dX4_tear_17 : decode cX4_tear 17 = .ok (.getfield 14, 3) := by decide +kernel
theorem dX4_tear_20 : decode cX4_tear 20 = .ok (.iload_n 1, 1) := by decide +kernel
theorem dX4_tear_21 : decode cX4_tear 21 = .ok (.invokevirtual 90, 3) := by decide +kernel
theorem dX4_tear_24 : decode cX4_tear 24 = .ok (.iconst 1, 1) := by decide +kernel
theorem dX4_tear_25 : decode cX4_tear 25 = .ok (.ireturn, 1) := by decide +kernel
theorem dX4_copy_0 : decode cX4_copy 0 = .ok (.aload_n 0, 1) := by decide +kernel
theorem dX4_copy_1 : decode cX4_copy 1 = .ok (.getfield 14, 3) := by decide +kernel
theorem dX4_copy_4 : decode cX4_copy 4 = .ok (.iload_n 1, 1) := by decide +kernel
theorem dX4_copy_5 : decode cX4_copy 5 = .ok (.invokevirtual 60, 3) := by decide +kernel
theorem dX4_copy_8 : decode cX4_copy 8 = .ok (.ifCond .eq 14, 3) := by decide +kernel
theorem dX4_copy_11 : decode cX4_copy 11 = .ok (.aload_n 0, 1) := by decide +kernel
theorem dX4_copy_12 : decode cX4_copy 12 = .ok (.getfield 14, 3) := by decide +kernel
theorem dX4_copy_15 : decode cX4_copy 15 = .ok (.iload_n 3, 1) := by decide +kernel
theorem dX4_copy_16 : decode cX4_copy 16 = .ok (.invokevirtual 60, 3) := by decide +kernel
theorem dX4_copy_19 : decode cX4_copy 19 = .ok (.ifCond .ne 5, 3) := by decide +kernel
theorem dX4_copy_22 : decode cX4_copy 22 = .ok (.iconst (-1), 1) := by decide +kernel
theorem dX4_copy_23 : decode cX4_copy 23 = .ok (.ireturn, 1) := by decide +kernel
theorem dX4_copy_24 : decode cX4_copy 24 = .ok (.iload 5, 2) := by decide +kernel
theorem dX4_copy_26 : decode cX4_copy 26 = .ok (.ifCond .ge 9, 3) := by decide +kernel
theorem dX4_copy_29 : decode cX4_copy 29 = .ok (.aload_n 0, 1) := by decide +kernel
theorem dX4_copy_30 : decode cX4_copy 30 = .ok (.iconst 5, 1) := by decide +kernel
theorem dX4_copy_31 : decode cX4_copy 31 = .ok (.invokevirtual 64, 3) := by decide +kernel
theorem dX4_copy_34 : decode cX4_copy 34 = .ok (.ireturn, 1) := by decide +kernel
theorem dX4_copy_35 : decode cX4_copy 35 = .ok (.aload_n 0, 1) := by decide +kernel
theorem dX4_copy_36 : decode cX4_copy 36 = .ok (.getfield 14, 3) := by decide +kernel
theorem dX4_copy_39 : decode cX4_copy 39 = .ok (.iload_n 1, 1) := by decide +kernel
theorem dX4_copy_40 : decode cX4_copy 40 = .ok (.invokevirtual 94, 3) := by decide +kernel
theorem dX4_copy_43 : decode cX4_copy 43 = .ok (.ifCond .eq 14, 3) := by decide +kernel
theorem dX4_copy_46 : decode cX4_copy 46 = .ok (.aload_n 0, 1) := by decide +kernel
theorem dX4_copy_47 : decode cX4_copy 47 = .ok (.getfield 14, 3) := by decide +kernel
theorem dX4_copy_50 : decode cX4_copy 50 = .ok (.iload_n 3, 1) := by decide +kernel
theorem dX4_copy_51 : decode cX4_copy 51 = .ok (.invokevirtual 94, 3) := by decide +kernel
theorem dX4_copy_54 : decode cX4_copy 54 = .ok (.ifCond .ne 9, 3) := by decide +kernel
theorem dX4_copy_57 : decode cX4_copy 57 = .ok (.aload_n 0, 1) := by decide +kernel
theorem dX4_copy_58 : decode cX4_copy 58 = .ok (.iconst 1, 1) := by decide +kernel
theorem dX4_copy_59 : decode cX4_copy 59 = .ok (.invokevirtual 64, 3) := by decide +kernel
theorem dX4_copy_62 : decode cX4_copy 62 = .ok (.ireturn, 1) := by decide +kernel
theorem dX4_copy_63 : decode cX4_copy 63 = .ok (.aload_n 0, 1) := by decide +kernel
theorem dX4_copy_64 : decode cX4_copy 64 = .ok (.getfield 14, 3) := by decide +kernel
theorem dX4_copy_67 : decode cX4_copy 67 = .ok (.iload_n 1, 1) := by decide +kernel
theorem dX4_copy_68 : decode cX4_copy 68 = .ok (.iload_n 2, 1) := by decide +kernel
theorem dX4_copy_69 : decode cX4_copy 69 = .ok (.iload 5, 2) := by decide +kernel
theorem dX4_copy_71 : decode cX4_copy 71 = .ok (.invokevirtual 97, 3) := by decide +kernel
theorem dX4_copy_74 : decode cX4_copy 74 = .ok (.ifCond .eq 18, 3) := by decide +kernel
theorem dX4_copy_77 : decode cX4_copy 77 = .ok (.aload_n 0, 1) := by decide +kernel
theorem dX4_copy_78 : decode cX4_copy 78 = .ok (.getfield 14, 3) := by decide +kernel
theorem dX4_copy_81 : decode cX4_copy 81 = .ok (.iload_n 3, 1) := by decide +kernel
theorem dX4_copy_82 : decode cX4_copy 82 = .ok (.iload 4, 2) := by decide +kernel
theorem dX4_copy_84 : decode cX4_copy 84 = .ok (.iload 5, 2) := by decide +kernel
theorem dX4_copy_86 : decode cX4_copy 86 = .ok (.invokevirtual 97, 3) := by decide +kernel
theorem dX4_copy_89 : decode cX4_copy 89 = .ok (.ifCond .ne 9, 3) := by decide +kernel
theorem dX4_copy_92 : decode cX4_copy 92 = .ok (.aload_n 0, 1) := by decide +kernel
theorem dX4_copy_93 : decode cX4_copy 93 = .ok (.iconst 2, 1) := by decide +kernel
theorem dX4_copy_94 : decode cX4_copy 94 = .ok (.invokevirtual 64, 3) := by decide +kernel
theorem dX4_copy_97 : decode cX4_copy 97 = .ok (.ireturn, 1) := by decide +kernel
theorem dX4_copy_98 : decode cX4_copy 98 = .ok (.aload_n 0, 1) := by decide +kernel
theorem dX4_copy_99 : decode cX4_copy 99 = .ok (.getfield 14, 3) := by decide +kernel
theorem dX4_copy_102 : decode cX4_copy 102 = .ok (.iload_n 1, 1) := by decide +kernel
theorem dX4_copy_103 : decode cX4_copy 103 = .ok (.iload_n 2, 1) := by decide +kernel
theorem dX4_copy_104 : decode cX4_copy 104 = .ok (.iload_n 3, 1) := by decide +kernel
theorem dX4_copy_105 : decode cX4_copy 105 = .ok (.iload 4, 2) := by decide +kernel
theorem dX4_copy_107 : decode cX4_copy 107 = .ok (.iload 5, 2) := by decide +kernel
theorem dX4_copy_109 : decode cX4_copy 109 = .ok (.invokevirtual 101, 3) := by decide +kernel
theorem dX4_copy_112 : decode cX4_copy 112 = .ok (.iconst 1, 1) := by decide +kernel
theorem dX4_copy_113 : decode cX4_copy 113 = .ok (.ireturn, 1) := by decide +kernel
theorem dX4_mean_0 : decode cX4_mean 0 = .ok (.aload_n 0, 1) := by decide +kernel
theorem dX4_mean_1 : decode cX4_mean 1 = .ok (.aload_n 0, 1) := by decide +kernel
theorem dX4_mean_2 : decode cX4_mean 2 = .ok (.getfield 14, 3) := by decide +kernel
theorem dX4_mean_5 : decode cX4_mean 5 = .ok (.iload_n 1, 1) := by decide +kernel
theorem dX4_mean_6 : decode cX4_mean 6 = .ok (.invokevirtual 86, 3) := by decide +kernel
theorem dX4_mean_9 : decode cX4_mean 9 = .ok (.istore_n 2, 1) := by decide +kernel
theorem dX4_mean_10 : decode cX4_mean 10 = .ok (.iload_n 2, 1) := by decide +kernel
theorem dX4_mean_11 : decode cX4_mean 11 = .ok (.ifCond .eq 5, 3) := by decide +kernel
theorem dX4_mean_14 : decode cX4_mean 14 = .ok (.iload_n 2, 1) := by decide +kernel
theorem dX4_mean_15 : decode cX4_mean 15 = .ok (.ireturn, 1) := by decide +kernel
theorem dX4_mean_16 : decode cX4_mean 16 = .ok (.aload_n 0, 1) := by decide +kernel
theorem dX4_mean_17 : decode cX4_mean 17 = .ok (.getfield 14, 3) := by decide +kernel
theorem dX4_mean_20 : decode cX4_mean 20 = .ok (.iload_n 1, 1) := by decide +kernel
theorem dX4_mean_21 : decode cX4_mean 21 = .ok (.invokevirtual 105, 3) := by decide +kernel
theorem dX4_mean_24 : decode cX4_mean 24 = .ok (.istore_n 3, 1) := by decide +kernel
theorem dX4_mean_25 : decode cX4_mean 25 = .ok (.iload_n 3, 1) := by decide +kernel
theorem dX4_mean_26 : decode cX4_mean 26 = .ok (.ifCond .gt 9, 3) := by decide +kernel
theorem dX4_mean_29 : decode cX4_mean 29 = .ok (.aload_n 0, 1) := by decide +kernel
theorem dX4_mean_30 : decode cX4_mean 30 = .ok (.iconst 4, 1) := by decide +kernel
theorem dX4_mean_31 : decode cX4_mean 31 = .ok (.invokevirtual 64, 3) := by decide +kernel
theorem dX4_mean_34 : decode cX4_mean 34 = .ok (.ireturn, 1) := by decide +kernel
theorem dX4_mean_35 : decode cX4_mean 35 = .ok (.lconst 0, 1) := by decide +kernel
theorem dX4_mean_36 : decode cX4_mean 36 = .ok (.lstore 4, 2) := by decide +kernel
theorem dX4_mean_38 : decode cX4_mean 38 = .ok (.iconst 0, 1) := by decide +kernel
theorem dX4_mean_39 : decode cX4_mean 39 = .ok (.istore 6, 2) := by decide +kernel
theorem dX4_mean_41 : decode cX4_mean 41 = .ok (.iload 6, 2) := by decide +kernel
theorem dX4_mean_43 : decode cX4_mean 43 = .ok (.iload_n 3, 1) := by decide +kernel
theorem dX4_mean_44 : decode cX4_mean 44 = .ok (.if_icmp .ge 25, 3) := by decide +kernel
theorem dX4_mean_47 : decode cX4_mean 47 = .ok (.lload 4, 2) := by decide +kernel
theorem dX4_mean_49 : decode cX4_mean 49 = .ok (.aload_n 0, 1) := by decide +kernel
theorem dX4_mean_50 : decode cX4_mean 50 = .ok (.getfield 14, 3) := by decide +kernel
theorem dX4_mean_53 : decode cX4_mean 53 = .ok (.iload_n 1, 1) := by decide +kernel
theorem dX4_mean_54 : decode cX4_mean 54 = .ok (.iload 6, 2) := by decide +kernel
theorem dX4_mean_56 : decode cX4_mean 56 = .ok (.invokevirtual 76, 3) := by decide +kernel
theorem dX4_mean_59 : decode cX4_mean 59 = .ok (.i2l, 1) := by decide +kernel
theorem dX4_mean_60 : decode cX4_mean 60 = .ok (.ladd, 1) := by decide +kernel
theorem dX4_mean_61 : decode cX4_mean 61 = .ok (.lstore 4, 2) := by decide +kernel
theorem dX4_mean_63 : decode cX4_mean 63 = .ok (.iinc 6 1, 3) := by decide +kernel
theorem dX4_mean_66 : decode cX4_mean 66 = .ok (.goto (-25), 3) := by decide +kernel
theorem dX4_mean_69 : decode cX4_mean 69 = .ok (.aload_n 0, 1) := by decide +kernel
theorem dX4_mean_70 : decode cX4_mean 70 = .ok (.lload 4, 2) := by decide +kernel
theorem dX4_mean_72 : decode cX4_mean 72 = .ok (.iload_n 3, 1) := by decide +kernel
theorem dX4_mean_73 : decode cX4_mean 73 = .ok (.i2l, 1) := by decide +kernel
theorem dX4_mean_74 : decode cX4_mean 74 = .ok (.ldiv, 1) := by decide +kernel
theorem dX4_mean_75 : decode cX4_mean 75 = .ok (.l2i, 1) := by decide +kernel
theorem dX4_mean_76 : decode cX4_mean 76 = .ok (.invokevirtual 83, 3) := by decide +kernel
theorem dX4_mean_79 : decode cX4_mean 79 = .ok (.ireturn, 1) := by decide +kernel
theorem dX4_text_0 : decode cX4_text 0 = .ok (.aload_n 0, 1) := by decide +kernel
theorem dX4_text_1 : decode cX4_text 1 = .ok (.getfield 18, 3) := by decide +kernel
theorem dX4_text_4 : decode cX4_text 4 = .ok (.iload_n 1, 1) := by decide +kernel
theorem dX4_text_5 : decode cX4_text 5 = .ok (.invokevirtual 60, 3) := by decide +kernel
theorem dX4_text_8 : decode cX4_text 8 = .ok (.ifCond .eq 9, 3) := by decide +kernel
theorem dX4_text_11 : decode cX4_text 11 = .ok (.iload_n 2, 1) := by decide +kernel
theorem dX4_text_12 : decode cX4_text 12 = .ok (.bipush 60, 2) := by decide +kernel
theorem dX4_text_14 : decode cX4_text 14 = .ok (.if_icmp .le 5, 3) := by decide +kernel
theorem dX4_text_17 : decode cX4_text 17 = .ok (.iconst (-1), 1) := by decide +kernel
theorem dX4_text_18 : decode cX4_text 18 = .ok (.ireturn, 1) := by decide +kernel
theorem dX4_text_19 : decode cX4_text 19 = .ok (.iload_n 2, 1) := by decide +kernel
theorem dX4_text_20 : decode cX4_text 20 = .ok (.ifCond .ge 9, 3) := by decide +kernel
theorem dX4_text_23 : decode cX4_text 23 = .ok (.aload_n 0, 1) := by decide +kernel
theorem dX4_text_24 : decode cX4_text 24 = .ok (.iconst 5, 1) := by decide +kernel
theorem dX4_text_25 : decode cX4_text 25 = .ok (.invokevirtual 64, 3) := by decide +kernel
theorem dX4_text_28 : decode cX4_text 28 = .ok (.ireturn, 1) := by decide +kernel
theorem dX4_text_29 : decode cX4_text 29 = .ok (.aload_n 0, 1) := by decide +kernel
theorem dX4_text_30 : decode cX4_text 30 = .ok (.getfield 18, 3) := by decide +kernel
theorem dX4_text_33 : decode cX4_text 33 = .ok (.iload_n 1, 1) := by decide +kernel
theorem dX4_text_34 : decode cX4_text 34 = .ok (.iload_n 2, 1) := by decide +kernel
theorem dX4_text_35 : decode cX4_text 35 = .ok (.bipush 32, 2) := by decide +kernel
theorem dX4_text_37 : decode cX4_text 37 = .ok (.invokevirtual 68, 3) := by decide +kernel
theorem dX4_text_40 : decode cX4_text 40 = .ok (.iload_n 2, 1) := by decide +kernel
theorem dX4_text_41 : decode cX4_text 41 = .ok (.ireturn, 1) := by decide +kernel
theorem dX4_put_0 : decode cX4_put 0 = .ok (.aload_n 0, 1) := by decide +kernel
theorem dX4_put_1 : decode cX4_put 1 = .ok (.aload_n 0, 1) := by decide +kernel
theorem dX4_put_2 : decode cX4_put 2 = .ok (.getfield 18, 3) := by decide +kernel
theorem dX4_put_5 : decode cX4_put 5 = .ok (.iload_n 1, 1) := by decide +kernel
theorem dX4_put_6 : decode cX4_put 6 = .ok (.iload_n 2, 1) := by decide +kernel
theorem dX4_put_7 : decode cX4_put 7 = .ok (.invokevirtual 72, 3) := by decide +kernel
theorem dX4_put_10 : decode cX4_put 10 = .ok (.istore 4, 2) := by decide +kernel
theorem dX4_put_12 : decode cX4_put 12 = .ok (.iload 4, 2) := by decide +kernel
theorem dX4_put_14 : decode cX4_put 14 = .ok (.ifCond .eq 6, 3) := by decide +kernel
theorem dX4_put_17 : decode cX4_put 17 = .ok (.iload 4, 2) := by decide +kernel
theorem dX4_put_19 : decode cX4_put 19 = .ok (.ireturn, 1) := by decide +kernel
theorem dX4_put_20 : decode cX4_put 20 = .ok (.aload_n 0, 1) := by decide +kernel
theorem dX4_put_21 : decode cX4_put 21 = .ok (.getfield 18, 3) := by decide +kernel
theorem dX4_put_24 : decode cX4_put 24 = .ok (.iload_n 1, 1) := by decide +kernel
theorem dX4_put_25 : decode cX4_put 25 = .ok (.iload_n 2, 1) := by decide +kernel
theorem dX4_put_26 : decode cX4_put 26 = .ok (.invokevirtual 76, 3) := by decide +kernel
theorem dX4_put_29 : decode cX4_put 29 = .ok (.istore 5, 2) := by decide +kernel
theorem dX4_put_31 : decode cX4_put 31 = .ok (.aload_n 0, 1) := by decide +kernel
theorem dX4_put_32 : decode cX4_put 32 = .ok (.getfield 18, 3) := by decide +kernel
theorem dX4_put_35 : decode cX4_put 35 = .ok (.iload_n 1, 1) := by decide +kernel
theorem dX4_put_36 : decode cX4_put 36 = .ok (.iload_n 2, 1) := by decide +kernel
theorem dX4_put_37 : decode cX4_put 37 = .ok (.iload_n 3, 1) := by decide +kernel
theorem dX4_put_38 : decode cX4_put 38 = .ok (.i2b, 1) := by decide +kernel
theorem dX4_put_39 : decode cX4_put 39 = .ok (.invokevirtual 80, 3) := by decide +kernel
theorem dX4_put_42 : decode cX4_put 42 = .ok (.iload 5, 2) := by decide +kernel
theorem dX4_put_44 : decode cX4_put 44 = .ok (.sipush 1000, 3) := by decide +kernel
theorem dX4_put_47 : decode cX4_put 47 = .ok (.iadd, 1) := by decide +kernel
theorem dX4_put_48 : decode cX4_put 48 = .ok (.ireturn, 1) := by decide +kernel
theorem dX4_fault_0 : decode cX4_fault 0 = .ok (.aload_n 0, 1) := by decide +kernel
theorem dX4_fault_1 : decode cX4_fault 1 = .ok (.aload_n 0, 1) := by decide +kernel
theorem dX4_fault_2 : decode cX4_fault 2 = .ok (.getfield 18, 3) := by decide +kernel
theorem dX4_fault_5 : decode cX4_fault 5 = .ok (.iload_n 1, 1) := by decide +kernel
theorem dX4_fault_6 : decode cX4_fault 6 = .ok (.invokevirtual 86, 3) := by decide +kernel
theorem dX4_fault_9 : decode cX4_fault 9 = .ok (.istore_n 2, 1) := by decide +kernel
theorem dX4_fault_10 : decode cX4_fault 10 = .ok (.iload_n 2, 1) := by decide +kernel
theorem dX4_fault_11 : decode cX4_fault 11 = .ok (.ifCond .eq 7, 3) := by decide +kernel
theorem dX4_fault_14 : decode cX4_fault 14 = .ok (.iload_n 2, 1) := by decide +kernel
theorem dX4_fault_15 : decode cX4_fault 15 = .ok (.goto 15, 3) := by decide +kernel
theorem dX4_fault_18 : decode cX4_fault 18 = .ok (.aload_n 0, 1) := by decide +kernel
theorem dX4_fault_19 : decode cX4_fault 19 = .ok (.getfield 27, 3) := by decide +kernel
theorem dX4_fault_22 : decode cX4_fault 22 = .ok (.aload_n 0, 1) := by decide +kernel
theorem dX4_fault_23 : decode cX4_fault 23 = .ok (.getfield 18, 3) := by decide +kernel
theorem dX4_fault_26 : decode cX4_fault 26 = .ok (.iload_n 1, 1) := by decide +kernel
theorem dX4_fault_27 : decode cX4_fault 27 = .ok (.invokevirtual 108, 3) := by decide +kernel
theorem dX4_fault_30 : decode cX4_fault 30 = .ok (.ireturn, 1) := by decide +kernel
theorem dX4_house_0 : decode cX4_house 0 = .ok (.aload_n 0, 1) := by decide +kernel
theorem dX4_house_1 : decode cX4_house 1 = .ok (.aload_n 0, 1) := by decide +kernel
theorem dX4_house_2 : decode cX4_house 2 = .ok (.getfield 18, 3) := by decide +kernel
theorem dX4_house_5 : decode cX4_house 5 = .ok (.iload_n 1, 1) := by decide +kernel
theorem dX4_house_6 : decode cX4_house 6 = .ok (.invokevirtual 86, 3) := by decide +kernel
theorem dX4_house_9 : decode cX4_house 9 = .ok (.istore_n 2, 1) := by decide +kernel
theorem dX4_house_10 : decode cX4_house 10 = .ok (.iload_n 2, 1) := by decide +kernel
theorem dX4_house_11 : decode cX4_house 11 = .ok (.ifCond .eq 5, 3) := by decide +kernel
theorem dX4_house_14 : decode cX4_house 14 = .ok (.iload_n 2, 1) := by decide +kernel
theorem dX4_house_15 : decode cX4_house 15 = .ok (.ireturn, 1) := by decide +kernel
theorem dX4_house_16 : decode cX4_house 16 = .ok (.aload_n 0, 1) := by decide +kernel
theorem dX4_house_17 : decode cX4_house 17 = .ok (.getfield 27, 3) := by decide +kernel
theorem dX4_house_20 : decode cX4_house 20 = .ok (.aload_n 0, 1) := by decide +kernel
theorem dX4_house_21 : decode cX4_house 21 = .ok (.getfield 18, 3) := by decide +kernel
theorem dX4_house_24 : decode cX4_house 24 = .ok (.iload_n 1, 1) := by decide +kernel
theorem dX4_house_25 : decode cX4_house 25 = .ok (.invokevirtual 108, 3) := by decide +kernel
theorem dX4_house_28 : decode cX4_house 28 = .ok (.bipush (-9), 2) := by decide +kernel
theorem dX4_house_30 : decode cX4_house 30 = .ok (.if_icmp .eq 6, 3) := by decide +kernel
theorem dX4_house_33 : decode cX4_house 33 = .ok (.bipush (-4), 2) := by decide +kernel
theorem dX4_house_35 : decode cX4_house 35 = .ok (.ireturn, 1) := by decide +kernel
theorem dX4_house_36 : decode cX4_house 36 = .ok (.aload_n 0, 1) := by decide +kernel
theorem dX4_house_37 : decode cX4_house 37 = .ok (.getfield 31, 3) := by decide +kernel
theorem dX4_house_40 : decode cX4_house 40 = .ok (.aload_n 0, 1) := by decide +kernel
theorem dX4_house_41 : decode cX4_house 41 = .ok (.getfield 18, 3) := by decide +kernel
theorem dX4_house_44 : decode cX4_house 44 = .ok (.iload_n 1, 1) := by decide +kernel
theorem dX4_house_45 : decode cX4_house 45 = .ok (.invokevirtual 108, 3) := by decide +kernel
theorem dX4_house_48 : decode cX4_house 48 = .ok (.pop, 1) := by decide +kernel
theorem dX4_house_49 : decode cX4_house 49 = .ok (.aload_n 0, 1) := by decide +kernel
theorem dX4_house_50 : decode cX4_house 50 = .ok (.getfield 39, 3) := by decide +kernel
theorem dX4_house_53 : decode cX4_house 53 = .ok (.invokevirtual 111, 3) := by decide +kernel
theorem dX4_house_56 : decode cX4_house 56 = .ok (.iconst 0, 1) := by decide +kernel
theorem dX4_house_57 : decode cX4_house 57 = .ok (.istore_n 3, 1) := by decide +kernel
theorem dX4_house_58 : decode cX4_house 58 = .ok (.iload_n 3, 1) := by decide +kernel
theorem dX4_house_59 : decode cX4_house 59 = .ok (.iconst 3, 1) := by decide +kernel
theorem dX4_house_60 : decode cX4_house 60 = .ok (.if_icmp .ge 17, 3) := by decide +kernel
theorem dX4_house_63 : decode cX4_house 63 = .ok (.aload_n 0, 1) := by decide +kernel
theorem dX4_house_64 : decode cX4_house 64 = .ok (.getfield 21, 3) := by decide +kernel
theorem dX4_house_67 : decode cX4_house 67 = .ok (.iload_n 3, 1) := by decide +kernel
theorem dX4_house_68 : decode cX4_house 68 = .ok (.invokevirtual 90, 3) := by decide +kernel
theorem dX4_house_71 : decode cX4_house 71 = .ok (.iinc 3 1, 3) := by decide +kernel
theorem dX4_house_74 : decode cX4_house 74 = .ok (.goto (-16), 3) := by decide +kernel
theorem dX4_house_77 : decode cX4_house 77 = .ok (.aload_n 0, 1) := by decide +kernel
theorem dX4_house_78 : decode cX4_house 78 = .ok (.getfield 31, 3) := by decide +kernel
theorem dX4_house_81 : decode cX4_house 81 = .ok (.getfield 114, 3) := by decide +kernel
theorem dX4_house_84 : decode cX4_house 84 = .ok (.ireturn, 1) := by decide +kernel
theorem dX4_sitter_0 : decode cX4_sitter 0 = .ok (.aload_n 0, 1) := by decide +kernel
theorem dX4_sitter_1 : decode cX4_sitter 1 = .ok (.getfield 31, 3) := by decide +kernel
theorem dX4_sitter_4 : decode cX4_sitter 4 = .ok (.iload_n 1, 1) := by decide +kernel
theorem dX4_sitter_5 : decode cX4_sitter 5 = .ok (.invokevirtual 118, 3) := by decide +kernel
theorem dX4_sitter_8 : decode cX4_sitter 8 = .ok (.ifCond .eq 13, 3) := by decide +kernel
theorem dX4_sitter_11 : decode cX4_sitter 11 = .ok (.iload_n 2, 1) := by decide +kernel
theorem dX4_sitter_12 : decode cX4_sitter 12 = .ok (.ifCond .lt 9, 3) := by decide +kernel
theorem dX4_sitter_15 : decode cX4_sitter 15 = .ok (.iload_n 2, 1) := by decide +kernel
theorem dX4_sitter_16 : decode cX4_sitter 16 = .ok (.bipush 8, 2) := by decide +kernel
theorem dX4_sitter_18 : decode cX4_sitter 18 = .ok (.if_icmp .lt 5, 3) := by decide +kernel
theorem dX4_sitter_21 : decode cX4_sitter 21 = .ok (.iconst (-1), 1) := by decide +kernel
theorem dX4_sitter_22 : decode cX4_sitter 22 = .ok (.ireturn, 1) := by decide +kernel
theorem dX4_sitter_23 : decode cX4_sitter 23 = .ok (.aload_n 0, 1) := by decide +kernel
theorem dX4_sitter_24 : decode cX4_sitter 24 = .ok (.aload_n 0, 1) := by decide +kernel
theorem dX4_sitter_25 : decode cX4_sitter 25 = .ok (.getfield 39, 3) := by decide +kernel
theorem dX4_sitter_28 : decode cX4_sitter 28 = .ok (.iload_n 1, 1) := by decide +kernel
theorem dX4_sitter_29 : decode cX4_sitter 29 = .ok (.iload_n 2, 1) := by decide +kernel
theorem dX4_sitter_30 : decode cX4_sitter 30 = .ok (.invokevirtual 121, 3) := by decide +kernel
theorem dX4_sitter_33 : decode cX4_sitter 33 = .ok (.invokevirtual 83, 3) := by decide +kernel
theorem dX4_sitter_36 : decode cX4_sitter 36 = .ok (.ireturn, 1) := by decide +kernel
theorem dX4_mark_0 : decode cX4_mark 0 = .ok (.aload_n 0, 1) := by decide +kernel
theorem dX4_mark_1 : decode cX4_mark 1 = .ok (.getfield 31, 3) := by decide +kernel
theorem dX4_mark_4 : decode cX4_mark 4 = .ok (.iload_n 1, 1) := by decide +kernel
theorem dX4_mark_5 : decode cX4_mark 5 = .ok (.invokevirtual 118, 3) := by decide +kernel
theorem dX4_mark_8 : decode cX4_mark 8 = .ok (.ifCond .eq 13, 3) := by decide +kernel
theorem dX4_mark_11 : decode cX4_mark 11 = .ok (.iload_n 2, 1) := by decide +kernel
theorem dX4_mark_12 : decode cX4_mark 12 = .ok (.ifCond .le 9, 3) := by decide +kernel
theorem dX4_mark_15 : decode cX4_mark 15 = .ok (.iload_n 2, 1) := by decide +kernel
theorem dX4_mark_16 : decode cX4_mark 16 = .ok (.bipush 6, 2) := by decide +kernel
theorem dX4_mark_18 : decode cX4_mark 18 = .ok (.if_icmp .lt 5, 3) := by decide +kernel
theorem dX4_mark_21 : decode cX4_mark 21 = .ok (.iconst (-1), 1) := by decide +kernel
theorem dX4_mark_22 : decode cX4_mark 22 = .ok (.ireturn, 1) := by decide +kernel
theorem dX4_mark_23 : decode cX4_mark 23 = .ok (.aload_n 0, 1) := by decide +kernel
theorem dX4_mark_24 : decode cX4_mark 24 = .ok (.getfield 31, 3) := by decide +kernel
theorem dX4_mark_27 : decode cX4_mark 27 = .ok (.getfield 124, 3) := by decide +kernel
theorem dX4_mark_30 : decode cX4_mark 30 = .ok (.iload_n 1, 1) := by decide +kernel
theorem dX4_mark_31 : decode cX4_mark 31 = .ok (.iaload, 1) := by decide +kernel
theorem dX4_mark_32 : decode cX4_mark 32 = .ok (.iload_n 2, 1) := by decide +kernel
theorem dX4_mark_33 : decode cX4_mark 33 = .ok (.invokestatic 127, 3) := by decide +kernel
theorem dX4_mark_36 : decode cX4_mark 36 = .ok (.ifCond .eq 15, 3) := by decide +kernel
theorem dX4_mark_39 : decode cX4_mark 39 = .ok (.aload_n 0, 1) := by decide +kernel
theorem dX4_mark_40 : decode cX4_mark 40 = .ok (.getfield 39, 3) := by decide +kernel
theorem dX4_mark_43 : decode cX4_mark 43 = .ok (.iload_n 1, 1) := by decide +kernel
theorem dX4_mark_44 : decode cX4_mark 44 = .ok (.iload_n 2, 1) := by decide +kernel
theorem dX4_mark_45 : decode cX4_mark 45 = .ok (.invokevirtual 131, 3) := by decide +kernel
theorem dX4_mark_48 : decode cX4_mark 48 = .ok (.goto 8, 3) := by decide +kernel
theorem dX4_mark_51 : decode cX4_mark 51 = .ok (.aload_n 0, 1) := by decide +kernel
theorem dX4_mark_52 : decode cX4_mark 52 = .ok (.iconst 3, 1) := by decide +kernel
theorem dX4_mark_53 : decode cX4_mark 53 = .ok (.invokevirtual 64, 3) := by decide +kernel
theorem dX4_mark_56 : decode cX4_mark 56 = .ok (.ireturn, 1) := by decide +kernel
theorem dX4_lines_0 : decode cX4_lines 0 = .ok (.iload_n 1, 1) := by decide +kernel
theorem dX4_lines_1 : decode cX4_lines 1 = .ok (.ifCond .lt 14, 3) := by decide +kernel
theorem dX4_lines_4 : decode cX4_lines 4 = .ok (.iload_n 1, 1) := by decide +kernel
theorem dX4_lines_5 : decode cX4_lines 5 = .ok (.aload_n 0, 1) := by decide +kernel
theorem dX4_lines_6 : decode cX4_lines 6 = .ok (.getfield 31, 3) := by decide +kernel
theorem dX4_lines_9 : decode cX4_lines 9 = .ok (.getfield 134, 3) := by decide +kernel
theorem dX4_lines_12 : decode cX4_lines 12 = .ok (.if_icmp .lt 7, 3) := by decide +kernel
theorem dX4_lines_15 : decode cX4_lines 15 = .ok (.iconst (-1), 1) := by decide +kernel
theorem dX4_lines_16 : decode cX4_lines 16 = .ok (.goto 12, 3) := by decide +kernel
theorem dX4_lines_19 : decode cX4_lines 19 = .ok (.aload_n 0, 1) := by decide +kernel
theorem dX4_lines_20 : decode cX4_lines 20 = .ok (.getfield 31, 3) := by decide +kernel
theorem dX4_lines_23 : decode cX4_lines 23 = .ok (.getfield 137, 3) := by decide +kernel
theorem dX4_lines_26 : decode cX4_lines 26 = .ok (.iload_n 1, 1) := by decide +kernel
theorem dX4_lines_27 : decode cX4_lines 27 = .ok (.iaload, 1) := by decide +kernel
theorem dX4_lines_28 : decode cX4_lines 28 = .ok (.ireturn, 1) := by decide +kernel
theorem dX4_call_0 : decode cX4_call 0 = .ok (.aload_n 0, 1) := by decide +kernel
theorem dX4_call_1 : decode cX4_call 1 = .ok (.getfield 31, 3) := by decide +kernel
theorem dX4_call_4 : decode cX4_call 4 = .ok (.iload_n 1, 1) := by decide +kernel
theorem dX4_call_5 : decode cX4_call 5 = .ok (.invokevirtual 118, 3) := by decide +kernel
theorem dX4_call_8 : decode cX4_call 8 = .ok (.ifCond .ne 5, 3) := by decide +kernel
theorem dX4_call_11 : decode cX4_call 11 = .ok (.iconst (-1), 1) := by decide +kernel
theorem dX4_call_12 : decode cX4_call 12 = .ok (.ireturn, 1) := by decide +kernel
theorem dX4_call_13 : decode cX4_call 13 = .ok (.aload_n 0, 1) := by decide +kernel
theorem dX4_call_14 : decode cX4_call 14 = .ok (.getfield 39, 3) := by decide +kernel
theorem dX4_call_17 : decode cX4_call 17 = .ok (.invokevirtual 140, 3) := by decide +kernel
theorem dX4_call_20 : decode cX4_call 20 = .ok (.ifCond .eq 17, 3) := by decide +kernel
theorem dX4_call_23 : decode cX4_call 23 = .ok (.aload_n 0, 1) := by decide +kernel
theorem dX4_call_24 : decode cX4_call 24 = .ok (.getfield 39, 3) := by decide +kernel
theorem dX4_call_27 : decode cX4_call 27 = .ok (.invokevirtual 144, 3) := by decide +kernel
theorem dX4_call_30 : decode cX4_call 30 = .ok (.iload_n 1, 1) := by decide +kernel
theorem dX4_call_31 : decode cX4_call 31 = .ok (.invokestatic 147, 3) := by decide +kernel
theorem dX4_call_34 : decode cX4_call 34 = .ok (.ifCond .ne 6, 3) := by decide +kernel
theorem dX4_call_37 : decode cX4_call 37 = .ok (.bipush (-4), 2) := by decide +kernel
theorem dX4_call_39 : decode cX4_call 39 = .ok (.ireturn, 1) := by decide +kernel
theorem dX4_call_40 : decode cX4_call 40 = .ok (.aload_n 0, 1) := by decide +kernel
theorem dX4_call_41 : decode cX4_call 41 = .ok (.getfield 39, 3) := by decide +kernel
theorem dX4_call_44 : decode cX4_call 44 = .ok (.getfield 150, 3) := by decide +kernel
theorem dX4_call_47 : decode cX4_call 47 = .ok (.bipush 40, 2) := by decide +kernel
theorem dX4_call_49 : decode cX4_call 49 = .ok (.if_icmp .lt 6, 3) := by decide +kernel
theorem dX4_call_52 : decode cX4_call 52 = .ok (.bipush (-2), 2) := by decide +kernel
theorem dX4_call_54 : decode cX4_call 54 = .ok (.ireturn, 1) := by decide +kernel
theorem dX4_call_55 : decode cX4_call 55 = .ok (.aload_n 0, 1) := by decide +kernel
theorem dX4_call_56 : decode cX4_call 56 = .ok (.getfield 39, 3) := by decide +kernel
theorem dX4_call_59 : decode cX4_call 59 = .ok (.iload_n 1, 1) := by decide +kernel
theorem dX4_call_60 : decode cX4_call 60 = .ok (.invokevirtual 153, 3) := by decide +kernel
theorem dX4_call_63 : decode cX4_call 63 = .ok (.istore_n 2, 1) := by decide +kernel
theorem dX4_call_64 : decode cX4_call 64 = .ok (.aload_n 0, 1) := by decide +kernel
theorem dX4_call_65 : decode cX4_call 65 = .ok (.getfield 39, 3) := by decide +kernel
theorem dX4_call_68 : decode cX4_call 68 = .ok (.getfield 156, 3) := by decide +kernel
theorem dX4_call_71 : decode cX4_call 71 = .ok (.istore_n 3, 1) := by decide +kernel
theorem dX4_call_72 : decode cX4_call 72 = .ok (.aload_n 0, 1) := by decide +kernel
theorem dX4_call_73 : decode cX4_call 73 = .ok (.getfield 39, 3) := by decide +kernel
theorem dX4_call_76 : decode cX4_call 76 = .ok (.iload_n 1, 1) := by decide +kernel
theorem dX4_call_77 : decode cX4_call 77 = .ok (.invokevirtual 159, 3) := by decide +kernel
theorem dX4_call_80 : decode cX4_call 80 = .ok (.aload_n 0, 1) := by decide +kernel
theorem dX4_call_81 : decode cX4_call 81 = .ok (.iload_n 2, 1) := by decide +kernel
theorem dX4_call_82 : decode cX4_call 82 = .ok (.invokevirtual 83, 3) := by decide +kernel
theorem dX4_call_85 : decode cX4_call 85 = .ok (.pop, 1) := by decide +kernel
theorem dX4_call_86 : decode cX4_call 86 = .ok (.aload_n 0, 1) := by decide +kernel
theorem dX4_call_87 : decode cX4_call 87 = .ok (.getfield 39, 3) := by decide +kernel
theorem dX4_call_90 : decode cX4_call 90 = .ok (.getfield 156, 3) := by decide +kernel
theorem dX4_call_93 : decode cX4_call 93 = .ok (.iload_n 3, 1) := by decide +kernel
theorem dX4_call_94 : decode cX4_call 94 = .ok (.isub, 1) := by decide +kernel
theorem dX4_call_95 : decode cX4_call 95 = .ok (.ireturn, 1) := by decide +kernel
theorem dX4_cut_0 : decode cX4_cut 0 = .ok (.aload_n 0, 1) := by decide +kernel
theorem dX4_cut_1 : decode cX4_cut 1 = .ok (.getfield 39, 3) := by decide +kernel
theorem dX4_cut_4 : decode cX4_cut 4 = .ok (.invokevirtual 140, 3) := by decide +kernel
theorem dX4_cut_7 : decode cX4_cut 7 = .ok (.ifCond .ne 6, 3) := by decide +kernel
theorem dX4_cut_10 : decode cX4_cut 10 = .ok (.bipush (-4), 2) := by decide +kernel
theorem dX4_cut_12 : decode cX4_cut 12 = .ok (.ireturn, 1) := by decide +kernel
theorem dX4_cut_13 : decode cX4_cut 13 = .ok (.aload_n 0, 1) := by decide +kernel
theorem dX4_cut_14 : decode cX4_cut 14 = .ok (.getfield 39, 3) := by decide +kernel
theorem dX4_cut_17 : decode cX4_cut 17 = .ok (.getfield 150, 3) := by decide +kernel
theorem dX4_cut_20 : decode cX4_cut 20 = .ok (.bipush 40, 2) := by decide +kernel
theorem dX4_cut_22 : decode cX4_cut 22 = .ok (.if_icmp .lt 6, 3) := by decide +kernel
theorem dX4_cut_25 : decode cX4_cut 25 = .ok (.bipush (-2), 2) := by decide +kernel
theorem dX4_cut_27 : decode cX4_cut 27 = .ok (.ireturn, 1) := by decide +kernel
theorem dX4_cut_28 : decode cX4_cut 28 = .ok (.aload_n 0, 1) := by decide +kernel
theorem dX4_cut_29 : decode cX4_cut 29 = .ok (.getfield 39, 3) := by decide +kernel
theorem dX4_cut_32 : decode cX4_cut 32 = .ok (.bipush (-9), 2) := by decide +kernel
theorem dX4_cut_34 : decode cX4_cut 34 = .ok (.invokevirtual 159, 3) := by decide +kernel
theorem dX4_cut_37 : decode cX4_cut 37 = .ok (.aload_n 0, 1) := by decide +kernel
theorem dX4_cut_38 : decode cX4_cut 38 = .ok (.getfield 39, 3) := by decide +kernel
theorem dX4_cut_41 : decode cX4_cut 41 = .ok (.getfield 162, 3) := by decide +kernel
theorem dX4_cut_44 : decode cX4_cut 44 = .ok (.ireturn, 1) := by decide +kernel
theorem dX4_change_0 : decode cX4_change 0 = .ok (.aload_n 0, 1) := by decide +kernel
theorem dX4_change_1 : decode cX4_change 1 = .ok (.getfield 31, 3) := by decide +kernel
theorem dX4_change_4 : decode cX4_change 4 = .ok (.iload_n 1, 1) := by decide +kernel
theorem dX4_change_5 : decode cX4_change 5 = .ok (.invokevirtual 118, 3) := by decide +kernel
theorem dX4_change_8 : decode cX4_change 8 = .ok (.ifCond .eq 19, 3) := by decide +kernel
theorem dX4_change_11 : decode cX4_change 11 = .ok (.aload_n 0, 1) := by decide +kernel
theorem dX4_change_12 : decode cX4_change 12 = .ok (.getfield 31, 3) := by decide +kernel
theorem dX4_change_15 : decode cX4_change 15 = .ok (.iload_n 2, 1) := by decide +kernel
theorem dX4_change_16 : decode cX4_change 16 = .ok (.invokevirtual 118, 3) := by decide +kernel
theorem dX4_change_19 : decode cX4_change 19 = .ok (.ifCond .eq 8, 3) := by decide +kernel
theorem dX4_change_22 : decode cX4_change 22 = .ok (.iload_n 1, 1) := by decide +kernel
theorem dX4_change_23 : decode cX4_change 23 = .ok (.iload_n 2, 1) := by decide +kernel
theorem dX4_change_24 : decode cX4_change 24 = .ok (.if_icmp .ne 5, 3) := by decide +kernel
theorem dX4_change_27 : decode cX4_change 27 = .ok (.iconst (-1), 1) := by decide +kernel
theorem dX4_change_28 : decode cX4_change 28 = .ok (.ireturn, 1) := by decide +kernel
theorem dX4_change_29 : decode cX4_change 29 = .ok (.aload_n 0, 1) := by decide +kernel
theorem dX4_change_30 : decode cX4_change 30 = .ok (.getfield 39, 3) := by decide +kernel
theorem dX4_change_33 : decode cX4_change 33 = .ok (.getfield 150, 3) := by decide +kernel
theorem dX4_change_36 : decode cX4_change 36 = .ok (.bipush 40, 2) := by decide +kernel
theorem dX4_change_38 : decode cX4_change 38 = .ok (.if_icmp .lt 6, 3) := by decide +kernel
theorem dX4_change_41 : decode cX4_change 41 = .ok (.bipush (-2), 2) := by decide +kernel
theorem dX4_change_43 : decode cX4_change 43 = .ok (.ireturn, 1) := by decide +kernel
theorem dX4_change_44 : decode cX4_change 44 = .ok (.aload_n 0, 1) := by decide +kernel
theorem dX4_change_45 : decode cX4_change 45 = .ok (.getfield 39, 3) := by decide +kernel
theorem dX4_change_48 : decode cX4_change 48 = .ok (.iload_n 1, 1) := by decide +kernel
theorem dX4_change_49 : decode cX4_change 49 = .ok (.iload_n 2, 1) := by decide +kernel
theorem dX4_change_50 : decode cX4_change 50 = .ok (.invokestatic 165, 3) := by decide +kernel
theorem dX4_change_53 : decode cX4_change 53 = .ok (.invokevirtual 159, 3) := by decide +kernel
theorem dX4_change_56 : decode cX4_change 56 = .ok (.aload_n 0, 1) := by decide +kernel
theorem dX4_change_57 : decode cX4_change 57 = .ok (.getfield 39, 3) := by decide +kernel
theorem dX4_change_60 : decode cX4_change 60 = .ok (.invokevirtual 144, 3) := by decide +kernel
theorem dX4_change_63 : decode cX4_change 63 = .ok (.invokestatic 168, 3) := by decide +kernel
theorem dX4_change_66 : decode cX4_change 66 = .ok (.ireturn, 1) := by decide +kernel
theorem dX4_undo_0 : decode cX4_undo 0 = .ok (.aload_n 0, 1) := by decide +kernel
theorem dX4_undo_1 : decode cX4_undo 1 = .ok (.getfield 39, 3) := by decide +kernel
theorem dX4_undo_4 : decode cX4_undo 4 = .ok (.getfield 150, 3) := by decide +kernel
theorem dX4_undo_7 : decode cX4_undo 7 = .ok (.istore_n 2, 1) := by decide +kernel
theorem dX4_undo_8 : decode cX4_undo 8 = .ok (.iload_n 1, 1) := by decide +kernel
theorem dX4_undo_9 : decode cX4_undo 9 = .ok (.ifCond .lt 8, 3) := by decide +kernel
theorem dX4_undo_12 : decode cX4_undo 12 = .ok (.iload_n 1, 1) := by decide +kernel
theorem dX4_undo_13 : decode cX4_undo 13 = .ok (.iload_n 2, 1) := by decide +kernel
theorem dX4_undo_14 : decode cX4_undo 14 = .ok (.if_icmp .le 5, 3) := by decide +kernel
theorem dX4_undo_17 : decode cX4_undo 17 = .ok (.iconst (-1), 1) := by decide +kernel
theorem dX4_undo_18 : decode cX4_undo 18 = .ok (.ireturn, 1) := by decide +kernel
theorem dX4_undo_19 : decode cX4_undo 19 = .ok (.aload_n 0, 1) := by decide +kernel
theorem dX4_undo_20 : decode cX4_undo 20 = .ok (.getfield 39, 3) := by decide +kernel
theorem dX4_undo_23 : decode cX4_undo 23 = .ok (.invokevirtual 111, 3) := by decide +kernel
theorem dX4_undo_26 : decode cX4_undo 26 = .ok (.iconst 0, 1) := by decide +kernel
theorem dX4_undo_27 : decode cX4_undo 27 = .ok (.istore_n 3, 1) := by decide +kernel
theorem dX4_undo_28 : decode cX4_undo 28 = .ok (.iload_n 3, 1) := by decide +kernel
theorem dX4_undo_29 : decode cX4_undo 29 = .ok (.iload_n 1, 1) := by decide +kernel
theorem dX4_undo_30 : decode cX4_undo 30 = .ok (.if_icmp .ge 31, 3) := by decide +kernel
theorem dX4_undo_33 : decode cX4_undo 33 = .ok (.iload_n 3, 1) := by decide +kernel
theorem dX4_undo_34 : decode cX4_undo 34 = .ok (.bipush 40, 2) := by decide +kernel
theorem dX4_undo_36 : decode cX4_undo 36 = .ok (.if_icmp .ge 25, 3) := by decide +kernel
theorem dX4_undo_39 : decode cX4_undo 39 = .ok (.aload_n 0, 1) := by decide +kernel
theorem dX4_undo_40 : decode cX4_undo 40 = .ok (.getfield 39, 3) := by decide +kernel
theorem dX4_undo_43 : decode cX4_undo 43 = .ok (.aload_n 0, 1) := by decide +kernel
theorem dX4_undo_44 : decode cX4_undo 44 = .ok (.getfield 39, 3) := by decide +kernel
theorem dX4_undo_47 : decode cX4_undo 47 = .ok (.getfield 173, 3) := by decide +kernel
theorem dX4_undo_50 : decode cX4_undo 50 = .ok (.iload_n 3, 1) := by decide +kernel
theorem dX4_undo_51 : decode cX4_undo 51 = .ok (.iaload, 1) := by decide +kernel
theorem dX4_undo_52 : decode cX4_undo 52 = .ok (.invokevirtual 159, 3) := by decide +kernel
theorem dX4_undo_55 : decode cX4_undo 55 = .ok (.iinc 3 1, 3) := by decide +kernel
theorem dX4_undo_58 : decode cX4_undo 58 = .ok (.goto (-30), 3) := by decide +kernel
theorem dX4_undo_61 : decode cX4_undo 61 = .ok (.iload_n 2, 1) := by decide +kernel
theorem dX4_undo_62 : decode cX4_undo 62 = .ok (.iload_n 1, 1) := by decide +kernel
theorem dX4_undo_63 : decode cX4_undo 63 = .ok (.isub, 1) := by decide +kernel
theorem dX4_undo_64 : decode cX4_undo 64 = .ok (.ireturn, 1) := by decide +kernel
theorem dX4_keep_0 : decode cX4_keep 0 = .ok (.aload_n 0, 1) := by decide +kernel
theorem dX4_keep_1 : decode cX4_keep 1 = .ok (.getfield 21, 3) := by decide +kernel
theorem dX4_keep_4 : decode cX4_keep 4 = .ok (.iload_n 1, 1) := by decide +kernel
theorem dX4_keep_5 : decode cX4_keep 5 = .ok (.invokevirtual 60, 3) := by decide +kernel
theorem dX4_keep_8 : decode cX4_keep 8 = .ok (.ifCond .ne 5, 3) := by decide +kernel
theorem dX4_keep_11 : decode cX4_keep 11 = .ok (.iconst (-1), 1) := by decide +kernel
theorem dX4_keep_12 : decode cX4_keep 12 = .ok (.ireturn, 1) := by decide +kernel
theorem dX4_keep_13 : decode cX4_keep 13 = .ok (.aload_n 0, 1) := by decide +kernel
theorem dX4_keep_14 : decode cX4_keep 14 = .ok (.getfield 31, 3) := by decide +kernel
theorem dX4_keep_17 : decode cX4_keep 17 = .ok (.getfield 114, 3) := by decide +kernel
theorem dX4_keep_20 : decode cX4_keep 20 = .ok (.ifCond .ne 6, 3) := by decide +kernel
theorem dX4_keep_23 : decode cX4_keep 23 = .ok (.bipush (-4), 2) := by decide +kernel
theorem dX4_keep_25 : decode cX4_keep 25 = .ok (.ireturn, 1) := by decide +kernel
theorem dX4_keep_26 : decode cX4_keep 26 = .ok (.aload_n 0, 1) := by decide +kernel
theorem dX4_keep_27 : decode cX4_keep 27 = .ok (.getfield 21, 3) := by decide +kernel
theorem dX4_keep_30 : decode cX4_keep 30 = .ok (.iload_n 1, 1) := by decide +kernel
theorem dX4_keep_31 : decode cX4_keep 31 = .ok (.aload_n 0, 1) := by decide +kernel
theorem dX4_keep_32 : decode cX4_keep 32 = .ok (.getfield 39, 3) := by decide +kernel
theorem dX4_keep_35 : decode cX4_keep 35 = .ok (.getfield 150, 3) := by decide +kernel
theorem dX4_keep_38 : decode cX4_keep 38 = .ok (.iconst 0, 1) := by decide +kernel
theorem dX4_keep_39 : decode cX4_keep 39 = .ok (.invokevirtual 68, 3) := by decide +kernel
theorem dX4_keep_42 : decode cX4_keep 42 = .ok (.iconst 0, 1) := by decide +kernel
theorem dX4_keep_43 : decode cX4_keep 43 = .ok (.istore_n 2, 1) := by decide +kernel
theorem dX4_keep_44 : decode cX4_keep 44 = .ok (.iload_n 2, 1) := by decide +kernel
theorem dX4_keep_45 : decode cX4_keep 45 = .ok (.aload_n 0, 1) := by decide +kernel
theorem dX4_keep_46 : decode cX4_keep 46 = .ok (.getfield 39, 3) := by decide +kernel
theorem dX4_keep_49 : decode cX4_keep 49 = .ok (.getfield 150, 3) := by decide +kernel
theorem dX4_keep_52 : decode cX4_keep 52 = .ok (.if_icmp .ge 27, 3) := by decide +kernel
theorem dX4_keep_55 : decode cX4_keep 55 = .ok (.aload_n 0, 1) := by decide +kernel
theorem dX4_keep_56 : decode cX4_keep 56 = .ok (.getfield 21, 3) := by decide +kernel
theorem dX4_keep_59 : decode cX4_keep 59 = .ok (.iload_n 1, 1) := by decide +kernel
theorem dX4_keep_60 : decode cX4_keep 60 = .ok (.iload_n 2, 1) := by decide +kernel
theorem dX4_keep_61 : decode cX4_keep 61 = .ok (.aload_n 0, 1) := by decide +kernel
theorem dX4_keep_62 : decode cX4_keep 62 = .ok (.getfield 39, 3) := by decide +kernel
theorem dX4_keep_65 : decode cX4_keep 65 = .ok (.getfield 173, 3) := by decide +kernel
theorem dX4_keep_68 : decode cX4_keep 68 = .ok (.iload_n 2, 1) := by decide +kernel
theorem dX4_keep_69 : decode cX4_keep 69 = .ok (.iaload, 1) := by decide +kernel
theorem dX4_keep_70 : decode cX4_keep 70 = .ok (.invokevirtual 80, 3) := by decide +kernel
theorem dX4_keep_73 : decode cX4_keep 73 = .ok (.iinc 2 1, 3) := by decide +kernel
theorem dX4_keep_76 : decode cX4_keep 76 = .ok (.goto (-32), 3) := by decide +kernel
theorem dX4_keep_79 : decode cX4_keep 79 = .ok (.aload_n 0, 1) := by decide +kernel
theorem dX4_keep_80 : decode cX4_keep 80 = .ok (.getfield 39, 3) := by decide +kernel
theorem dX4_keep_83 : decode cX4_keep 83 = .ok (.getfield 150, 3) := by decide +kernel
theorem dX4_keep_86 : decode cX4_keep 86 = .ok (.ireturn, 1) := by decide +kernel
theorem dX4_on_0 : decode cX4_on 0 = .ok (.aload_n 0, 1) := by decide +kernel
theorem dX4_on_1 : decode cX4_on 1 = .ok (.aload_n 0, 1) := by decide +kernel
theorem dX4_on_2 : decode cX4_on 2 = .ok (.getfield 21, 3) := by decide +kernel
theorem dX4_on_5 : decode cX4_on 5 = .ok (.iload_n 1, 1) := by decide +kernel
theorem dX4_on_6 : decode cX4_on 6 = .ok (.invokevirtual 86, 3) := by decide +kernel
theorem dX4_on_9 : decode cX4_on 9 = .ok (.istore_n 2, 1) := by decide +kernel
theorem dX4_on_10 : decode cX4_on 10 = .ok (.iload_n 2, 1) := by decide +kernel
theorem dX4_on_11 : decode cX4_on 11 = .ok (.ifCond .eq 5, 3) := by decide +kernel
theorem dX4_on_14 : decode cX4_on 14 = .ok (.iload_n 2, 1) := by decide +kernel
theorem dX4_on_15 : decode cX4_on 15 = .ok (.ireturn, 1) := by decide +kernel
theorem dX4_on_16 : decode cX4_on 16 = .ok (.aload_n 0, 1) := by decide +kernel
theorem dX4_on_17 : decode cX4_on 17 = .ok (.getfield 39, 3) := by decide +kernel
theorem dX4_on_20 : decode cX4_on 20 = .ok (.invokevirtual 111, 3) := by decide +kernel
theorem dX4_on_23 : decode cX4_on 23 = .ok (.iconst 0, 1) := by decide +kernel
theorem dX4_on_24 : decode cX4_on 24 = .ok (.istore_n 3, 1) := by decide +kernel
theorem dX4_on_25 : decode cX4_on 25 = .ok (.iload_n 3, 1) := by decide +kernel
theorem dX4_on_26 : decode cX4_on 26 = .ok (.aload_n 0, 1) := by decide +kernel
theorem dX4_on_27 : decode cX4_on 27 = .ok (.getfield 21, 3) := by decide +kernel
theorem dX4_on_30 : decode cX4_on 30 = .ok (.iload_n 1, 1) := by decide +kernel
theorem dX4_on_31 : decode cX4_on 31 = .ok (.invokevirtual 105, 3) := by decide +kernel
theorem dX4_on_34 : decode cX4_on 34 = .ok (.if_icmp .ge 25, 3) := by decide +kernel
theorem dX4_on_37 : decode cX4_on 37 = .ok (.aload_n 0, 1) := by decide +kernel
theorem dX4_on_38 : decode cX4_on 38 = .ok (.getfield 39, 3) := by decide +kernel
theorem dX4_on_41 : decode cX4_on 41 = .ok (.aload_n 0, 1) := by decide +kernel
theorem dX4_on_42 : decode cX4_on 42 = .ok (.getfield 21, 3) := by decide +kernel
theorem dX4_on_45 : decode cX4_on 45 = .ok (.iload_n 1, 1) := by decide +kernel
theorem dX4_on_46 : decode cX4_on 46 = .ok (.iload_n 3, 1) := by decide +kernel
theorem dX4_on_47 : decode cX4_on 47 = .ok (.invokevirtual 76, 3) := by decide +kernel
theorem dX4_on_50 : decode cX4_on 50 = .ok (.invokevirtual 159, 3) := by decide +kernel
theorem dX4_on_53 : decode cX4_on 53 = .ok (.iinc 3 1, 3) := by decide +kernel
theorem dX4_on_56 : decode cX4_on 56 = .ok (.goto (-31), 3) := by decide +kernel
theorem dX4_on_59 : decode cX4_on 59 = .ok (.aload_n 0, 1) := by decide +kernel
theorem dX4_on_60 : decode cX4_on 60 = .ok (.getfield 39, 3) := by decide +kernel
theorem dX4_on_63 : decode cX4_on 63 = .ok (.getfield 150, 3) := by decide +kernel
theorem dX4_on_66 : decode cX4_on 66 = .ok (.ireturn, 1) := by decide +kernel
theorem dX4_can_0 : decode cX4_can 0 = .ok (.aload_n 0, 1) := by decide +kernel
theorem dX4_can_1 : decode cX4_can 1 = .ok (.getfield 39, 3) := by decide +kernel
theorem dX4_can_4 : decode cX4_can 4 = .ok (.invokevirtual 144, 3) := by decide +kernel
theorem dX4_can_7 : decode cX4_can 7 = .ok (.ireturn, 1) := by decide +kernel
theorem dX4_play_0 : decode cX4_play 0 = .ok (.aload_n 0, 1) := by decide +kernel
theorem dX4_play_1 : decode cX4_play 1 = .ok (.getfield 14, 3) := by decide +kernel
theorem dX4_play_4 : decode cX4_play 4 = .ok (.iload_n 1, 1) := by decide +kernel
theorem dX4_play_5 : decode cX4_play 5 = .ok (.invokevirtual 60, 3) := by decide +kernel
theorem dX4_play_8 : decode cX4_play 8 = .ok (.ifCond .ne 5, 3) := by decide +kernel
theorem dX4_play_11 : decode cX4_play 11 = .ok (.iconst (-1), 1) := by decide +kernel
theorem dX4_play_12 : decode cX4_play 12 = .ok (.ireturn, 1) := by decide +kernel
theorem dX4_play_13 : decode cX4_play 13 = .ok (.aload_n 0, 1) := by decide +kernel
theorem dX4_play_14 : decode cX4_play 14 = .ok (.getfield 31, 3) := by decide +kernel
theorem dX4_play_17 : decode cX4_play 17 = .ok (.getfield 114, 3) := by decide +kernel
theorem dX4_play_20 : decode cX4_play 20 = .ok (.ifCond .ne 6, 3) := by decide +kernel
theorem dX4_play_23 : decode cX4_play 23 = .ok (.bipush (-4), 2) := by decide +kernel
theorem dX4_play_25 : decode cX4_play 25 = .ok (.ireturn, 1) := by decide +kernel
theorem dX4_play_26 : decode cX4_play 26 = .ok (.aload_n 0, 1) := by decide +kernel
theorem dX4_play_27 : decode cX4_play 27 = .ok (.getfield 14, 3) := by decide +kernel
theorem dX4_play_30 : decode cX4_play 30 = .ok (.iload_n 1, 1) := by decide +kernel
theorem dX4_play_31 : decode cX4_play 31 = .ok (.invokevirtual 94, 3) := by decide +kernel
theorem dX4_play_34 : decode cX4_play 34 = .ok (.ifCond .ne 9, 3) := by decide +kernel
theorem dX4_play_37 : decode cX4_play 37 = .ok (.aload_n 0, 1) := by decide +kernel
theorem dX4_play_38 : decode cX4_play 38 = .ok (.iconst 1, 1) := by decide +kernel
theorem dX4_play_39 : decode cX4_play 39 = .ok (.invokevirtual 64, 3) := by decide +kernel
theorem dX4_play_42 : decode cX4_play 42 = .ok (.ireturn, 1) := by decide +kernel
theorem dX4_play_43 : decode cX4_play 43 = .ok (.aload_n 0, 1) := by decide +kernel
theorem dX4_play_44 : decode cX4_play 44 = .ok (.getfield 14, 3) := by decide +kernel
theorem dX4_play_47 : decode cX4_play 47 = .ok (.iload_n 1, 1) := by decide +kernel
theorem dX4_play_48 : decode cX4_play 48 = .ok (.invokevirtual 105, 3) := by decide +kernel
theorem dX4_play_51 : decode cX4_play 51 = .ok (.aload_n 0, 1) := by decide +kernel
theorem dX4_play_52 : decode cX4_play 52 = .ok (.getfield 39, 3) := by decide +kernel
theorem dX4_play_55 : decode cX4_play 55 = .ok (.invokevirtual 140, 3) := by decide +kernel
theorem dX4_play_58 : decode cX4_play 58 = .ok (.if_icmp .le 9, 3) := by decide +kernel
theorem dX4_play_61 : decode cX4_play 61 = .ok (.aload_n 0, 1) := by decide +kernel
theorem dX4_play_62 : decode cX4_play 62 = .ok (.iconst 5, 1) := by decide +kernel
theorem dX4_play_63 : decode cX4_play 63 = .ok (.invokevirtual 64, 3) := by decide +kernel
theorem dX4_play_66 : decode cX4_play 66 = .ok (.ireturn, 1) := by decide +kernel
theorem dX4_play_67 : decode cX4_play 67 = .ok (.aload_n 0, 1) := by decide +kernel
theorem dX4_play_68 : decode cX4_play 68 = .ok (.iload_n 1, 1) := by decide +kernel
theorem dX4_play_69 : decode cX4_play 69 = .ok (.invokevirtual 176, 3) := by decide +kernel
theorem dX4_play_72 : decode cX4_play 72 = .ok (.ifCond .ne 9, 3) := by decide +kernel
theorem dX4_play_75 : decode cX4_play 75 = .ok (.aload_n 0, 1) := by decide +kernel
theorem dX4_play_76 : decode cX4_play 76 = .ok (.iconst 3, 1) := by decide +kernel
theorem dX4_play_77 : decode cX4_play 77 = .ok (.invokevirtual 64, 3) := by decide +kernel
theorem dX4_play_80 : decode cX4_play 80 = .ok (.ireturn, 1) := by decide +kernel
theorem dX4_play_81 : decode cX4_play 81 = .ok (.aload_n 0, 1) := by decide +kernel
theorem dX4_play_82 : decode cX4_play 82 = .ok (.getfield 48, 3) := by decide +kernel
theorem dX4_play_85 : decode cX4_play 85 = .ok (.aload_n 0, 1) := by decide +kernel
theorem dX4_play_86 : decode cX4_play 86 = .ok (.getfield 14, 3) := by decide +kernel
theorem dX4_play_89 : decode cX4_play 89 = .ok (.iload_n 1, 1) := by decide +kernel
theorem dX4_play_90 : decode cX4_play 90 = .ok (.invokevirtual 179, 3) := by decide +kernel
theorem dX4_play_93 : decode cX4_play 93 = .ok (.istore_n 2, 1) := by decide +kernel
theorem dX4_play_94 : decode cX4_play 94 = .ok (.aload_n 0, 1) := by decide +kernel
theorem dX4_play_95 : decode cX4_play 95 = .ok (.aload_n 0, 1) := by decide +kernel
theorem dX4_play_96 : decode cX4_play 96 = .ok (.getfield 48, 3) := by decide +kernel
theorem dX4_play_99 : decode cX4_play 99 = .ok (.getfield 182, 3) := by decide +kernel
theorem dX4_play_102 : decode cX4_play 102 = .ok (.invokevirtual 83, 3) := by decide +kernel
theorem dX4_play_105 : decode cX4_play 105 = .ok (.pop, 1) := by decide +kernel
theorem dX4_play_106 : decode cX4_play 106 = .ok (.iload_n 2, 1) := by decide +kernel
theorem dX4_play_107 : decode cX4_play 107 = .ok (.ireturn, 1) := by decide +kernel
theorem dX4_best_0 : decode cX4_best 0 = .ok (.aload_n 0, 1) := by decide +kernel
theorem dX4_best_1 : decode cX4_best 1 = .ok (.getfield 14, 3) := by decide +kernel
theorem dX4_best_4 : decode cX4_best 4 = .ok (.iload_n 1, 1) := by decide +kernel
theorem dX4_best_5 : decode cX4_best 5 = .ok (.invokevirtual 60, 3) := by decide +kernel
theorem dX4_best_8 : decode cX4_best 8 = .ok (.ifCond .ne 5, 3) := by decide +kernel
theorem dX4_best_11 : decode cX4_best 11 = .ok (.iconst (-1), 1) := by decide +kernel
theorem dX4_best_12 : decode cX4_best 12 = .ok (.ireturn, 1) := by decide +kernel
theorem dX4_best_13 : decode cX4_best 13 = .ok (.aload_n 0, 1) := by decide +kernel
theorem dX4_best_14 : decode cX4_best 14 = .ok (.getfield 31, 3) := by decide +kernel
theorem dX4_best_17 : decode cX4_best 17 = .ok (.getfield 114, 3) := by decide +kernel
theorem dX4_best_20 : decode cX4_best 20 = .ok (.ifCond .ne 6, 3) := by decide +kernel
theorem dX4_best_23 : decode cX4_best 23 = .ok (.bipush (-4), 2) := by decide +kernel
theorem dX4_best_25 : decode cX4_best 25 = .ok (.ireturn, 1) := by decide +kernel
theorem dX4_best_26 : decode cX4_best 26 = .ok (.aload_n 0, 1) := by decide +kernel
theorem dX4_best_27 : decode cX4_best 27 = .ok (.getfield 48, 3) := by decide +kernel
theorem dX4_best_30 : decode cX4_best 30 = .ok (.aload_n 0, 1) := by decide +kernel
theorem dX4_best_31 : decode cX4_best 31 = .ok (.getfield 39, 3) := by decide +kernel
theorem dX4_best_34 : decode cX4_best 34 = .ok (.invokevirtual 185, 3) := by decide +kernel
theorem dX4_best_37 : decode cX4_best 37 = .ok (.iconst 0, 1) := by decide +kernel
theorem dX4_best_38 : decode cX4_best 38 = .ok (.invokevirtual 188, 3) := by decide +kernel
theorem dX4_best_41 : decode cX4_best 41 = .ok (.istore_n 2, 1) := by decide +kernel
theorem dX4_best_42 : decode cX4_best 42 = .ok (.aload_n 0, 1) := by decide +kernel
theorem dX4_best_43 : decode cX4_best 43 = .ok (.getfield 48, 3) := by decide +kernel
theorem dX4_best_46 : decode cX4_best 46 = .ok (.invokevirtual 191, 3) := by decide +kernel
theorem dX4_best_49 : decode cX4_best 49 = .ok (.aload_n 0, 1) := by decide +kernel
theorem dX4_best_50 : decode cX4_best 50 = .ok (.getfield 39, 3) := by decide +kernel
theorem dX4_best_53 : decode cX4_best 53 = .ok (.invokevirtual 140, 3) := by decide +kernel
theorem dX4_best_56 : decode cX4_best 56 = .ok (.istore_n 3, 1) := by decide +kernel
theorem dX4_best_57 : decode cX4_best 57 = .ok (.aload_n 0, 1) := by decide +kernel
theorem dX4_best_58 : decode cX4_best 58 = .ok (.getfield 14, 3) := by decide +kernel
theorem dX4_best_61 : decode cX4_best 61 = .ok (.iload_n 1, 1) := by decide +kernel
theorem dX4_best_62 : decode cX4_best 62 = .ok (.iload_n 3, 1) := by decide +kernel
theorem dX4_best_63 : decode cX4_best 63 = .ok (.bipush (-9), 2) := by decide +kernel
theorem dX4_best_65 : decode cX4_best 65 = .ok (.invokevirtual 68, 3) := by decide +kernel
theorem dX4_best_68 : decode cX4_best 68 = .ok (.iconst 0, 1) := by decide +kernel
theorem dX4_best_69 : decode cX4_best 69 = .ok (.istore 4, 2) := by decide +kernel
theorem dX4_best_71 : decode cX4_best 71 = .ok (.iload 4, 2) := by decide +kernel
theorem dX4_best_73 : decode cX4_best 73 = .ok (.iload_n 3, 1) := by decide +kernel
theorem dX4_best_74 : decode cX4_best 74 = .ok (.if_icmp .ge 36, 3) := by decide +kernel
theorem dX4_best_77 : decode cX4_best 77 = .ok (.aload_n 0, 1) := by decide +kernel
theorem dX4_best_78 : decode cX4_best 78 = .ok (.getfield 14, 3) := by decide +kernel
theorem dX4_best_81 : decode cX4_best 81 = .ok (.iload_n 1, 1) := by decide +kernel
theorem dX4_best_82 : decode cX4_best 82 = .ok (.iload 4, 2) := by decide +kernel
theorem dX4_best_84 : decode cX4_best 84 = .ok (.aload_n 0, 1) := by decide +kernel
theorem dX4_best_85 : decode cX4_best 85 = .ok (.getfield 48, 3) := by decide +kernel
theorem dX4_best_88 : decode cX4_best 88 = .ok (.aload_n 0, 1) := by decide +kernel
theorem dX4_best_89 : decode cX4_best 89 = .ok (.getfield 39, 3) := by decide +kernel
theorem dX4_best_92 : decode cX4_best 92 = .ok (.getfield 162, 3) := by decide +kernel
theorem dX4_best_95 : decode cX4_best 95 = .ok (.iload 4, 2) := by decide +kernel
theorem dX4_best_97 : decode cX4_best 97 = .ok (.iadd, 1) := by decide +kernel
theorem dX4_best_98 : decode cX4_best 98 = .ok (.invokevirtual 194, 3) := by decide +kernel
theorem dX4_best_101 : decode cX4_best 101 = .ok (.invokevirtual 80, 3) := by decide +kernel
theorem dX4_best_104 : decode cX4_best 104 = .ok (.iinc 4 1, 3) := by decide +kernel
theorem dX4_best_107 : decode cX4_best 107 = .ok (.goto (-36), 3) := by decide +kernel
theorem dX4_best_110 : decode cX4_best 110 = .ok (.aload_n 0, 1) := by decide +kernel
theorem dX4_best_111 : decode cX4_best 111 = .ok (.aload_n 0, 1) := by decide +kernel
theorem dX4_best_112 : decode cX4_best 112 = .ok (.getfield 48, 3) := by decide +kernel
theorem dX4_best_115 : decode cX4_best 115 = .ok (.getfield 197, 3) := by decide +kernel
theorem dX4_best_118 : decode cX4_best 118 = .ok (.invokevirtual 83, 3) := by decide +kernel
theorem dX4_best_121 : decode cX4_best 121 = .ok (.pop, 1) := by decide +kernel
theorem dX4_best_122 : decode cX4_best 122 = .ok (.iload_n 2, 1) := by decide +kernel
theorem dX4_best_123 : decode cX4_best 123 = .ok (.ireturn, 1) := by decide +kernel
theorem dX4_least_0 : decode cX4_least 0 = .ok (.aload_n 0, 1) := by decide +kernel
theorem dX4_least_1 : decode cX4_least 1 = .ok (.getfield 31, 3) := by decide +kernel
theorem dX4_least_4 : decode cX4_least 4 = .ok (.getfield 114, 3) := by decide +kernel
theorem dX4_least_7 : decode cX4_least 7 = .ok (.ifCond .ne 6, 3) := by decide +kernel
theorem dX4_least_10 : decode cX4_least 10 = .ok (.bipush (-4), 2) := by decide +kernel
theorem dX4_least_12 : decode cX4_least 12 = .ok (.ireturn, 1) := by decide +kernel
theorem dX4_least_13 : decode cX4_least 13 = .ok (.aload_n 0, 1) := by decide +kernel
theorem dX4_least_14 : decode cX4_least 14 = .ok (.getfield 39, 3) := by decide +kernel
theorem dX4_least_17 : decode cX4_least 17 = .ok (.invokevirtual 144, 3) := by decide +kernel
theorem dX4_least_20 : decode cX4_least 20 = .ok (.invokestatic 168, 3) := by decide +kernel
theorem dX4_least_23 : decode cX4_least 23 = .ok (.aload_n 0, 1) := by decide +kernel
theorem dX4_least_24 : decode cX4_least 24 = .ok (.getfield 39, 3) := by decide +kernel
theorem dX4_least_27 : decode cX4_least 27 = .ok (.invokevirtual 140, 3) := by decide +kernel
theorem dX4_least_30 : decode cX4_least 30 = .ok (.if_icmp .ge 6, 3) := by decide +kernel
theorem dX4_least_33 : decode cX4_least 33 = .ok (.bipush (-9), 2) := by decide +kernel
theorem dX4_least_35 : decode cX4_least 35 = .ok (.ireturn, 1) := by decide +kernel
theorem dX4_least_36 : decode cX4_least 36 = .ok (.aload_n 0, 1) := by decide +kernel
theorem dX4_least_37 : decode cX4_least 37 = .ok (.getfield 48, 3) := by decide +kernel
theorem dX4_least_40 : decode cX4_least 40 = .ok (.invokevirtual 200, 3) := by decide +kernel
theorem dX4_least_43 : decode cX4_least 43 = .ok (.istore_n 1, 1) := by decide +kernel
theorem dX4_least_44 : decode cX4_least 44 = .ok (.aload_n 0, 1) := by decide +kernel
theorem dX4_least_45 : decode cX4_least 45 = .ok (.aload_n 0, 1) := by decide +kernel
theorem dX4_least_46 : decode cX4_least 46 = .ok (.getfield 48, 3) := by decide +kernel
theorem dX4_least_49 : decode cX4_least 49 = .ok (.getfield 203, 3) := by decide +kernel
theorem dX4_least_52 : decode cX4_least 52 = .ok (.invokevirtual 83, 3) := by decide +kernel
theorem dX4_least_55 : decode cX4_least 55 = .ok (.pop, 1) := by decide +kernel
theorem dX4_least_56 : decode cX4_least 56 = .ok (.iload_n 1, 1) := by decide +kernel
theorem dX4_least_57 : decode cX4_least 57 = .ok (.ireturn, 1) := by decide +kernel
theorem dX4_ways_0 : decode cX4_ways 0 = .ok (.iload_n 1, 1) := by decide +kernel
theorem dX4_ways_1 : decode cX4_ways 1 = .ok (.ifCond .lt 9, 3) := by decide +kernel
theorem dX4_ways_4 : decode cX4_ways 4 = .ok (.iload_n 1, 1) := by decide +kernel
theorem dX4_ways_5 : decode cX4_ways 5 = .ok (.bipush 6, 2) := by decide +kernel
theorem dX4_ways_7 : decode cX4_ways 7 = .ok (.if_icmp .le 5, 3) := by decide +kernel
theorem dX4_ways_10 : decode cX4_ways 10 = .ok (.iconst (-1), 1) := by decide +kernel
theorem dX4_ways_11 : decode cX4_ways 11 = .ok (.ireturn, 1) := by decide +kernel
theorem dX4_ways_12 : decode cX4_ways 12 = .ok (.aload_n 0, 1) := by decide +kernel
theorem dX4_ways_13 : decode cX4_ways 13 = .ok (.getfield 31, 3) := by decide +kernel
theorem dX4_ways_16 : decode cX4_ways 16 = .ok (.getfield 114, 3) := by decide +kernel
theorem dX4_ways_19 : decode cX4_ways 19 = .ok (.ifCond .ne 6, 3) := by decide +kernel
theorem dX4_ways_22 : decode cX4_ways 22 = .ok (.bipush (-4), 2) := by decide +kernel
theorem dX4_ways_24 : decode cX4_ways 24 = .ok (.ireturn, 1) := by decide +kernel
theorem dX4_ways_25 : decode cX4_ways 25 = .ok (.aload_n 0, 1) := by decide +kernel
theorem dX4_ways_26 : decode cX4_ways 26 = .ok (.getfield 48, 3) := by decide +kernel
theorem dX4_ways_29 : decode cX4_ways 29 = .ok (.iload_n 1, 1) := by decide +kernel
theorem dX4_ways_30 : decode cX4_ways 30 = .ok (.invokevirtual 206, 3) := by decide +kernel
theorem dX4_ways_33 : decode cX4_ways 33 = .ok (.aload_n 0, 1) := by decide +kernel
theorem dX4_ways_34 : decode cX4_ways 34 = .ok (.aload_n 0, 1) := by decide +kernel
theorem dX4_ways_35 : decode cX4_ways 35 = .ok (.getfield 48, 3) := by decide +kernel
theorem dX4_ways_38 : decode cX4_ways 38 = .ok (.getfield 209, 3) := by decide +kernel
theorem dX4_ways_41 : decode cX4_ways 41 = .ok (.lconst 1, 1) := by decide +kernel
theorem dX4_ways_42 : decode cX4_ways 42 = .ok (.invokevirtual 212, 3) := by decide +kernel
theorem dX4_ways_45 : decode cX4_ways 45 = .ok (.aload_n 0, 1) := by decide +kernel
theorem dX4_ways_46 : decode cX4_ways 46 = .ok (.aload_n 0, 1) := by decide +kernel
theorem dX4_ways_47 : decode cX4_ways 47 = .ok (.getfield 48, 3) := by decide +kernel
theorem dX4_ways_50 : decode cX4_ways 50 = .ok (.getfield 216, 3) := by decide +kernel
theorem dX4_ways_53 : decode cX4_ways 53 = .ok (.invokevirtual 83, 3) := by decide +kernel
theorem dX4_ways_56 : decode cX4_ways 56 = .ok (.ireturn, 1) := by decide +kernel
theorem dX4_seats_0 : decode cX4_seats 0 = .ok (.aload_n 0, 1) := by decide +kernel
theorem dX4_seats_1 : decode cX4_seats 1 = .ok (.getfield 31, 3) := by decide +kernel
theorem dX4_seats_4 : decode cX4_seats 4 = .ok (.getfield 114, 3) := by decide +kernel
theorem dX4_seats_7 : decode cX4_seats 7 = .ok (.ifCond .ne 6, 3) := by decide +kernel
theorem dX4_seats_10 : decode cX4_seats 10 = .ok (.bipush (-4), 2) := by decide +kernel
theorem dX4_seats_12 : decode cX4_seats 12 = .ok (.ireturn, 1) := by decide +kernel
theorem dX4_seats_13 : decode cX4_seats 13 = .ok (.aload_n 0, 1) := by decide +kernel
theorem dX4_seats_14 : decode cX4_seats 14 = .ok (.getfield 39, 3) := by decide +kernel
theorem dX4_seats_17 : decode cX4_seats 17 = .ok (.invokevirtual 185, 3) := by decide +kernel
theorem dX4_seats_20 : decode cX4_seats 20 = .ok (.istore_n 1, 1) := by decide +kernel
theorem dX4_seats_21 : decode cX4_seats 21 = .ok (.aload_n 0, 1) := by decide +kernel
theorem dX4_seats_22 : decode cX4_seats 22 = .ok (.getfield 48, 3) := by decide +kernel
theorem dX4_seats_25 : decode cX4_seats 25 = .ok (.iload_n 1, 1) := by decide +kernel
theorem dX4_seats_26 : decode cX4_seats 26 = .ok (.iconst 0, 1) := by decide +kernel
theorem dX4_seats_27 : decode cX4_seats 27 = .ok (.invokevirtual 188, 3) := by decide +kernel
theorem dX4_seats_30 : decode cX4_seats 30 = .ok (.istore_n 2, 1) := by decide +kernel
theorem dX4_seats_31 : decode cX4_seats 31 = .ok (.bipush (-9), 2) := by decide +kernel
theorem dX4_seats_33 : decode cX4_seats 33 = .ok (.istore_n 3, 1) := by decide +kernel
theorem dX4_seats_34 : decode cX4_seats 34 = .ok (.iconst 0, 1) := by decide +kernel
theorem dX4_seats_35 : decode cX4_seats 35 = .ok (.istore 4, 2) := by decide +kernel
theorem dX4_seats_37 : decode cX4_seats 37 = .ok (.iload 4, 2) := by decide +kernel
theorem dX4_seats_39 : decode cX4_seats 39 = .ok (.aload_n 0, 1) := by decide +kernel
theorem dX4_seats_40 : decode cX4_seats 40 = .ok (.getfield 31, 3) := by decide +kernel
theorem dX4_seats_43 : decode cX4_seats 43 = .ok (.getfield 114, 3) := by decide +kernel
theorem dX4_seats_46 : decode cX4_seats 46 = .ok (.if_icmp .ge 89, 3) := by decide +kernel
theorem dX4_seats_49 : decode cX4_seats 49 = .ok (.iload 4, 2) := by decide +kernel
theorem dX4_seats_51 : decode cX4_seats 51 = .ok (.iconst 1, 1) := by decide +kernel
theorem dX4_seats_52 : decode cX4_seats 52 = .ok (.iadd, 1) := by decide +kernel
theorem dX4_seats_53 : decode cX4_seats 53 = .ok (.istore 5, 2) := by decide +kernel
theorem dX4_seats_55 : decode cX4_seats 55 = .ok (.iload 5, 2) := by decide +kernel
theorem dX4_seats_57 : decode cX4_seats 57 = .ok (.aload_n 0, 1) := by decide +kernel
theorem dX4_seats_58 : decode cX4_seats 58 = .ok (.getfield 31, 3) := by decide +kernel
theorem dX4_seats_61 : decode cX4_seats 61 = .ok (.getfield 114, 3) := by decide +kernel
theorem dX4_seats_64 : decode cX4_seats 64 = .ok (.if_icmp .ge 65, 3) := by decide +kernel
theorem dX4_seats_67 : decode cX4_seats 67 = .ok (.aload_n 0, 1) := by decide +kernel
theorem dX4_seats_68 : decode cX4_seats 68 = .ok (.getfield 39, 3) := by decide +kernel
theorem dX4_seats_71 : decode cX4_seats 71 = .ok (.iload 4, 2) := by decide +kernel
theorem dX4_seats_73 : decode cX4_seats 73 = .ok (.iload 5, 2) := by decide +kernel
theorem dX4_seats_75 : decode cX4_seats 75 = .ok (.invokevirtual 219, 3) := by decide +kernel
theorem dX4_seats_78 : decode cX4_seats 78 = .ok (.istore 6, 2) := by decide +kernel
theorem dX4_seats_80 : decode cX4_seats 80 = .ok (.iload 6, 2) := by decide +kernel
theorem dX4_seats_82 : decode cX4_seats 82 = .ok (.iload_n 1, 1) := by decide +kernel
theorem dX4_seats_83 : decode cX4_seats 83 = .ok (.iconst (-1), 1) := by decide +kernel
theorem dX4_seats_84 : decode cX4_seats 84 = .ok (.ixor, 1) := by decide +kernel
theorem dX4_seats_85 : decode cX4_seats 85 = .ok (.iand, 1) := by decide +kernel
theorem dX4_seats_86 : decode cX4_seats 86 = .ok (.ifCond .ne 7, 3) := by decide +kernel
theorem dX4_seats_89 : decode cX4_seats 89 = .ok (.iconst 0, 1) := by decide +kernel
theorem dX4_seats_90 : decode cX4_seats 90 = .ok (.goto 13, 3) := by decide +kernel
theorem dX4_seats_93 : decode cX4_seats 93 = .ok (.aload_n 0, 1) := by decide +kernel
theorem dX4_seats_94 : decode cX4_seats 94 = .ok (.getfield 48, 3) := by decide +kernel
theorem dX4_seats_97 : decode cX4_seats 97 = .ok (.iload 6, 2) := by decide +kernel
theorem dX4_seats_99 : decode cX4_seats 99 = .ok (.iload_n 2, 1) := by decide +kernel
theorem dX4_seats_100 : decode cX4_seats 100 = .ok (.invokevirtual 188, 3) := by decide +kernel
theorem dX4_seats_103 : decode cX4_seats 103 = .ok (.istore 7, 2) := by decide +kernel
theorem dX4_seats_105 : decode cX4_seats 105 = .ok (.iload 7, 2) := by decide +kernel
theorem dX4_seats_107 : decode cX4_seats 107 = .ok (.iload_n 2, 1) := by decide +kernel
theorem dX4_seats_108 : decode cX4_seats 108 = .ok (.if_icmp .le 15, 3) := by decide +kernel
theorem dX4_seats_111 : decode cX4_seats 111 = .ok (.iload 7, 2) := by decide +kernel
theorem dX4_seats_113 : decode cX4_seats 113 = .ok (.istore_n 2, 1) := by decide +kernel
theorem dX4_seats_114 : decode cX4_seats 114 = .ok (.bipush 10, 2) := by decide +kernel
theorem dX4_seats_116 : decode cX4_seats 116 = .ok (.iload 4, 2) := by decide +kernel
theorem dX4_seats_118 : decode cX4_seats 118 = .ok (.imul, 1) := by decide +kernel
theorem dX4_seats_119 : decode cX4_seats 119 = .ok (.iload 5, 2) := by decide +kernel
theorem dX4_seats_121 : decode cX4_seats 121 = .ok (.iadd, 1) := by decide +kernel
theorem dX4_seats_122 : decode cX4_seats 122 = .ok (.istore_n 3, 1) := by decide +kernel
theorem dX4_seats_123 : decode cX4_seats 123 = .ok (.iinc 5 1, 3) := by decide +kernel
theorem dX4_seats_126 : decode cX4_seats 126 = .ok (.goto (-71), 3) := by decide +kernel
theorem dX4_seats_129 : decode cX4_seats 129 = .ok (.iinc 4 1, 3) := by decide +kernel
theorem dX4_seats_132 : decode cX4_seats 132 = .ok (.goto (-95), 3) := by decide +kernel
theorem dX4_seats_135 : decode cX4_seats 135 = .ok (.iload_n 3, 1) := by decide +kernel
theorem dX4_seats_136 : decode cX4_seats 136 = .ok (.bipush (-9), 2) := by decide +kernel
theorem dX4_seats_138 : decode cX4_seats 138 = .ok (.if_icmp .eq 9, 3) := by decide +kernel
theorem dX4_seats_141 : decode cX4_seats 141 = .ok (.aload_n 0, 1) := by decide +kernel
theorem dX4_seats_142 : decode cX4_seats 142 = .ok (.iload_n 2, 1) := by decide +kernel
theorem dX4_seats_143 : decode cX4_seats 143 = .ok (.invokevirtual 83, 3) := by decide +kernel
theorem dX4_seats_146 : decode cX4_seats 146 = .ok (.pop, 1) := by decide +kernel
theorem dX4_seats_147 : decode cX4_seats 147 = .ok (.iload_n 3, 1) := by decide +kernel
theorem dX4_seats_148 : decode cX4_seats 148 = .ok (.ireturn, 1) := by decide +kernel
theorem dX4_beside_0 : decode cX4_beside 0 = .ok (.aload_n 0, 1) := by decide +kernel
theorem dX4_beside_1 : decode cX4_beside 1 = .ok (.getfield 31, 3) := by decide +kernel
theorem dX4_beside_4 : decode cX4_beside 4 = .ok (.getfield 114, 3) := by decide +kernel
theorem dX4_beside_7 : decode cX4_beside 7 = .ok (.ifCond .ne 6, 3) := by decide +kernel
theorem dX4_beside_10 : decode cX4_beside 10 = .ok (.bipush (-4), 2) := by decide +kernel
theorem dX4_beside_12 : decode cX4_beside 12 = .ok (.ireturn, 1) := by decide +kernel
theorem dX4_beside_13 : decode cX4_beside 13 = .ok (.aload_n 0, 1) := by decide +kernel
theorem dX4_beside_14 : decode cX4_beside 14 = .ok (.getfield 39, 3) := by decide +kernel
theorem dX4_beside_17 : decode cX4_beside 17 = .ok (.invokevirtual 222, 3) := by decide +kernel
theorem dX4_beside_20 : decode cX4_beside 20 = .ok (.istore_n 1, 1) := by decide +kernel
theorem dX4_beside_21 : decode cX4_beside 21 = .ok (.iconst 0, 1) := by decide +kernel
theorem dX4_beside_22 : decode cX4_beside 22 = .ok (.istore_n 2, 1) := by decide +kernel
theorem dX4_beside_23 : decode cX4_beside 23 = .ok (.iconst 0, 1) := by decide +kernel
theorem dX4_beside_24 : decode cX4_beside 24 = .ok (.istore_n 3, 1) := by decide +kernel
theorem dX4_beside_25 : decode cX4_beside 25 = .ok (.iconst 0, 1) := by decide +kernel
theorem dX4_beside_26 : decode cX4_beside 26 = .ok (.istore 4, 2) := by decide +kernel
theorem dX4_beside_28 : decode cX4_beside 28 = .ok (.iload 4, 2) := by decide +kernel
theorem dX4_beside_30 : decode cX4_beside 30 = .ok (.bipush 9, 2) := by decide +kernel
theorem dX4_beside_32 : decode cX4_beside 32 = .ok (.if_icmp .gt 32, 3) := by decide +kernel
theorem dX4_beside_35 : decode cX4_beside 35 = .ok (.iload_n 1, 1) := by decide +kernel
theorem dX4_beside_36 : decode cX4_beside 36 = .ok (.iload 4, 2) := by decide +kernel
theorem dX4_beside_38 : decode cX4_beside 38 = .ok (.invokestatic 147, 3) := by decide +kernel
theorem dX4_beside_41 : decode cX4_beside 41 = .ok (.ifCond .eq 9, 3) := by decide +kernel
theorem dX4_beside_44 : decode cX4_beside 44 = .ok (.iload_n 3, 1) := by decide +kernel
theorem dX4_beside_45 : decode cX4_beside 45 = .ok (.iconst 1, 1) := by decide +kernel
theorem dX4_beside_46 : decode cX4_beside 46 = .ok (.iadd, 1) := by decide +kernel
theorem dX4_beside_47 : decode cX4_beside 47 = .ok (.goto 4, 3) := by decide +kernel
theorem dX4_beside_50 : decode cX4_beside 50 = .ok (.iconst 0, 1) := by decide +kernel
theorem dX4_beside_51 : decode cX4_beside 51 = .ok (.istore_n 3, 1) := by decide +kernel
theorem dX4_beside_52 : decode cX4_beside 52 = .ok (.iload_n 2, 1) := by decide +kernel
theorem dX4_beside_53 : decode cX4_beside 53 = .ok (.iload_n 3, 1) := by decide +kernel
theorem dX4_beside_54 : decode cX4_beside 54 = .ok (.invokestatic 225, 3) := by decide +kernel
theorem dX4_beside_57 : decode cX4_beside 57 = .ok (.istore_n 2, 1) := by decide +kernel
theorem dX4_beside_58 : decode cX4_beside 58 = .ok (.iinc 4 1, 3) := by decide +kernel
theorem dX4_beside_61 : decode cX4_beside 61 = .ok (.goto (-33), 3) := by decide +kernel
theorem dX4_beside_64 : decode cX4_beside 64 = .ok (.aload_n 0, 1) := by decide +kernel
theorem dX4_beside_65 : decode cX4_beside 65 = .ok (.iload_n 2, 1) := by decide +kernel
theorem dX4_beside_66 : decode cX4_beside 66 = .ok (.invokevirtual 83, 3) := by decide +kernel
theorem dX4_beside_69 : decode cX4_beside 69 = .ok (.pop, 1) := by decide +kernel
theorem dX4_beside_70 : decode cX4_beside 70 = .ok (.iload_n 1, 1) := by decide +kernel
theorem dX4_beside_71 : decode cX4_beside 71 = .ok (.iload_n 1, 1) := by decide +kernel
theorem dX4_beside_72 : decode cX4_beside 72 = .ok (.iconst 1, 1) := by decide +kernel
theorem dX4_beside_73 : decode cX4_beside 73 = .ok (.ishl, 1) := by decide +kernel
theorem dX4_beside_74 : decode cX4_beside 74 = .ok (.iand, 1) := by decide +kernel
theorem dX4_beside_75 : decode cX4_beside 75 = .ok (.invokestatic 168, 3) := by decide +kernel
theorem dX4_beside_78 : decode cX4_beside 78 = .ok (.ireturn, 1) := by decide +kernel
theorem dX4_apart_0 : decode cX4_apart 0 = .ok (.aload_n 0, 1) := by decide +kernel
theorem dX4_apart_1 : decode cX4_apart 1 = .ok (.getfield 31, 3) := by decide +kernel
theorem dX4_apart_4 : decode cX4_apart 4 = .ok (.getfield 114, 3) := by decide +kernel
theorem dX4_apart_7 : decode cX4_apart 7 = .ok (.ifCond .ne 6, 3) := by decide +kernel
theorem dX4_apart_10 : decode cX4_apart 10 = .ok (.bipush (-4), 2) := by decide +kernel
theorem dX4_apart_12 : decode cX4_apart 12 = .ok (.ireturn, 1) := by decide +kernel
theorem dX4_apart_13 : decode cX4_apart 13 = .ok (.aload_n 0, 1) := by decide +kernel
theorem dX4_apart_14 : decode cX4_apart 14 = .ok (.getfield 31, 3) := by decide +kernel
theorem dX4_apart_17 : decode cX4_apart 17 = .ok (.getfield 114, 3) := by decide +kernel
theorem dX4_apart_20 : decode cX4_apart 20 = .ok (.istore_n 1, 1) := by decide +kernel
theorem dX4_apart_21 : decode cX4_apart 21 = .ok (.iconst 1, 1) := by decide +kernel
theorem dX4_apart_22 : decode cX4_apart 22 = .ok (.aload_n 0, 1) := by decide +kernel
theorem dX4_apart_23 : decode cX4_apart 23 = .ok (.getfield 31, 3) := by decide +kernel
theorem dX4_apart_26 : decode cX4_apart 26 = .ok (.getfield 114, 3) := by decide +kernel
theorem dX4_apart_29 : decode cX4_apart 29 = .ok (.ishl, 1) := by decide +kernel
theorem dX4_apart_30 : decode cX4_apart 30 = .ok (.iconst 1, 1) := by decide +kernel
theorem dX4_apart_31 : decode cX4_apart 31 = .ok (.isub, 1) := by decide +kernel
theorem dX4_apart_32 : decode cX4_apart 32 = .ok (.istore_n 2, 1) := by decide +kernel
theorem dX4_apart_33 : decode cX4_apart 33 = .ok (.iconst 0, 1) := by decide +kernel
theorem dX4_apart_34 : decode cX4_apart 34 = .ok (.istore_n 3, 1) := by decide +kernel
theorem dX4_apart_35 : decode cX4_apart 35 = .ok (.iload_n 3, 1) := by decide +kernel
theorem dX4_apart_36 : decode cX4_apart 36 = .ok (.iconst 1, 1) := by decide +kernel
theorem dX4_apart_37 : decode cX4_apart 37 = .ok (.aload_n 0, 1) := by decide +kernel
theorem dX4_apart_38 : decode cX4_apart 38 = .ok (.getfield 31, 3) := by decide +kernel
theorem dX4_apart_41 : decode cX4_apart 41 = .ok (.getfield 114, 3) := by decide +kernel
theorem dX4_apart_44 : decode cX4_apart 44 = .ok (.ishl, 1) := by decide +kernel
theorem dX4_apart_45 : decode cX4_apart 45 = .ok (.if_icmp .ge 44, 3) := by decide +kernel
theorem dX4_apart_48 : decode cX4_apart 48 = .ok (.aload_n 0, 1) := by decide +kernel
theorem dX4_apart_49 : decode cX4_apart 49 = .ok (.getfield 39, 3) := by decide +kernel
theorem dX4_apart_52 : decode cX4_apart 52 = .ok (.iload_n 3, 1) := by decide +kernel
theorem dX4_apart_53 : decode cX4_apart 53 = .ok (.invokevirtual 230, 3) := by decide +kernel
theorem dX4_apart_56 : decode cX4_apart 56 = .ok (.istore 4, 2) := by decide +kernel
theorem dX4_apart_58 : decode cX4_apart 58 = .ok (.iload_n 3, 1) := by decide +kernel
theorem dX4_apart_59 : decode cX4_apart 59 = .ok (.invokestatic 168, 3) := by decide +kernel
theorem dX4_apart_62 : decode cX4_apart 62 = .ok (.iload_n 1, 1) := by decide +kernel
theorem dX4_apart_63 : decode cX4_apart 63 = .ok (.if_icmp .ge 20, 3) := by decide +kernel
theorem dX4_apart_66 : decode cX4_apart 66 = .ok (.iload 4, 2) := by decide +kernel
theorem dX4_apart_68 : decode cX4_apart 68 = .ok (.iload 4, 2) := by decide +kernel
theorem dX4_apart_70 : decode cX4_apart 70 = .ok (.iconst 1, 1) := by decide +kernel
theorem dX4_apart_71 : decode cX4_apart 71 = .ok (.ishl, 1) := by decide +kernel
theorem dX4_apart_72 : decode cX4_apart 72 = .ok (.iand, 1) := by decide +kernel
theorem dX4_apart_73 : decode cX4_apart 73 = .ok (.ifCond .ne 10, 3) := by decide +kernel
theorem dX4_apart_76 : decode cX4_apart 76 = .ok (.iload_n 3, 1) := by decide +kernel
theorem dX4_apart_77 : decode cX4_apart 77 = .ok (.invokestatic 168, 3) := by decide +kernel
theorem dX4_apart_80 : decode cX4_apart 80 = .ok (.istore_n 1, 1) := by decide +kernel
theorem dX4_apart_81 : decode cX4_apart 81 = .ok (.iload_n 3, 1) := by decide +kernel
theorem dX4_apart_82 : decode cX4_apart 82 = .ok (.istore_n 2, 1) := by decide +kernel
theorem dX4_apart_83 : decode cX4_apart 83 = .ok (.iinc 3 1, 3) := by decide +kernel
theorem dX4_apart_86 : decode cX4_apart 86 = .ok (.goto (-51), 3) := by decide +kernel
theorem dX4_apart_89 : decode cX4_apart 89 = .ok (.aload_n 0, 1) := by decide +kernel
theorem dX4_apart_90 : decode cX4_apart 90 = .ok (.iload_n 2, 1) := by decide +kernel
theorem dX4_apart_91 : decode cX4_apart 91 = .ok (.invokevirtual 83, 3) := by decide +kernel
theorem dX4_apart_94 : decode cX4_apart 94 = .ok (.pop, 1) := by decide +kernel
theorem dX4_apart_95 : decode cX4_apart 95 = .ok (.iload_n 1, 1) := by decide +kernel
theorem dX4_apart_96 : decode cX4_apart 96 = .ok (.ireturn, 1) := by decide +kernel
theorem dX4_frights_0 : decode cX4_frights 0 = .ok (.aload_n 0, 1) := by decide +kernel
theorem dX4_frights_1 : decode cX4_frights 1 = .ok (.iload_n 1, 1) := by decide +kernel
theorem dX4_frights_2 : decode cX4_frights 2 = .ok (.iload_n 2, 1) := by decide +kernel
theorem dX4_frights_3 : decode cX4_frights 3 = .ok (.invokevirtual 233, 3) := by decide +kernel
theorem dX4_frights_6 : decode cX4_frights 6 = .ok (.istore_n 3, 1) := by decide +kernel
theorem dX4_frights_7 : decode cX4_frights 7 = .ok (.iload_n 3, 1) := by decide +kernel
theorem dX4_frights_8 : decode cX4_frights 8 = .ok (.ifCond .eq 5, 3) := by decide +kernel
theorem dX4_frights_11 : decode cX4_frights 11 = .ok (.iload_n 3, 1) := by decide +kernel
theorem dX4_frights_12 : decode cX4_frights 12 = .ok (.ireturn, 1) := by decide +kernel
theorem dX4_frights_13 : decode cX4_frights 13 = .ok (.aload_n 0, 1) := by decide +kernel
theorem dX4_frights_14 : decode cX4_frights 14 = .ok (.getfield 31, 3) := by decide +kernel
theorem dX4_frights_17 : decode cX4_frights 17 = .ok (.getfield 124, 3) := by decide +kernel
theorem dX4_frights_20 : decode cX4_frights 20 = .ok (.iload_n 1, 1) := by decide +kernel
theorem dX4_frights_21 : decode cX4_frights 21 = .ok (.iaload, 1) := by decide +kernel
theorem dX4_frights_22 : decode cX4_frights 22 = .ok (.istore 4, 2) := by decide +kernel
theorem dX4_frights_24 : decode cX4_frights 24 = .ok (.aload_n 0, 1) := by decide +kernel
theorem dX4_frights_25 : decode cX4_frights 25 = .ok (.getfield 31, 3) := by decide +kernel
theorem dX4_frights_28 : decode cX4_frights 28 = .ok (.iload_n 1, 1) := by decide +kernel
theorem dX4_frights_29 : decode cX4_frights 29 = .ok (.aload_n 0, 1) := by decide +kernel
theorem dX4_frights_30 : decode cX4_frights 30 = .ok (.getfield 39, 3) := by decide +kernel
theorem dX4_frights_33 : decode cX4_frights 33 = .ok (.getfield 236, 3) := by decide +kernel
theorem dX4_frights_36 : decode cX4_frights 36 = .ok (.invokevirtual 239, 3) := by decide +kernel
theorem dX4_frights_39 : decode cX4_frights 39 = .ok (.istore 5, 2) := by decide +kernel
theorem dX4_frights_41 : decode cX4_frights 41 = .ok (.iconst 0, 1) := by decide +kernel
theorem dX4_frights_42 : decode cX4_frights 42 = .ok (.istore 6, 2) := by decide +kernel
theorem dX4_frights_44 : decode cX4_frights 44 = .ok (.iconst 0, 1) := by decide +kernel
theorem dX4_frights_45 : decode cX4_frights 45 = .ok (.istore 7, 2) := by decide +kernel
theorem dX4_frights_47 : decode cX4_frights 47 = .ok (.iconst 0, 1) := by decide +kernel
theorem dX4_frights_48 : decode cX4_frights 48 = .ok (.istore 8, 2) := by decide +kernel
theorem dX4_frights_50 : decode cX4_frights 50 = .ok (.iload 8, 2) := by decide +kernel
theorem dX4_frights_52 : decode cX4_frights 52 = .ok (.bipush 9, 2) := by decide +kernel
theorem dX4_frights_54 : decode cX4_frights 54 = .ok (.if_icmp .gt 73, 3) := by decide +kernel
theorem dX4_frights_57 : decode cX4_frights 57 = .ok (.aload_n 0, 1) := by decide +kernel
theorem dX4_frights_58 : decode cX4_frights 58 = .ok (.iload_n 2, 1) := by decide +kernel
theorem dX4_frights_59 : decode cX4_frights 59 = .ok (.iload 4, 2) := by decide +kernel
theorem dX4_frights_61 : decode cX4_frights 61 = .ok (.aload_n 0, 1) := by decide +kernel
theorem dX4_frights_62 : decode cX4_frights 62 = .ok (.getfield 31, 3) := by decide +kernel
theorem dX4_frights_65 : decode cX4_frights 65 = .ok (.getfield 242, 3) := by decide +kernel
theorem dX4_frights_68 : decode cX4_frights 68 = .ok (.iload_n 1, 1) := by decide +kernel
theorem dX4_frights_69 : decode cX4_frights 69 = .ok (.iaload, 1) := by decide +kernel
theorem dX4_frights_70 : decode cX4_frights 70 = .ok (.iload 8, 2) := by decide +kernel
theorem dX4_frights_72 : decode cX4_frights 72 = .ok (.iload 5, 2) := by decide +kernel
theorem dX4_frights_74 : decode cX4_frights 74 = .ok (.invokevirtual 245, 3) := by decide +kernel
theorem dX4_frights_77 : decode cX4_frights 77 = .ok (.ifCond .eq 12, 3) := by decide +kernel
theorem dX4_frights_80 : decode cX4_frights 80 = .ok (.iload 6, 2) := by decide +kernel
theorem dX4_frights_82 : decode cX4_frights 82 = .ok (.iconst 1, 1) := by decide +kernel
theorem dX4_frights_83 : decode cX4_frights 83 = .ok (.iload 8, 2) := by decide +kernel
theorem dX4_frights_85 : decode cX4_frights 85 = .ok (.ishl, 1) := by decide +kernel
theorem dX4_frights_86 : decode cX4_frights 86 = .ok (.ior, 1) := by decide +kernel
theorem dX4_frights_87 : decode cX4_frights 87 = .ok (.istore 6, 2) := by decide +kernel
theorem dX4_frights_89 : decode cX4_frights 89 = .ok (.aload_n 0, 1) := by decide +kernel
theorem dX4_frights_90 : decode cX4_frights 90 = .ok (.iload_n 2, 1) := by decide +kernel
theorem dX4_frights_91 : decode cX4_frights 91 = .ok (.iload 4, 2) := by decide +kernel
theorem dX4_frights_93 : decode cX4_frights 93 = .ok (.iload 8, 2) := by decide +kernel
theorem dX4_frights_95 : decode cX4_frights 95 = .ok (.aload_n 0, 1) := by decide +kernel
theorem dX4_frights_96 : decode cX4_frights 96 = .ok (.getfield 31, 3) := by decide +kernel
theorem dX4_frights_99 : decode cX4_frights 99 = .ok (.getfield 249, 3) := by decide +kernel
theorem dX4_frights_102 : decode cX4_frights 102 = .ok (.iload_n 1, 1) := by decide +kernel
theorem dX4_frights_103 : decode cX4_frights 103 = .ok (.iaload, 1) := by decide +kernel
theorem dX4_frights_104 : decode cX4_frights 104 = .ok (.iload 5, 2) := by decide +kernel
theorem dX4_frights_106 : decode cX4_frights 106 = .ok (.invokevirtual 245, 3) := by decide +kernel
theorem dX4_frights_109 : decode cX4_frights 109 = .ok (.ifCond .eq 12, 3) := by decide +kernel
theorem dX4_frights_112 : decode cX4_frights 112 = .ok (.iload 7, 2) := by decide +kernel
theorem dX4_frights_114 : decode cX4_frights 114 = .ok (.iconst 1, 1) := by decide +kernel
theorem dX4_frights_115 : decode cX4_frights 115 = .ok (.iload 8, 2) := by decide +kernel
theorem dX4_frights_117 : decode cX4_frights 117 = .ok (.ishl, 1) := by decide +kernel
theorem dX4_frights_118 : decode cX4_frights 118 = .ok (.ior, 1) := by decide +kernel
theorem dX4_frights_119 : decode cX4_frights 119 = .ok (.istore 7, 2) := by decide +kernel
theorem dX4_frights_121 : decode cX4_frights 121 = .ok (.iinc 8 1, 3) := by decide +kernel
theorem dX4_frights_124 : decode cX4_frights 124 = .ok (.goto (-74), 3) := by decide +kernel
theorem dX4_frights_127 : decode cX4_frights 127 = .ok (.aload_n 0, 1) := by decide +kernel
theorem dX4_frights_128 : decode cX4_frights 128 = .ok (.iload 7, 2) := by decide +kernel
theorem dX4_frights_130 : decode cX4_frights 130 = .ok (.invokevirtual 83, 3) := by decide +kernel
theorem dX4_frights_133 : decode cX4_frights 133 = .ok (.pop, 1) := by decide +kernel
theorem dX4_frights_134 : decode cX4_frights 134 = .ok (.iload 6, 2) := by decide +kernel
theorem dX4_frights_136 : decode cX4_frights 136 = .ok (.ireturn, 1) := by decide +kernel
theorem dX4_kinds_0 : decode cX4_kinds 0 = .ok (.aload_n 0, 1) := by decide +kernel
theorem dX4_kinds_1 : decode cX4_kinds 1 = .ok (.iload_n 1, 1) := by decide +kernel
theorem dX4_kinds_2 : decode cX4_kinds 2 = .ok (.iload_n 2, 1) := by decide +kernel
theorem dX4_kinds_3 : decode cX4_kinds 3 = .ok (.invokevirtual 233, 3) := by decide +kernel
theorem dX4_kinds_6 : decode cX4_kinds 6 = .ok (.istore_n 3, 1) := by decide +kernel
theorem dX4_kinds_7 : decode cX4_kinds 7 = .ok (.iload_n 3, 1) := by decide +kernel
theorem dX4_kinds_8 : decode cX4_kinds 8 = .ok (.ifCond .eq 5, 3) := by decide +kernel
theorem dX4_kinds_11 : decode cX4_kinds 11 = .ok (.iload_n 3, 1) := by decide +kernel
theorem dX4_kinds_12 : decode cX4_kinds 12 = .ok (.ireturn, 1) := by decide +kernel
theorem dX4_kinds_13 : decode cX4_kinds 13 = .ok (.aload_n 0, 1) := by decide +kernel
theorem dX4_kinds_14 : decode cX4_kinds 14 = .ok (.getfield 31, 3) := by decide +kernel
theorem dX4_kinds_17 : decode cX4_kinds 17 = .ok (.iload_n 1, 1) := by decide +kernel
theorem dX4_kinds_18 : decode cX4_kinds 18 = .ok (.aload_n 0, 1) := by decide +kernel
theorem dX4_kinds_19 : decode cX4_kinds 19 = .ok (.getfield 39, 3) := by decide +kernel
theorem dX4_kinds_22 : decode cX4_kinds 22 = .ok (.getfield 236, 3) := by decide +kernel
theorem dX4_kinds_25 : decode cX4_kinds 25 = .ok (.invokevirtual 239, 3) := by decide +kernel
theorem dX4_kinds_28 : decode cX4_kinds 28 = .ok (.istore 4, 2) := by decide +kernel
theorem dX4_kinds_30 : decode cX4_kinds 30 = .ok (.iconst 0, 1) := by decide +kernel
theorem dX4_kinds_31 : decode cX4_kinds 31 = .ok (.istore 5, 2) := by decide +kernel
theorem dX4_kinds_33 : decode cX4_kinds 33 = .ok (.iconst 0, 1) := by decide +kernel
theorem dX4_kinds_34 : decode cX4_kinds 34 = .ok (.istore 6, 2) := by decide +kernel
theorem dX4_kinds_36 : decode cX4_kinds 36 = .ok (.iload 6, 2) := by decide +kernel
theorem dX4_kinds_38 : decode cX4_kinds 38 = .ok (.bipush 6, 2) := by decide +kernel
theorem dX4_kinds_40 : decode cX4_kinds 40 = .ok (.if_icmp .ge 48, 3) := by decide +kernel
theorem dX4_kinds_43 : decode cX4_kinds 43 = .ok (.aload_n 0, 1) := by decide +kernel
theorem dX4_kinds_44 : decode cX4_kinds 44 = .ok (.iload_n 2, 1) := by decide +kernel
theorem dX4_kinds_45 : decode cX4_kinds 45 = .ok (.iload 6, 2) := by decide +kernel
theorem dX4_kinds_47 : decode cX4_kinds 47 = .ok (.aload_n 0, 1) := by decide +kernel
theorem dX4_kinds_48 : decode cX4_kinds 48 = .ok (.getfield 31, 3) := by decide +kernel
theorem dX4_kinds_51 : decode cX4_kinds 51 = .ok (.getfield 242, 3) := by decide +kernel
theorem dX4_kinds_54 : decode cX4_kinds 54 = .ok (.iload_n 1, 1) := by decide +kernel
theorem dX4_kinds_55 : decode cX4_kinds 55 = .ok (.iaload, 1) := by decide +kernel
theorem dX4_kinds_56 : decode cX4_kinds 56 = .ok (.aload_n 0, 1) := by decide +kernel
theorem dX4_kinds_57 : decode cX4_kinds 57 = .ok (.getfield 31, 3) := by decide +kernel
theorem dX4_kinds_60 : decode cX4_kinds 60 = .ok (.getfield 249, 3) := by decide +kernel
theorem dX4_kinds_63 : decode cX4_kinds 63 = .ok (.iload_n 1, 1) := by decide +kernel
theorem dX4_kinds_64 : decode cX4_kinds 64 = .ok (.iaload, 1) := by decide +kernel
theorem dX4_kinds_65 : decode cX4_kinds 65 = .ok (.iload 4, 2) := by decide +kernel
theorem dX4_kinds_67 : decode cX4_kinds 67 = .ok (.invokevirtual 245, 3) := by decide +kernel
theorem dX4_kinds_70 : decode cX4_kinds 70 = .ok (.ifCond .eq 12, 3) := by decide +kernel
theorem dX4_kinds_73 : decode cX4_kinds 73 = .ok (.iload 5, 2) := by decide +kernel
theorem dX4_kinds_75 : decode cX4_kinds 75 = .ok (.iconst 1, 1) := by decide +kernel
theorem dX4_kinds_76 : decode cX4_kinds 76 = .ok (.iload 6, 2) := by decide +kernel
theorem dX4_kinds_78 : decode cX4_kinds 78 = .ok (.ishl, 1) := by decide +kernel
theorem dX4_kinds_79 : decode cX4_kinds 79 = .ok (.ior, 1) := by decide +kernel
theorem dX4_kinds_80 : decode cX4_kinds 80 = .ok (.istore 5, 2) := by decide +kernel
theorem dX4_kinds_82 : decode cX4_kinds 82 = .ok (.iinc 6 1, 3) := by decide +kernel
theorem dX4_kinds_85 : decode cX4_kinds 85 = .ok (.goto (-49), 3) := by decide +kernel
theorem dX4_kinds_88 : decode cX4_kinds 88 = .ok (.iload 5, 2) := by decide +kernel
theorem dX4_kinds_90 : decode cX4_kinds 90 = .ok (.ireturn, 1) := by decide +kernel
theorem dX4_whom_0 : decode cX4_whom 0 = .ok (.iload_n 1, 1) := by decide +kernel
theorem dX4_whom_1 : decode cX4_whom 1 = .ok (.ifCond .lt 9, 3) := by decide +kernel
theorem dX4_whom_4 : decode cX4_whom 4 = .ok (.iload_n 1, 1) := by decide +kernel
theorem dX4_whom_5 : decode cX4_whom 5 = .ok (.bipush 9, 2) := by decide +kernel
theorem dX4_whom_7 : decode cX4_whom 7 = .ok (.if_icmp .le 5, 3) := by decide +kernel
theorem dX4_whom_10 : decode cX4_whom 10 = .ok (.iconst (-1), 1) := by decide +kernel
theorem dX4_whom_11 : decode cX4_whom 11 = .ok (.ireturn, 1) := by decide +kernel
theorem dX4_whom_12 : decode cX4_whom 12 = .ok (.aload_n 0, 1) := by decide +kernel
theorem dX4_whom_13 : decode cX4_whom 13 = .ok (.getfield 39, 3) := by decide +kernel
theorem dX4_whom_16 : decode cX4_whom 16 = .ok (.invokevirtual 140, 3) := by decide +kernel
theorem dX4_whom_19 : decode cX4_whom 19 = .ok (.ifCond .ne 6, 3) := by decide +kernel
theorem dX4_whom_22 : decode cX4_whom 22 = .ok (.bipush (-4), 2) := by decide +kernel
theorem dX4_whom_24 : decode cX4_whom 24 = .ok (.ireturn, 1) := by decide +kernel
theorem dX4_whom_25 : decode cX4_whom 25 = .ok (.aload_n 0, 1) := by decide +kernel
theorem dX4_whom_26 : decode cX4_whom 26 = .ok (.getfield 39, 3) := by decide +kernel
theorem dX4_whom_29 : decode cX4_whom 29 = .ok (.invokevirtual 144, 3) := by decide +kernel
theorem dX4_whom_32 : decode cX4_whom 32 = .ok (.istore_n 2, 1) := by decide +kernel
theorem dX4_whom_33 : decode cX4_whom 33 = .ok (.iconst 0, 1) := by decide +kernel
theorem dX4_whom_34 : decode cX4_whom 34 = .ok (.istore_n 3, 1) := by decide +kernel
theorem dX4_whom_35 : decode cX4_whom 35 = .ok (.iconst 0, 1) := by decide +kernel
theorem dX4_whom_36 : decode cX4_whom 36 = .ok (.istore 4, 2) := by decide +kernel
theorem dX4_whom_38 : decode cX4_whom 38 = .ok (.iconst 0, 1) := by decide +kernel
theorem dX4_whom_39 : decode cX4_whom 39 = .ok (.istore 5, 2) := by decide +kernel
theorem dX4_whom_41 : decode cX4_whom 41 = .ok (.iload 5, 2) := by decide +kernel
theorem dX4_whom_43 : decode cX4_whom 43 = .ok (.aload_n 0, 1) := by decide +kernel
theorem dX4_whom_44 : decode cX4_whom 44 = .ok (.getfield 31, 3) := by decide +kernel
theorem dX4_whom_47 : decode cX4_whom 47 = .ok (.getfield 114, 3) := by decide +kernel
theorem dX4_whom_50 : decode cX4_whom 50 = .ok (.if_icmp .ge 55, 3) := by decide +kernel
theorem dX4_whom_53 : decode cX4_whom 53 = .ok (.iload_n 2, 1) := by decide +kernel
theorem dX4_whom_54 : decode cX4_whom 54 = .ok (.iload 5, 2) := by decide +kernel
theorem dX4_whom_56 : decode cX4_whom 56 = .ok (.invokestatic 147, 3) := by decide +kernel
theorem dX4_whom_59 : decode cX4_whom 59 = .ok (.ifCond .eq 40, 3) := by decide +kernel
theorem dX4_whom_62 : decode cX4_whom 62 = .ok (.aload_n 0, 1) := by decide +kernel
theorem dX4_whom_63 : decode cX4_whom 63 = .ok (.getfield 39, 3) := by decide +kernel
theorem dX4_whom_66 : decode cX4_whom 66 = .ok (.iload 5, 2) := by decide +kernel
theorem dX4_whom_68 : decode cX4_whom 68 = .ok (.invokevirtual 153, 3) := by decide +kernel
theorem dX4_whom_71 : decode cX4_whom 71 = .ok (.istore 6, 2) := by decide +kernel
theorem dX4_whom_73 : decode cX4_whom 73 = .ok (.iload 4, 2) := by decide +kernel
theorem dX4_whom_75 : decode cX4_whom 75 = .ok (.iconst 1, 1) := by decide +kernel
theorem dX4_whom_76 : decode cX4_whom 76 = .ok (.iload 6, 2) := by decide +kernel
theorem dX4_whom_78 : decode cX4_whom 78 = .ok (.ishl, 1) := by decide +kernel
theorem dX4_whom_79 : decode cX4_whom 79 = .ok (.ior, 1) := by decide +kernel
theorem dX4_whom_80 : decode cX4_whom 80 = .ok (.istore 4, 2) := by decide +kernel
theorem dX4_whom_82 : decode cX4_whom 82 = .ok (.iload_n 3, 1) := by decide +kernel
theorem dX4_whom_83 : decode cX4_whom 83 = .ok (.iload 6, 2) := by decide +kernel
theorem dX4_whom_85 : decode cX4_whom 85 = .ok (.iload_n 1, 1) := by decide +kernel
theorem dX4_whom_86 : decode cX4_whom 86 = .ok (.if_icmp .ne 10, 3) := by decide +kernel
theorem dX4_whom_89 : decode cX4_whom 89 = .ok (.iconst 1, 1) := by decide +kernel
theorem dX4_whom_90 : decode cX4_whom 90 = .ok (.iload 5, 2) := by decide +kernel
theorem dX4_whom_92 : decode cX4_whom 92 = .ok (.ishl, 1) := by decide +kernel
theorem dX4_whom_93 : decode cX4_whom 93 = .ok (.goto 4, 3) := by decide +kernel
theorem dX4_whom_96 : decode cX4_whom 96 = .ok (.iconst 0, 1) := by decide +kernel
theorem dX4_whom_97 : decode cX4_whom 97 = .ok (.ior, 1) := by decide +kernel
theorem dX4_whom_98 : decode cX4_whom 98 = .ok (.istore_n 3, 1) := by decide +kernel
theorem dX4_whom_99 : decode cX4_whom 99 = .ok (.iinc 5 1, 3) := by decide +kernel
theorem dX4_whom_102 : decode cX4_whom 102 = .ok (.goto (-61), 3) := by decide +kernel
theorem dX4_whom_105 : decode cX4_whom 105 = .ok (.aload_n 0, 1) := by decide +kernel
theorem dX4_whom_106 : decode cX4_whom 106 = .ok (.iload 4, 2) := by decide +kernel
theorem dX4_whom_108 : decode cX4_whom 108 = .ok (.invokestatic 168, 3) := by decide +kernel
theorem dX4_whom_111 : decode cX4_whom 111 = .ok (.invokevirtual 83, 3) := by decide +kernel
theorem dX4_whom_114 : decode cX4_whom 114 = .ok (.pop, 1) := by decide +kernel
theorem dX4_whom_115 : decode cX4_whom 115 = .ok (.iload_n 3, 1) := by decide +kernel
theorem dX4_whom_116 : decode cX4_whom 116 = .ok (.ireturn, 1) := by decide +kernel
theorem dX4_duel_0 : decode cX4_duel 0 = .ok (.iload_n 1, 1) := by decide +kernel
theorem dX4_duel_1 : decode cX4_duel 1 = .ok (.ifCond .lt 8, 3) := by decide +kernel
theorem dX4_duel_4 : decode cX4_duel 4 = .ok (.iload_n 1, 1) := by decide +kernel
theorem dX4_duel_5 : decode cX4_duel 5 = .ok (.iconst 4, 1) := by decide +kernel
theorem dX4_duel_6 : decode cX4_duel 6 = .ok (.if_icmp .le 5, 3) := by decide +kernel
theorem dX4_duel_9 : decode cX4_duel 9 = .ok (.iconst (-1), 1) := by decide +kernel
theorem dX4_duel_10 : decode cX4_duel 10 = .ok (.ireturn, 1) := by decide +kernel
theorem dX4_duel_11 : decode cX4_duel 11 = .ok (.aload_n 0, 1) := by decide +kernel
theorem dX4_duel_12 : decode cX4_duel 12 = .ok (.getfield 31, 3) := by decide +kernel
theorem dX4_duel_15 : decode cX4_duel 15 = .ok (.getfield 114, 3) := by decide +kernel
theorem dX4_duel_18 : decode cX4_duel 18 = .ok (.ifCond .ne 8, 3) := by decide +kernel
theorem dX4_duel_21 : decode cX4_duel 21 = .ok (.bipush (-4), 2) := by decide +kernel
theorem dX4_duel_23 : decode cX4_duel 23 = .ok (.goto 21, 3) := by decide +kernel
theorem dX4_duel_26 : decode cX4_duel 26 = .ok (.aload_n 0, 1) := by decide +kernel
theorem dX4_duel_27 : decode cX4_duel 27 = .ok (.getfield 48, 3) := by decide +kernel
theorem dX4_duel_30 : decode cX4_duel 30 = .ok (.iload_n 1, 1) := by decide +kernel
theorem dX4_duel_31 : decode cX4_duel 31 = .ok (.aload_n 0, 1) := by decide +kernel
theorem dX4_duel_32 : decode cX4_duel 32 = .ok (.getfield 39, 3) := by decide +kernel
theorem dX4_duel_35 : decode cX4_duel 35 = .ok (.invokevirtual 140, 3) := by decide +kernel
theorem dX4_duel_38 : decode cX4_duel 38 = .ok (.invokestatic 252, 3) := by decide +kernel
theorem dX4_duel_41 : decode cX4_duel 41 = .ok (.invokevirtual 255, 3) := by decide +kernel
theorem dX4_duel_44 : decode cX4_duel 44 = .ok (.ireturn, 1) := by decide +kernel
theorem dX4_odds_0 : decode cX4_odds 0 = .ok (.iload_n 1, 1) := by decide +kernel
theorem dX4_odds_1 : decode cX4_odds 1 = .ok (.ifCond .lt 9, 3) := by decide +kernel
theorem dX4_odds_4 : decode cX4_odds 4 = .ok (.iload_n 1, 1) := by decide +kernel
theorem dX4_odds_5 : decode cX4_odds 5 = .ok (.bipush 6, 2) := by decide +kernel
theorem dX4_odds_7 : decode cX4_odds 7 = .ok (.if_icmp .le 5, 3) := by decide +kernel
theorem dX4_odds_10 : decode cX4_odds 10 = .ok (.iconst (-1), 1) := by decide +kernel
theorem dX4_odds_11 : decode cX4_odds 11 = .ok (.ireturn, 1) := by decide +kernel
theorem dX4_odds_12 : decode cX4_odds 12 = .ok (.aload_n 0, 1) := by decide +kernel
theorem dX4_odds_13 : decode cX4_odds 13 = .ok (.getfield 31, 3) := by decide +kernel
theorem dX4_odds_16 : decode cX4_odds 16 = .ok (.getfield 114, 3) := by decide +kernel
theorem dX4_odds_19 : decode cX4_odds 19 = .ok (.ifCond .ne 6, 3) := by decide +kernel
theorem dX4_odds_22 : decode cX4_odds 22 = .ok (.bipush (-4), 2) := by decide +kernel
theorem dX4_odds_24 : decode cX4_odds 24 = .ok (.ireturn, 1) := by decide +kernel
theorem dX4_odds_25 : decode cX4_odds 25 = .ok (.aload_n 0, 1) := by decide +kernel
theorem dX4_odds_26 : decode cX4_odds 26 = .ok (.getfield 48, 3) := by decide +kernel
theorem dX4_odds_29 : decode cX4_odds 29 = .ok (.iload_n 1, 1) := by decide +kernel
theorem dX4_odds_30 : decode cX4_odds 30 = .ok (.invokevirtual 258, 3) := by decide +kernel
theorem dX4_odds_33 : decode cX4_odds 33 = .ok (.aload_n 0, 1) := by decide +kernel
theorem dX4_odds_34 : decode cX4_odds 34 = .ok (.aload_n 0, 1) := by decide +kernel
theorem dX4_odds_35 : decode cX4_odds 35 = .ok (.getfield 48, 3) := by decide +kernel
theorem dX4_odds_38 : decode cX4_odds 38 = .ok (.getfield 261, 3) := by decide +kernel
theorem dX4_odds_41 : decode cX4_odds 41 = .ok (.aload_n 0, 1) := by decide +kernel
theorem dX4_odds_42 : decode cX4_odds 42 = .ok (.getfield 48, 3) := by decide +kernel
theorem dX4_odds_45 : decode cX4_odds 45 = .ok (.getfield 264, 3) := by decide +kernel
theorem dX4_odds_48 : decode cX4_odds 48 = .ok (.invokevirtual 212, 3) := by decide +kernel
theorem dX4_odds_51 : decode cX4_odds 51 = .ok (.iconst 1, 1) := by decide +kernel
theorem dX4_odds_52 : decode cX4_odds 52 = .ok (.ireturn, 1) := by decide +kernel
theorem dX4_mid_0 : decode cX4_mid 0 = .ok (.aload_n 0, 1) := by decide +kernel
theorem dX4_mid_1 : decode cX4_mid 1 = .ok (.getfield 31, 3) := by decide +kernel
theorem dX4_mid_4 : decode cX4_mid 4 = .ok (.getfield 114, 3) := by decide +kernel
theorem dX4_mid_7 : decode cX4_mid 7 = .ok (.ifCond .ne 6, 3) := by decide +kernel
theorem dX4_mid_10 : decode cX4_mid 10 = .ok (.bipush (-4), 2) := by decide +kernel
theorem dX4_mid_12 : decode cX4_mid 12 = .ok (.ireturn, 1) := by decide +kernel
theorem dX4_mid_13 : decode cX4_mid 13 = .ok (.aload_n 0, 1) := by decide +kernel
theorem dX4_mid_14 : decode cX4_mid 14 = .ok (.getfield 48, 3) := by decide +kernel
theorem dX4_mid_17 : decode cX4_mid 17 = .ok (.iconst 0, 1) := by decide +kernel
theorem dX4_mid_18 : decode cX4_mid 18 = .ok (.invokevirtual 258, 3) := by decide +kernel
theorem dX4_mid_21 : decode cX4_mid 21 = .ok (.aload_n 0, 1) := by decide +kernel
theorem dX4_mid_22 : decode cX4_mid 22 = .ok (.aload_n 0, 1) := by decide +kernel
theorem dX4_mid_23 : decode cX4_mid 23 = .ok (.getfield 48, 3) := by decide +kernel
theorem dX4_mid_26 : decode cX4_mid 26 = .ok (.getfield 267, 3) := by decide +kernel
theorem dX4_mid_29 : decode cX4_mid 29 = .ok (.aload_n 0, 1) := by decide +kernel
theorem dX4_mid_30 : decode cX4_mid 30 = .ok (.getfield 48, 3) := by decide +kernel
theorem dX4_mid_33 : decode cX4_mid 33 = .ok (.getfield 264, 3) := by decide +kernel
theorem dX4_mid_36 : decode cX4_mid 36 = .ok (.invokevirtual 212, 3) := by decide +kernel
theorem dX4_mid_39 : decode cX4_mid 39 = .ok (.iconst 1, 1) := by decide +kernel
theorem dX4_mid_40 : decode cX4_mid 40 = .ok (.ireturn, 1) := by decide +kernel
theorem dX4_lots_0 : decode cX4_lots 0 = .ok (.iload_n 1, 1) := by decide +kernel
theorem dX4_lots_1 : decode cX4_lots 1 = .ok (.iconst 1, 1) := by decide +kernel
theorem dX4_lots_2 : decode cX4_lots 2 = .ok (.if_icmp .lt 10, 3) := by decide +kernel
theorem dX4_lots_5 : decode cX4_lots 5 = .ok (.iload_n 1, 1) := by decide +kernel
theorem dX4_lots_6 : decode cX4_lots 6 = .ok (.ldc_w 270, 3) := by decide +kernel
theorem dX4_lots_9 : decode cX4_lots 9 = .ok (.if_icmp .lt 5, 3) := by decide +kernel
theorem dX4_lots_12 : decode cX4_lots 12 = .ok (.iconst (-1), 1) := by decide +kernel
theorem dX4_lots_13 : decode cX4_lots 13 = .ok (.ireturn, 1) := by decide +kernel
theorem dX4_lots_14 : decode cX4_lots 14 = .ok (.aload_n 0, 1) := by decide +kernel
theorem dX4_lots_15 : decode cX4_lots 15 = .ok (.getfield 39, 3) := by decide +kernel
theorem dX4_lots_18 : decode cX4_lots 18 = .ok (.invokevirtual 140, 3) := by decide +kernel
theorem dX4_lots_21 : decode cX4_lots 21 = .ok (.istore_n 2, 1) := by decide +kernel
theorem dX4_lots_22 : decode cX4_lots 22 = .ok (.iload_n 2, 1) := by decide +kernel
theorem dX4_lots_23 : decode cX4_lots 23 = .ok (.ifCond .ne 6, 3) := by decide +kernel
theorem dX4_lots_26 : decode cX4_lots 26 = .ok (.bipush (-4), 2) := by decide +kernel
theorem dX4_lots_28 : decode cX4_lots 28 = .ok (.ireturn, 1) := by decide +kernel
theorem dX4_lots_29 : decode cX4_lots 29 = .ok (.aload_n 0, 1) := by decide +kernel
theorem dX4_lots_30 : decode cX4_lots 30 = .ok (.getfield 39, 3) := by decide +kernel
theorem dX4_lots_33 : decode cX4_lots 33 = .ok (.getfield 150, 3) := by decide +kernel
theorem dX4_lots_36 : decode cX4_lots 36 = .ok (.iload_n 2, 1) := by decide +kernel
theorem dX4_lots_37 : decode cX4_lots 37 = .ok (.iadd, 1) := by decide +kernel
theorem dX4_lots_38 : decode cX4_lots 38 = .ok (.bipush 40, 2) := by decide +kernel
theorem dX4_lots_40 : decode cX4_lots 40 = .ok (.if_icmp .le 6, 3) := by decide +kernel
theorem dX4_lots_43 : decode cX4_lots 43 = .ok (.bipush (-2), 2) := by decide +kernel
theorem dX4_lots_45 : decode cX4_lots 45 = .ok (.ireturn, 1) := by decide +kernel
theorem dX4_lots_46 : decode cX4_lots 46 = .ok (.aload_n 0, 1) := by decide +kernel
theorem dX4_lots_47 : decode cX4_lots 47 = .ok (.getfield 39, 3) := by decide +kernel
theorem dX4_lots_50 : decode cX4_lots 50 = .ok (.getfield 156, 3) := by decide +kernel
theorem dX4_lots_53 : decode cX4_lots 53 = .ok (.istore_n 3, 1) := by decide +kernel
theorem dX4_lots_54 : decode cX4_lots 54 = .ok (.iload_n 1, 1) := by decide +kernel
theorem dX4_lots_55 : decode cX4_lots 55 = .ok (.i2l, 1) := by decide +kernel
theorem dX4_lots_56 : decode cX4_lots 56 = .ok (.lstore 4, 2) := by decide +kernel
theorem dX4_lots_58 : decode cX4_lots 58 = .ok (.iconst 0, 1) := by decide +kernel
theorem dX4_lots_59 : decode cX4_lots 59 = .ok (.istore 6, 2) := by decide +kernel
theorem dX4_lots_61 : decode cX4_lots 61 = .ok (.iload 6, 2) := by decide +kernel
theorem dX4_lots_63 : decode cX4_lots 63 = .ok (.iload_n 2, 1) := by decide +kernel
theorem dX4_lots_64 : decode cX4_lots 64 = .ok (.if_icmp .ge 45, 3) := by decide +kernel
theorem dX4_lots_67 : decode cX4_lots 67 = .ok (.lload 4, 2) := by decide +kernel
theorem dX4_lots_69 : decode cX4_lots 69 = .ok (.ldc2_w 271, 3) := by decide +kernel
theorem dX4_lots_72 : decode cX4_lots 72 = .ok (.lmul, 1) := by decide +kernel
theorem dX4_lots_73 : decode cX4_lots 73 = .ok (.ldc2_w 273, 3) := by decide +kernel
theorem dX4_lots_76 : decode cX4_lots 76 = .ok (.lrem, 1) := by decide +kernel
theorem dX4_lots_77 : decode cX4_lots 77 = .ok (.lstore 4, 2) := by decide +kernel
theorem dX4_lots_79 : decode cX4_lots 79 = .ok (.aload_n 0, 1) := by decide +kernel
theorem dX4_lots_80 : decode cX4_lots 80 = .ok (.getfield 39, 3) := by decide +kernel
theorem dX4_lots_83 : decode cX4_lots 83 = .ok (.aload_n 0, 1) := by decide +kernel
theorem dX4_lots_84 : decode cX4_lots 84 = .ok (.getfield 39, 3) := by decide +kernel
theorem dX4_lots_87 : decode cX4_lots 87 = .ok (.invokevirtual 144, 3) := by decide +kernel
theorem dX4_lots_90 : decode cX4_lots 90 = .ok (.lload 4, 2) := by decide +kernel
theorem dX4_lots_92 : decode cX4_lots 92 = .ok (.ldc2_w 275, 3) := by decide +kernel
theorem dX4_lots_95 : decode cX4_lots 95 = .ok (.ldiv, 1) := by decide +kernel
theorem dX4_lots_96 : decode cX4_lots 96 = .ok (.l2i, 1) := by decide +kernel
theorem dX4_lots_97 : decode cX4_lots 97 = .ok (.invokestatic 277, 3) := by decide +kernel
theorem dX4_lots_100 : decode cX4_lots 100 = .ok (.invokevirtual 159, 3) := by decide +kernel
theorem dX4_lots_103 : decode cX4_lots 103 = .ok (.iinc 6 1, 3) := by decide +kernel
theorem dX4_lots_106 : decode cX4_lots 106 = .ok (.goto (-45), 3) := by decide +kernel
theorem dX4_lots_109 : decode cX4_lots 109 = .ok (.aload_n 0, 1) := by decide +kernel
theorem dX4_lots_110 : decode cX4_lots 110 = .ok (.getfield 39, 3) := by decide +kernel
theorem dX4_lots_113 : decode cX4_lots 113 = .ok (.getfield 156, 3) := by decide +kernel
theorem dX4_lots_116 : decode cX4_lots 116 = .ok (.iload_n 3, 1) := by decide +kernel
theorem dX4_lots_117 : decode cX4_lots 117 = .ok (.isub, 1) := by decide +kernel
theorem dX4_lots_118 : decode cX4_lots 118 = .ok (.ireturn, 1) := by decide +kernel
theorem dX4_asked_0 : decode cX4_asked 0 = .ok (.aload_n 0, 1) := by decide +kernel
theorem dX4_asked_1 : decode cX4_asked 1 = .ok (.getfield 280, 3) := by decide +kernel
theorem dX4_asked_4 : decode cX4_asked 4 = .ok (.ireturn, 1) := by decide +kernel
theorem dX4_upper_0 : decode cX4_upper 0 = .ok (.aload_n 0, 1) := by decide +kernel
theorem dX4_upper_1 : decode cX4_upper 1 = .ok (.getfield 283, 3) := by decide +kernel
theorem dX4_upper_4 : decode cX4_upper 4 = .ok (.lreturn, 1) := by decide +kernel
theorem dX4_lower_0 : decode cX4_lower 0 = .ok (.aload_n 0, 1) := by decide +kernel
theorem dX4_lower_1 : decode cX4_lower 1 = .ok (.getfield 56, 3) := by decide +kernel
theorem dX4_lower_4 : decode cX4_lower 4 = .ok (.lreturn, 1) := by decide +kernel
theorem dX4_count_0 : decode cX4_count 0 = .ok (.iload_n 1, 1) := by decide +kernel
theorem dX4_count_1 : decode cX4_count 1 = .ok (.ifCond .lt 9, 3) := by decide +kernel
theorem dX4_count_4 : decode cX4_count 4 = .ok (.iload_n 1, 1) := by decide +kernel
theorem dX4_count_5 : decode cX4_count 5 = .ok (.bipush 11, 2) := by decide +kernel
theorem dX4_count_7 : decode cX4_count 7 = .ok (.if_icmp .lt 7, 3) := by decide +kernel
theorem dX4_count_10 : decode cX4_count 10 = .ok (.iconst (-1), 1) := by decide +kernel
theorem dX4_count_11 : decode cX4_count 11 = .ok (.goto 8, 3) := by decide +kernel
theorem dX4_count_14 : decode cX4_count 14 = .ok (.aload_n 0, 1) := by decide +kernel
theorem dX4_count_15 : decode cX4_count 15 = .ok (.iload_n 1, 1) := by decide +kernel
theorem dX4_count_16 : decode cX4_count 16 = .ok (.invokevirtual 286, 3) := by decide +kernel
theorem dX4_count_19 : decode cX4_count 19 = .ok (.ireturn, 1) := by decide +kernel
theorem dX4_applause_0 : decode cX4_applause 0 = .ok (.aload_n 0, 1) := by decide +kernel
theorem dX4_applause_1 : decode cX4_applause 1 = .ok (.getfield 39, 3) := by decide +kernel
theorem dX4_applause_4 : decode cX4_applause 4 = .ok (.getfield 289, 3) := by decide +kernel
theorem dX4_applause_7 : decode cX4_applause 7 = .ok (.sipush 1000, 3) := by decide +kernel
theorem dX4_applause_10 : decode cX4_applause 10 = .ok (.iadd, 1) := by decide +kernel
theorem dX4_applause_11 : decode cX4_applause 11 = .ok (.ireturn, 1) := by decide +kernel
theorem dX4_finding_0 : decode cX4_finding 0 = .ok (.aload_n 0, 1) := by decide +kernel
theorem dX4_finding_1 : decode cX4_finding 1 = .ok (.getfield 292, 3) := by decide +kernel
theorem dX4_finding_4 : decode cX4_finding 4 = .ok (.ireturn, 1) := by decide +kernel
theorem dX4_findings_0 : decode cX4_findings 0 = .ok (.iload_n 1, 1) := by decide +kernel
theorem dX4_findings_1 : decode cX4_findings 1 = .ok (.iconst 1, 1) := by decide +kernel
theorem dX4_findings_2 : decode cX4_findings 2 = .ok (.if_icmp .lt 8, 3) := by decide +kernel
theorem dX4_findings_5 : decode cX4_findings 5 = .ok (.iload_n 1, 1) := by decide +kernel
theorem dX4_findings_6 : decode cX4_findings 6 = .ok (.iconst 5, 1) := by decide +kernel
theorem dX4_findings_7 : decode cX4_findings 7 = .ok (.if_icmp .le 7, 3) := by decide +kernel
theorem dX4_findings_10 : decode cX4_findings 10 = .ok (.iconst (-1), 1) := by decide +kernel
theorem dX4_findings_11 : decode cX4_findings 11 = .ok (.goto 9, 3) := by decide +kernel
theorem dX4_findings_14 : decode cX4_findings 14 = .ok (.aload_n 0, 1) := by decide +kernel
theorem dX4_findings_15 : decode cX4_findings 15 = .ok (.getfield 52, 3) := by decide +kernel
theorem dX4_findings_18 : decode cX4_findings 18 = .ok (.iload_n 1, 1) := by decide +kernel
theorem dX4_findings_19 : decode cX4_findings 19 = .ok (.iaload, 1) := by decide +kernel
theorem dX4_findings_20 : decode cX4_findings 20 = .ok (.ireturn, 1) := by decide +kernel
theorem dX4_digest_0 : decode cX4_digest 0 = .ok (.ldc2_w 295, 3) := by decide +kernel
theorem dX4_digest_3 : decode cX4_digest 3 = .ok (.lstore_n 1, 1) := by decide +kernel
theorem dX4_digest_4 : decode cX4_digest 4 = .ok (.iconst 0, 1) := by decide +kernel
theorem dX4_digest_5 : decode cX4_digest 5 = .ok (.istore_n 3, 1) := by decide +kernel
theorem dX4_digest_6 : decode cX4_digest 6 = .ok (.iload_n 3, 1) := by decide +kernel
theorem dX4_digest_7 : decode cX4_digest 7 = .ok (.bipush 11, 2) := by decide +kernel
theorem dX4_digest_9 : decode cX4_digest 9 = .ok (.if_icmp .ge 22, 3) := by decide +kernel
theorem dX4_digest_12 : decode cX4_digest 12 = .ok (.ldc2_w 297, 3) := by decide +kernel
theorem dX4_digest_15 : decode cX4_digest 15 = .ok (.lload_n 1, 1) := by decide +kernel
theorem dX4_digest_16 : decode cX4_digest 16 = .ok (.lmul, 1) := by decide +kernel
theorem dX4_digest_17 : decode cX4_digest 17 = .ok (.aload_n 0, 1) := by decide +kernel
theorem dX4_digest_18 : decode cX4_digest 18 = .ok (.iload_n 3, 1) := by decide +kernel
theorem dX4_digest_19 : decode cX4_digest 19 = .ok (.invokevirtual 286, 3) := by decide +kernel
theorem dX4_digest_22 : decode cX4_digest 22 = .ok (.i2l, 1) := by decide +kernel
theorem dX4_digest_23 : decode cX4_digest 23 = .ok (.ladd, 1) := by decide +kernel
theorem dX4_digest_24 : decode cX4_digest 24 = .ok (.lstore_n 1, 1) := by decide +kernel
theorem dX4_digest_25 : decode cX4_digest 25 = .ok (.iinc 3 1, 3) := by decide +kernel
theorem dX4_digest_28 : decode cX4_digest 28 = .ok (.goto (-22), 3) := by decide +kernel
theorem dX4_digest_31 : decode cX4_digest 31 = .ok (.ldc2_w 297, 3) := by decide +kernel
theorem dX4_digest_34 : decode cX4_digest 34 = .ok (.lload_n 1, 1) := by decide +kernel
theorem dX4_digest_35 : decode cX4_digest 35 = .ok (.lmul, 1) := by decide +kernel
theorem dX4_digest_36 : decode cX4_digest 36 = .ok (.aload_n 0, 1) := by decide +kernel
theorem dX4_digest_37 : decode cX4_digest 37 = .ok (.getfield 39, 3) := by decide +kernel
theorem dX4_digest_40 : decode cX4_digest 40 = .ok (.getfield 289, 3) := by decide +kernel
theorem dX4_digest_43 : decode cX4_digest 43 = .ok (.i2l, 1) := by decide +kernel
theorem dX4_digest_44 : decode cX4_digest 44 = .ok (.ladd, 1) := by decide +kernel
theorem dX4_digest_45 : decode cX4_digest 45 = .ok (.ldc2_w 299, 3) := by decide +kernel
theorem dX4_digest_48 : decode cX4_digest 48 = .ok (.ladd, 1) := by decide +kernel
theorem dX4_digest_49 : decode cX4_digest 49 = .ok (.lstore_n 1, 1) := by decide +kernel
theorem dX4_digest_50 : decode cX4_digest 50 = .ok (.iconst 0, 1) := by decide +kernel
theorem dX4_digest_51 : decode cX4_digest 51 = .ok (.istore_n 3, 1) := by decide +kernel
theorem dX4_digest_52 : decode cX4_digest 52 = .ok (.iload_n 3, 1) := by decide +kernel
theorem dX4_digest_53 : decode cX4_digest 53 = .ok (.aload_n 0, 1) := by decide +kernel
theorem dX4_digest_54 : decode cX4_digest 54 = .ok (.getfield 31, 3) := by decide +kernel
theorem dX4_digest_57 : decode cX4_digest 57 = .ok (.getfield 134, 3) := by decide +kernel
theorem dX4_digest_60 : decode cX4_digest 60 = .ok (.if_icmp .ge 26, 3) := by decide +kernel
theorem dX4_digest_63 : decode cX4_digest 63 = .ok (.ldc2_w 297, 3) := by decide +kernel
theorem dX4_digest_66 : decode cX4_digest 66 = .ok (.lload_n 1, 1) := by decide +kernel
theorem dX4_digest_67 : decode cX4_digest 67 = .ok (.lmul, 1) := by decide +kernel
theorem dX4_digest_68 : decode cX4_digest 68 = .ok (.aload_n 0, 1) := by decide +kernel
theorem dX4_digest_69 : decode cX4_digest 69 = .ok (.getfield 31, 3) := by decide +kernel
theorem dX4_digest_72 : decode cX4_digest 72 = .ok (.getfield 137, 3) := by decide +kernel
theorem dX4_digest_75 : decode cX4_digest 75 = .ok (.iload_n 3, 1) := by decide +kernel
theorem dX4_digest_76 : decode cX4_digest 76 = .ok (.iaload, 1) := by decide +kernel
theorem dX4_digest_77 : decode cX4_digest 77 = .ok (.i2l, 1) := by decide +kernel
theorem dX4_digest_78 : decode cX4_digest 78 = .ok (.ladd, 1) := by decide +kernel
theorem dX4_digest_79 : decode cX4_digest 79 = .ok (.lstore_n 1, 1) := by decide +kernel
theorem dX4_digest_80 : decode cX4_digest 80 = .ok (.iinc 3 1, 3) := by decide +kernel
theorem dX4_digest_83 : decode cX4_digest 83 = .ok (.goto (-31), 3) := by decide +kernel
theorem dX4_digest_86 : decode cX4_digest 86 = .ok (.iconst 0, 1) := by decide +kernel
theorem dX4_digest_87 : decode cX4_digest 87 = .ok (.istore_n 3, 1) := by decide +kernel
theorem dX4_digest_88 : decode cX4_digest 88 = .ok (.iload_n 3, 1) := by decide +kernel
theorem dX4_digest_89 : decode cX4_digest 89 = .ok (.aload_n 0, 1) := by decide +kernel
theorem dX4_digest_90 : decode cX4_digest 90 = .ok (.getfield 31, 3) := by decide +kernel
theorem dX4_digest_93 : decode cX4_digest 93 = .ok (.getfield 114, 3) := by decide +kernel
theorem dX4_digest_96 : decode cX4_digest 96 = .ok (.if_icmp .ge 43, 3) := by decide +kernel
theorem dX4_digest_99 : decode cX4_digest 99 = .ok (.iconst 0, 1) := by decide +kernel
theorem dX4_digest_100 : decode cX4_digest 100 = .ok (.istore 4, 2) := by decide +kernel
theorem dX4_digest_102 : decode cX4_digest 102 = .ok (.iload 4, 2) := by decide +kernel
theorem dX4_digest_104 : decode cX4_digest 104 = .ok (.bipush 8, 2) := by decide +kernel
theorem dX4_digest_106 : decode cX4_digest 106 = .ok (.if_icmp .ge 27, 3) := by decide +kernel
theorem dX4_digest_109 : decode cX4_digest 109 = .ok (.ldc2_w 297, 3) := by decide +kernel
theorem dX4_digest_112 : decode cX4_digest 112 = .ok (.lload_n 1, 1) := by decide +kernel
theorem dX4_digest_113 : decode cX4_digest 113 = .ok (.lmul, 1) := by decide +kernel
theorem dX4_digest_114 : decode cX4_digest 114 = .ok (.aload_n 0, 1) := by decide +kernel
theorem dX4_digest_115 : decode cX4_digest 115 = .ok (.getfield 39, 3) := by decide +kernel
theorem dX4_digest_118 : decode cX4_digest 118 = .ok (.iload_n 3, 1) := by decide +kernel
theorem dX4_digest_119 : decode cX4_digest 119 = .ok (.iload 4, 2) := by decide +kernel
theorem dX4_digest_121 : decode cX4_digest 121 = .ok (.invokevirtual 121, 3) := by decide +kernel
theorem dX4_digest_124 : decode cX4_digest 124 = .ok (.i2l, 1) := by decide +kernel
theorem dX4_digest_125 : decode cX4_digest 125 = .ok (.ladd, 1) := by decide +kernel
theorem dX4_digest_126 : decode cX4_digest 126 = .ok (.lstore_n 1, 1) := by decide +kernel
theorem dX4_digest_127 : decode cX4_digest 127 = .ok (.iinc 4 1, 3) := by decide +kernel
theorem dX4_digest_130 : decode cX4_digest 130 = .ok (.goto (-28), 3) := by decide +kernel
theorem dX4_digest_133 : decode cX4_digest 133 = .ok (.iinc 3 1, 3) := by decide +kernel
theorem dX4_digest_136 : decode cX4_digest 136 = .ok (.goto (-48), 3) := by decide +kernel
theorem dX4_digest_139 : decode cX4_digest 139 = .ok (.iconst 0, 1) := by decide +kernel
theorem dX4_digest_140 : decode cX4_digest 140 = .ok (.istore_n 3, 1) := by decide +kernel
theorem dX4_digest_141 : decode cX4_digest 141 = .ok (.iload_n 3, 1) := by decide +kernel
theorem dX4_digest_142 : decode cX4_digest 142 = .ok (.iconst 3, 1) := by decide +kernel
theorem dX4_digest_143 : decode cX4_digest 143 = .ok (.if_icmp .ge 25, 3) := by decide +kernel
theorem dX4_digest_146 : decode cX4_digest 146 = .ok (.ldc2_w 297, 3) := by decide +kernel
theorem dX4_digest_149 : decode cX4_digest 149 = .ok (.lload_n 1, 1) := by decide +kernel
theorem dX4_digest_150 : decode cX4_digest 150 = .ok (.lmul, 1) := by decide +kernel
theorem dX4_digest_151 : decode cX4_digest 151 = .ok (.aload_n 0, 1) := by decide +kernel
theorem dX4_digest_152 : decode cX4_digest 152 = .ok (.getfield 21, 3) := by decide +kernel
theorem dX4_digest_155 : decode cX4_digest 155 = .ok (.iload_n 3, 1) := by decide +kernel
theorem dX4_digest_156 : decode cX4_digest 156 = .ok (.invokevirtual 105, 3) := by decide +kernel
theorem dX4_digest_159 : decode cX4_digest 159 = .ok (.i2l, 1) := by decide +kernel
theorem dX4_digest_160 : decode cX4_digest 160 = .ok (.ladd, 1) := by decide +kernel
theorem dX4_digest_161 : decode cX4_digest 161 = .ok (.lstore_n 1, 1) := by decide +kernel
theorem dX4_digest_162 : decode cX4_digest 162 = .ok (.iinc 3 1, 3) := by decide +kernel
theorem dX4_digest_165 : decode cX4_digest 165 = .ok (.goto (-24), 3) := by decide +kernel
theorem dX4_digest_168 : decode cX4_digest 168 = .ok (.aload_n 0, 1) := by decide +kernel
theorem dX4_digest_169 : decode cX4_digest 169 = .ok (.getfield 18, 3) := by decide +kernel
theorem dX4_digest_172 : decode cX4_digest 172 = .ok (.aload_n 0, 1) := by decide +kernel
theorem dX4_digest_173 : decode cX4_digest 173 = .ok (.getfield 14, 3) := by decide +kernel
theorem dX4_digest_176 : decode cX4_digest 176 = .ok (.lload_n 1, 1) := by decide +kernel
theorem dX4_digest_177 : decode cX4_digest 177 = .ok (.invokevirtual 301, 3) := by decide +kernel
theorem dX4_digest_180 : decode cX4_digest 180 = .ok (.invokevirtual 301, 3) := by decide +kernel
theorem dX4_digest_183 : decode cX4_digest 183 = .ok (.lreturn, 1) := by decide +kernel
theorem dX4_tell_0 : decode cX4_tell 0 = .ok (.aload_n 0, 1) := by decide +kernel
theorem dX4_tell_1 : decode cX4_tell 1 = .ok (.iload_n 1, 1) := by decide +kernel
theorem dX4_tell_2 : decode cX4_tell 2 = .ok (.putfield 280, 3) := by decide +kernel
theorem dX4_tell_5 : decode cX4_tell 5 = .ok (.iconst 1, 1) := by decide +kernel
theorem dX4_tell_6 : decode cX4_tell 6 = .ok (.ireturn, 1) := by decide +kernel
theorem dX4_tellFraction_0 : decode cX4_tellFraction 0 = .ok (.lload_n 1, 1) := by decide +kernel
theorem dX4_tellFraction_1 : decode cX4_tellFraction 1 = .ok (.invokestatic 305, 3) := by decide +kernel
theorem dX4_tellFraction_4 : decode cX4_tellFraction 4 = .ok (.lload_n 3, 1) := by decide +kernel
theorem dX4_tellFraction_5 : decode cX4_tellFraction 5 = .ok (.invokestatic 308, 3) := by decide +kernel
theorem dX4_tellFraction_8 : decode cX4_tellFraction 8 = .ok (.lstore 5, 2) := by decide +kernel
theorem dX4_tellFraction_10 : decode cX4_tellFraction 10 = .ok (.lload 5, 2) := by decide +kernel
theorem dX4_tellFraction_12 : decode cX4_tellFraction 12 = .ok (.lconst 0, 1) := by decide +kernel
theorem dX4_tellFraction_13 : decode cX4_tellFraction 13 = .ok (.lcmp, 1) := by decide +kernel
theorem dX4_tellFraction_14 : decode cX4_tellFraction 14 = .ok (.ifCond .le 19, 3) := by decide +kernel
theorem dX4_tellFraction_17 : decode cX4_tellFraction 17 = .ok (.aload_n 0, 1) := by decide +kernel
theorem dX4_tellFraction_18 : decode cX4_tellFraction 18 = .ok (.lload_n 1, 1) := by decide +kernel
theorem dX4_tellFraction_19 : decode cX4_tellFraction 19 = .ok (.lload 5, 2) := by decide +kernel
theorem dX4_tellFraction_21 : decode cX4_tellFraction 21 = .ok (.ldiv, 1) := by decide +kernel
theorem dX4_tellFraction_22 : decode cX4_tellFraction 22 = .ok (.putfield 283, 3) := by decide +kernel
theorem dX4_tellFraction_25 : decode cX4_tellFraction 25 = .ok (.aload_n 0, 1) := by decide +kernel
theorem dX4_tellFraction_26 : decode cX4_tellFraction 26 = .ok (.lload_n 3, 1) := by decide +kernel
theorem dX4_tellFraction_27 : decode cX4_tellFraction 27 = .ok (.lload 5, 2) := by decide +kernel
theorem dX4_tellFraction_29 : decode cX4_tellFraction 29 = .ok (.ldiv, 1) := by decide +kernel
theorem dX4_tellFraction_30 : decode cX4_tellFraction 30 = .ok (.putfield 56, 3) := by decide +kernel
theorem dX4_tellFraction_33 : decode cX4_tellFraction 33 = .ok (.return_, 1) := by decide +kernel
theorem dX4_greatestDivisor_0 : decode cX4_greatestDivisor 0 = .ok (.lload_n 0, 1) := by decide +kernel
theorem dX4_greatestDivisor_1 : decode cX4_greatestDivisor 1 = .ok (.lstore 4, 2) := by decide +kernel
theorem dX4_greatestDivisor_3 : decode cX4_greatestDivisor 3 = .ok (.lload_n 2, 1) := by decide +kernel
theorem dX4_greatestDivisor_4 : decode cX4_greatestDivisor 4 = .ok (.lstore 6, 2) := by decide +kernel
theorem dX4_greatestDivisor_6 : decode cX4_greatestDivisor 6 = .ok (.iconst 0, 1) := by decide +kernel
theorem dX4_greatestDivisor_7 : decode cX4_greatestDivisor 7 = .ok (.istore 8, 2) := by decide +kernel
theorem dX4_greatestDivisor_9 : decode cX4_greatestDivisor 9 = .ok (.iload 8, 2) := by decide +kernel
theorem dX4_greatestDivisor_11 : decode cX4_greatestDivisor 11 = .ok (.bipush 100, 2) := by decide +kernel
theorem dX4_greatestDivisor_13 : decode cX4_greatestDivisor 13 = .ok (.if_icmp .ge 31, 3) := by decide +kernel
theorem dX4_greatestDivisor_16 : decode cX4_greatestDivisor 16 = .ok (.lload 6, 2) := by decide +kernel
theorem dX4_greatestDivisor_18 : decode cX4_greatestDivisor 18 = .ok (.lconst 0, 1) := by decide +kernel
theorem dX4_greatestDivisor_19 : decode cX4_greatestDivisor 19 = .ok (.lcmp, 1) := by decide +kernel
theorem dX4_greatestDivisor_20 : decode cX4_greatestDivisor 20 = .ok (.ifCond .eq 24, 3) := by decide +kernel
theorem dX4_greatestDivisor_23 : decode cX4_greatestDivisor 23 = .ok (.lload 4, 2) := by decide +kernel
theorem dX4_greatestDivisor_25 : decode cX4_greatestDivisor 25 = .ok (.lload 6, 2) := by decide +kernel
theorem dX4_greatestDivisor_27 : decode cX4_greatestDivisor 27 = .ok (.lrem, 1) := by decide +kernel
theorem dX4_greatestDivisor_28 : decode cX4_greatestDivisor 28 = .ok (.lstore 9, 2) := by decide +kernel
theorem dX4_greatestDivisor_30 : decode cX4_greatestDivisor 30 = .ok (.lload 6, 2) := by decide +kernel
theorem dX4_greatestDivisor_32 : decode cX4_greatestDivisor 32 = .ok (.lstore 4, 2) := by decide +kernel
theorem dX4_greatestDivisor_34 : decode cX4_greatestDivisor 34 = .ok (.lload 9, 2) := by decide +kernel
theorem dX4_greatestDivisor_36 : decode cX4_greatestDivisor 36 = .ok (.lstore 6, 2) := by decide +kernel
theorem dX4_greatestDivisor_38 : decode cX4_greatestDivisor 38 = .ok (.iinc 8 1, 3) := by decide +kernel
theorem dX4_greatestDivisor_41 : decode cX4_greatestDivisor 41 = .ok (.goto (-32), 3) := by decide +kernel
theorem dX4_greatestDivisor_44 : decode cX4_greatestDivisor 44 = .ok (.lload 4, 2) := by decide +kernel
theorem dX4_greatestDivisor_46 : decode cX4_greatestDivisor 46 = .ok (.lreturn, 1) := by decide +kernel
theorem dX4_refuse_0 : decode cX4_refuse 0 = .ok (.aload_n 0, 1) := by decide +kernel
theorem dX4_refuse_1 : decode cX4_refuse 1 = .ok (.iload_n 1, 1) := by decide +kernel
theorem dX4_refuse_2 : decode cX4_refuse 2 = .ok (.putfield 292, 3) := by decide +kernel
theorem dX4_refuse_5 : decode cX4_refuse 5 = .ok (.iload_n 1, 1) := by decide +kernel
theorem dX4_refuse_6 : decode cX4_refuse 6 = .ok (.ifCond .lt 22, 3) := by decide +kernel
theorem dX4_refuse_9 : decode cX4_refuse 9 = .ok (.iload_n 1, 1) := by decide +kernel
theorem dX4_refuse_10 : decode cX4_refuse 10 = .ok (.aload_n 0, 1) := by decide +kernel
theorem dX4_refuse_11 : decode cX4_refuse 11 = .ok (.getfield 52, 3) := by decide +kernel
theorem dX4_refuse_14 : decode cX4_refuse 14 = .ok (.arraylength, 1) := by decide +kernel
theorem dX4_refuse_15 : decode cX4_refuse 15 = .ok (.if_icmp .ge 13, 3) := by decide +kernel
theorem dX4_refuse_18 : decode cX4_refuse 18 = .ok (.aload_n 0, 1) := by decide +kernel
theorem dX4_refuse_19 : decode cX4_refuse 19 = .ok (.getfield 52, 3) := by decide +kernel
theorem dX4_refuse_22 : decode cX4_refuse 22 = .ok (.iload_n 1, 1) := by decide +kernel
theorem dX4_refuse_23 : decode cX4_refuse 23 = .ok (.dup2, 1) := by decide +kernel
theorem dX4_refuse_24 : decode cX4_refuse 24 = .ok (.iaload, 1) := by decide +kernel
theorem dX4_refuse_25 : decode cX4_refuse 25 = .ok (.iconst 1, 1) := by decide +kernel
theorem dX4_refuse_26 : decode cX4_refuse 26 = .ok (.iadd, 1) := by decide +kernel
theorem dX4_refuse_27 : decode cX4_refuse 27 = .ok (.iastore, 1) := by decide +kernel
theorem dX4_refuse_28 : decode cX4_refuse 28 = .ok (.bipush (-3), 2) := by decide +kernel
theorem dX4_refuse_30 : decode cX4_refuse 30 = .ok (.ireturn, 1) := by decide +kernel
theorem dX4_refusalOfPlace_0 : decode cX4_refusalOfPlace 0 = .ok (.aload_n 1, 1) := by decide +kernel
theorem dX4_refusalOfPlace_1 : decode cX4_refusalOfPlace 1 = .ok (.iload_n 2, 1) := by decide +kernel
theorem dX4_refusalOfPlace_2 : decode cX4_refusalOfPlace 2 = .ok (.invokevirtual 60, 3) := by decide +kernel
theorem dX4_refusalOfPlace_5 : decode cX4_refusalOfPlace 5 = .ok (.ifCond .ne 5, 3) := by decide +kernel
theorem dX4_refusalOfPlace_8 : decode cX4_refusalOfPlace 8 = .ok (.iconst (-1), 1) := by decide +kernel
theorem dX4_refusalOfPlace_9 : decode cX4_refusalOfPlace 9 = .ok (.ireturn, 1) := by decide +kernel
theorem dX4_refusalOfPlace_10 : decode cX4_refusalOfPlace 10 = .ok (.aload_n 1, 1) := by decide +kernel
theorem dX4_refusalOfPlace_11 : decode cX4_refusalOfPlace 11 = .ok (.iload_n 2, 1) := by decide +kernel
theorem dX4_refusalOfPlace_12 : decode cX4_refusalOfPlace 12 = .ok (.invokevirtual 94, 3) := by decide +kernel
theorem dX4_refusalOfPlace_15 : decode cX4_refusalOfPlace 15 = .ok (.ifCond .eq 7, 3) := by decide +kernel
theorem dX4_refusalOfPlace_18 : decode cX4_refusalOfPlace 18 = .ok (.iconst 0, 1) := by decide +kernel
theorem dX4_refusalOfPlace_19 : decode cX4_refusalOfPlace 19 = .ok (.goto 8, 3) := by decide +kernel
theorem dX4_refusalOfPlace_22 : decode cX4_refusalOfPlace 22 = .ok (.aload_n 0, 1) := by decide +kernel
theorem dX4_refusalOfPlace_23 : decode cX4_refusalOfPlace 23 = .ok (.iconst 1, 1) := by decide +kernel
theorem dX4_refusalOfPlace_24 : decode cX4_refusalOfPlace 24 = .ok (.invokevirtual 64, 3) := by decide +kernel
theorem dX4_refusalOfPlace_27 : decode cX4_refusalOfPlace 27 = .ok (.ireturn, 1) := by decide +kernel
theorem dX4_refusalOfItem_0 : decode cX4_refusalOfItem 0 = .ok (.aload_n 0, 1) := by decide +kernel
theorem dX4_refusalOfItem_1 : decode cX4_refusalOfItem 1 = .ok (.aload_n 1, 1) := by decide +kernel
theorem dX4_refusalOfItem_2 : decode cX4_refusalOfItem 2 = .ok (.iload_n 2, 1) := by decide +kernel
theorem dX4_refusalOfItem_3 : decode cX4_refusalOfItem 3 = .ok (.invokevirtual 86, 3) := by decide +kernel
theorem dX4_refusalOfItem_6 : decode cX4_refusalOfItem 6 = .ok (.istore 4, 2) := by decide +kernel
theorem dX4_refusalOfItem_8 : decode cX4_refusalOfItem 8 = .ok (.iload 4, 2) := by decide +kernel
theorem dX4_refusalOfItem_10 : decode cX4_refusalOfItem 10 = .ok (.ifCond .eq 6, 3) := by decide +kernel
theorem dX4_refusalOfItem_13 : decode cX4_refusalOfItem 13 = .ok (.iload 4, 2) := by decide +kernel
theorem dX4_refusalOfItem_15 : decode cX4_refusalOfItem 15 = .ok (.ireturn, 1) := by decide +kernel
theorem dX4_refusalOfItem_16 : decode cX4_refusalOfItem 16 = .ok (.aload_n 1, 1) := by decide +kernel
theorem dX4_refusalOfItem_17 : decode cX4_refusalOfItem 17 = .ok (.iload_n 2, 1) := by decide +kernel
theorem dX4_refusalOfItem_18 : decode cX4_refusalOfItem 18 = .ok (.iload_n 3, 1) := by decide +kernel
theorem dX4_refusalOfItem_19 : decode cX4_refusalOfItem 19 = .ok (.invokevirtual 312, 3) := by decide +kernel
theorem dX4_refusalOfItem_22 : decode cX4_refusalOfItem 22 = .ok (.ifCond .eq 7, 3) := by decide +kernel
theorem dX4_refusalOfItem_25 : decode cX4_refusalOfItem 25 = .ok (.iconst 0, 1) := by decide +kernel
theorem dX4_refusalOfItem_26 : decode cX4_refusalOfItem 26 = .ok (.goto 8, 3) := by decide +kernel
theorem dX4_refusalOfItem_29 : decode cX4_refusalOfItem 29 = .ok (.aload_n 0, 1) := by decide +kernel
theorem dX4_refusalOfItem_30 : decode cX4_refusalOfItem 30 = .ok (.iconst 2, 1) := by decide +kernel
theorem dX4_refusalOfItem_31 : decode cX4_refusalOfItem 31 = .ok (.invokevirtual 64, 3) := by decide +kernel
theorem dX4_refusalOfItem_34 : decode cX4_refusalOfItem 34 = .ok (.ireturn, 1) := by decide +kernel
theorem dX4_refusalOfNotices_0 : decode cX4_refusalOfNotices 0 = .ok (.aload_n 0, 1) := by decide +kernel
theorem dX4_refusalOfNotices_1 : decode cX4_refusalOfNotices 1 = .ok (.getfield 31, 3) := by decide +kernel
theorem dX4_refusalOfNotices_4 : decode cX4_refusalOfNotices 4 = .ok (.iload_n 1, 1) := by decide +kernel
theorem dX4_refusalOfNotices_5 : decode cX4_refusalOfNotices 5 = .ok (.invokevirtual 118, 3) := by decide +kernel
theorem dX4_refusalOfNotices_8 : decode cX4_refusalOfNotices 8 = .ok (.ifCond .eq 14, 3) := by decide +kernel
theorem dX4_refusalOfNotices_11 : decode cX4_refusalOfNotices 11 = .ok (.aload_n 0, 1) := by decide +kernel
theorem dX4_refusalOfNotices_12 : decode cX4_refusalOfNotices 12 = .ok (.getfield 14, 3) := by decide +kernel
theorem dX4_refusalOfNotices_15 : decode cX4_refusalOfNotices 15 = .ok (.iload_n 2, 1) := by decide +kernel
theorem dX4_refusalOfNotices_16 : decode cX4_refusalOfNotices 16 = .ok (.invokevirtual 60, 3) := by decide +kernel
theorem dX4_refusalOfNotices_19 : decode cX4_refusalOfNotices 19 = .ok (.ifCond .ne 5, 3) := by decide +kernel
theorem dX4_refusalOfNotices_22 : decode cX4_refusalOfNotices 22 = .ok (.iconst (-1), 1) := by decide +kernel
theorem dX4_refusalOfNotices_23 : decode cX4_refusalOfNotices 23 = .ok (.ireturn, 1) := by decide +kernel
theorem dX4_refusalOfNotices_24 : decode cX4_refusalOfNotices 24 = .ok (.aload_n 0, 1) := by decide +kernel
theorem dX4_refusalOfNotices_25 : decode cX4_refusalOfNotices 25 = .ok (.getfield 14, 3) := by decide +kernel
theorem dX4_refusalOfNotices_28 : decode cX4_refusalOfNotices 28 = .ok (.iload_n 2, 1) := by decide +kernel
theorem dX4_refusalOfNotices_29 : decode cX4_refusalOfNotices 29 = .ok (.invokevirtual 94, 3) := by decide +kernel
theorem dX4_refusalOfNotices_32 : decode cX4_refusalOfNotices 32 = .ok (.ifCond .ne 9, 3) := by decide +kernel
theorem dX4_refusalOfNotices_35 : decode cX4_refusalOfNotices 35 = .ok (.aload_n 0, 1) := by decide +kernel
theorem dX4_refusalOfNotices_36 : decode cX4_refusalOfNotices 36 = .ok (.iconst 1, 1) := by decide +kernel
theorem dX4_refusalOfNotices_37 : decode cX4_refusalOfNotices 37 = .ok (.invokevirtual 64, 3) := by decide +kernel
theorem dX4_refusalOfNotices_40 : decode cX4_refusalOfNotices 40 = .ok (.ireturn, 1) := by decide +kernel
theorem dX4_refusalOfNotices_41 : decode cX4_refusalOfNotices 41 = .ok (.aload_n 0, 1) := by decide +kernel
theorem dX4_refusalOfNotices_42 : decode cX4_refusalOfNotices 42 = .ok (.getfield 14, 3) := by decide +kernel
theorem dX4_refusalOfNotices_45 : decode cX4_refusalOfNotices 45 = .ok (.iload_n 2, 1) := by decide +kernel
theorem dX4_refusalOfNotices_46 : decode cX4_refusalOfNotices 46 = .ok (.invokevirtual 105, 3) := by decide +kernel
theorem dX4_refusalOfNotices_49 : decode cX4_refusalOfNotices 49 = .ok (.iconst 3, 1) := by decide +kernel
theorem dX4_refusalOfNotices_50 : decode cX4_refusalOfNotices 50 = .ok (.irem, 1) := by decide +kernel
theorem dX4_refusalOfNotices_51 : decode cX4_refusalOfNotices 51 = .ok (.ifCond .eq 9, 3) := by decide +kernel
theorem dX4_refusalOfNotices_54 : decode cX4_refusalOfNotices 54 = .ok (.aload_n 0, 1) := by decide +kernel
theorem dX4_refusalOfNotices_55 : decode cX4_refusalOfNotices 55 = .ok (.iconst 5, 1) := by decide +kernel
theorem dX4_refusalOfNotices_56 : decode cX4_refusalOfNotices 56 = .ok (.invokevirtual 64, 3) := by decide +kernel
theorem dX4_refusalOfNotices_59 : decode cX4_refusalOfNotices 59 = .ok (.ireturn, 1) := by decide +kernel
theorem dX4_refusalOfNotices_60 : decode cX4_refusalOfNotices 60 = .ok (.aload_n 0, 1) := by decide +kernel
theorem dX4_refusalOfNotices_61 : decode cX4_refusalOfNotices 61 = .ok (.iload_n 2, 1) := by decide +kernel
theorem dX4_refusalOfNotices_62 : decode cX4_refusalOfNotices 62 = .ok (.invokevirtual 315, 3) := by decide +kernel
theorem dX4_refusalOfNotices_65 : decode cX4_refusalOfNotices 65 = .ok (.ifCond .eq 7, 3) := by decide +kernel
theorem dX4_refusalOfNotices_68 : decode cX4_refusalOfNotices 68 = .ok (.iconst 0, 1) := by decide +kernel
theorem dX4_refusalOfNotices_69 : decode cX4_refusalOfNotices 69 = .ok (.goto 8, 3) := by decide +kernel
theorem dX4_refusalOfNotices_72 : decode cX4_refusalOfNotices 72 = .ok (.aload_n 0, 1) := by decide +kernel
theorem dX4_refusalOfNotices_73 : decode cX4_refusalOfNotices 73 = .ok (.iconst 3, 1) := by decide +kernel
theorem dX4_refusalOfNotices_74 : decode cX4_refusalOfNotices 74 = .ok (.invokevirtual 64, 3) := by decide +kernel
theorem dX4_refusalOfNotices_77 : decode cX4_refusalOfNotices 77 = .ok (.ireturn, 1) := by decide +kernel
theorem dX4_countOf_0 : decode cX4_countOf 0 = .ok (.iload_n 1, 1) := by decide +kernel
theorem dX4_countOf_1 : decode cX4_countOf 1 = .ok (.tableswitch 135 0 9 #[55, 63, 71, 79, 87, 95, 103, 111, 119, 127], 55) := by decide +kernel
theorem dX4_countOf_56 : decode cX4_countOf 56 = .ok (.aload_n 0, 1) := by decide +kernel
theorem dX4_countOf_57 : decode cX4_countOf 57 = .ok (.getfield 31, 3) := by decide +kernel
theorem dX4_countOf_60 : decode cX4_countOf 60 = .ok (.getfield 114, 3) := by decide +kernel
theorem dX4_countOf_63 : decode cX4_countOf 63 = .ok (.ireturn, 1) := by decide +kernel
theorem dX4_countOf_64 : decode cX4_countOf 64 = .ok (.aload_n 0, 1) := by decide +kernel
theorem dX4_countOf_65 : decode cX4_countOf 65 = .ok (.getfield 31, 3) := by decide +kernel
theorem dX4_countOf_68 : decode cX4_countOf 68 = .ok (.getfield 134, 3) := by decide +kernel
theorem dX4_countOf_71 : decode cX4_countOf 71 = .ok (.ireturn, 1) := by decide +kernel
theorem dX4_countOf_72 : decode cX4_countOf 72 = .ok (.aload_n 0, 1) := by decide +kernel
theorem dX4_countOf_73 : decode cX4_countOf 73 = .ok (.getfield 39, 3) := by decide +kernel
theorem dX4_countOf_76 : decode cX4_countOf 76 = .ok (.getfield 162, 3) := by decide +kernel
theorem dX4_countOf_79 : decode cX4_countOf 79 = .ok (.ireturn, 1) := by decide +kernel
theorem dX4_countOf_80 : decode cX4_countOf 80 = .ok (.aload_n 0, 1) := by decide +kernel
theorem dX4_countOf_81 : decode cX4_countOf 81 = .ok (.getfield 39, 3) := by decide +kernel
theorem dX4_countOf_84 : decode cX4_countOf 84 = .ok (.getfield 150, 3) := by decide +kernel
theorem dX4_countOf_87 : decode cX4_countOf 87 = .ok (.ireturn, 1) := by decide +kernel
theorem dX4_countOf_88 : decode cX4_countOf 88 = .ok (.aload_n 0, 1) := by decide +kernel
theorem dX4_countOf_89 : decode cX4_countOf 89 = .ok (.getfield 39, 3) := by decide +kernel
theorem dX4_countOf_92 : decode cX4_countOf 92 = .ok (.getfield 318, 3) := by decide +kernel
theorem dX4_countOf_95 : decode cX4_countOf 95 = .ok (.ireturn, 1) := by decide +kernel
theorem dX4_countOf_96 : decode cX4_countOf 96 = .ok (.aload_n 0, 1) := by decide +kernel
theorem dX4_countOf_97 : decode cX4_countOf 97 = .ok (.getfield 39, 3) := by decide +kernel
theorem dX4_countOf_100 : decode cX4_countOf 100 = .ok (.getfield 321, 3) := by decide +kernel
theorem dX4_countOf_103 : decode cX4_countOf 103 = .ok (.ireturn, 1) := by decide +kernel
theorem dX4_countOf_104 : decode cX4_countOf 104 = .ok (.aload_n 0, 1) := by decide +kernel
theorem dX4_countOf_105 : decode cX4_countOf 105 = .ok (.getfield 39, 3) := by decide +kernel
theorem dX4_countOf_108 : decode cX4_countOf 108 = .ok (.getfield 156, 3) := by decide +kernel
theorem dX4_countOf_111 : decode cX4_countOf 111 = .ok (.ireturn, 1) := by decide +kernel
theorem dX4_countOf_112 : decode cX4_countOf 112 = .ok (.aload_n 0, 1) := by decide +kernel
theorem dX4_countOf_113 : decode cX4_countOf 113 = .ok (.getfield 31, 3) := by decide +kernel
theorem dX4_countOf_116 : decode cX4_countOf 116 = .ok (.invokevirtual 324, 3) := by decide +kernel
theorem dX4_countOf_119 : decode cX4_countOf 119 = .ok (.ireturn, 1) := by decide +kernel
theorem dX4_countOf_120 : decode cX4_countOf 120 = .ok (.aload_n 0, 1) := by decide +kernel
theorem dX4_countOf_121 : decode cX4_countOf 121 = .ok (.getfield 14, 3) := by decide +kernel
theorem dX4_countOf_124 : decode cX4_countOf 124 = .ok (.invokevirtual 327, 3) := by decide +kernel
theorem dX4_countOf_127 : decode cX4_countOf 127 = .ok (.ireturn, 1) := by decide +kernel
theorem dX4_countOf_128 : decode cX4_countOf 128 = .ok (.aload_n 0, 1) := by decide +kernel
theorem dX4_countOf_129 : decode cX4_countOf 129 = .ok (.getfield 18, 3) := by decide +kernel
theorem dX4_countOf_132 : decode cX4_countOf 132 = .ok (.invokevirtual 327, 3) := by decide +kernel
theorem dX4_countOf_135 : decode cX4_countOf 135 = .ok (.ireturn, 1) := by decide +kernel
theorem dX4_countOf_136 : decode cX4_countOf 136 = .ok (.aload_n 0, 1) := by decide +kernel
theorem dX4_countOf_137 : decode cX4_countOf 137 = .ok (.getfield 21, 3) := by decide +kernel
theorem dX4_countOf_140 : decode cX4_countOf 140 = .ok (.invokevirtual 327, 3) := by decide +kernel
theorem dX4_countOf_143 : decode cX4_countOf 143 = .ok (.ireturn, 1) := by decide +kernel
theorem dX4_isPlan_0 : decode cX4_isPlan 0 = .ok (.aload_n 0, 1) := by decide +kernel
theorem dX4_isPlan_1 : decode cX4_isPlan 1 = .ok (.getfield 39, 3) := by decide +kernel
theorem dX4_isPlan_4 : decode cX4_isPlan 4 = .ok (.invokevirtual 144, 3) := by decide +kernel
theorem dX4_isPlan_7 : decode cX4_isPlan 7 = .ok (.istore_n 2, 1) := by decide +kernel
theorem dX4_isPlan_8 : decode cX4_isPlan 8 = .ok (.iconst 0, 1) := by decide +kernel
theorem dX4_isPlan_9 : decode cX4_isPlan 9 = .ok (.istore_n 3, 1) := by decide +kernel
theorem dX4_isPlan_10 : decode cX4_isPlan 10 = .ok (.iload_n 3, 1) := by decide +kernel
theorem dX4_isPlan_11 : decode cX4_isPlan 11 = .ok (.aload_n 0, 1) := by decide +kernel
theorem dX4_isPlan_12 : decode cX4_isPlan 12 = .ok (.getfield 14, 3) := by decide +kernel
theorem dX4_isPlan_15 : decode cX4_isPlan 15 = .ok (.iload_n 1, 1) := by decide +kernel
theorem dX4_isPlan_16 : decode cX4_isPlan 16 = .ok (.invokevirtual 105, 3) := by decide +kernel
theorem dX4_isPlan_19 : decode cX4_isPlan 19 = .ok (.if_icmp .ge 59, 3) := by decide +kernel
theorem dX4_isPlan_22 : decode cX4_isPlan 22 = .ok (.aload_n 0, 1) := by decide +kernel
theorem dX4_isPlan_23 : decode cX4_isPlan 23 = .ok (.getfield 14, 3) := by decide +kernel
theorem dX4_isPlan_26 : decode cX4_isPlan 26 = .ok (.iload_n 1, 1) := by decide +kernel
theorem dX4_isPlan_27 : decode cX4_isPlan 27 = .ok (.iload_n 3, 1) := by decide +kernel
theorem dX4_isPlan_28 : decode cX4_isPlan 28 = .ok (.invokevirtual 76, 3) := by decide +kernel
theorem dX4_isPlan_31 : decode cX4_isPlan 31 = .ok (.istore 4, 2) := by decide +kernel
theorem dX4_isPlan_33 : decode cX4_isPlan 33 = .ok (.iload 4, 2) := by decide +kernel
theorem dX4_isPlan_35 : decode cX4_isPlan 35 = .ok (.bipush (-9), 2) := by decide +kernel
theorem dX4_isPlan_37 : decode cX4_isPlan 37 = .ok (.if_icmp .eq 35, 3) := by decide +kernel
theorem dX4_isPlan_40 : decode cX4_isPlan 40 = .ok (.aload_n 0, 1) := by decide +kernel
theorem dX4_isPlan_41 : decode cX4_isPlan 41 = .ok (.getfield 31, 3) := by decide +kernel
theorem dX4_isPlan_44 : decode cX4_isPlan 44 = .ok (.iload 4, 2) := by decide +kernel
theorem dX4_isPlan_46 : decode cX4_isPlan 46 = .ok (.invokevirtual 118, 3) := by decide +kernel
theorem dX4_isPlan_49 : decode cX4_isPlan 49 = .ok (.ifCond .eq 12, 3) := by decide +kernel
theorem dX4_isPlan_52 : decode cX4_isPlan 52 = .ok (.iload_n 2, 1) := by decide +kernel
theorem dX4_isPlan_53 : decode cX4_isPlan 53 = .ok (.iload 4, 2) := by decide +kernel
theorem dX4_isPlan_55 : decode cX4_isPlan 55 = .ok (.invokestatic 147, 3) := by decide +kernel
theorem dX4_isPlan_58 : decode cX4_isPlan 58 = .ok (.ifCond .ne 5, 3) := by decide +kernel
theorem dX4_isPlan_61 : decode cX4_isPlan 61 = .ok (.iconst 0, 1) := by decide +kernel
theorem dX4_isPlan_62 : decode cX4_isPlan 62 = .ok (.ireturn, 1) := by decide +kernel
theorem dX4_isPlan_63 : decode cX4_isPlan 63 = .ok (.iload_n 2, 1) := by decide +kernel
theorem dX4_isPlan_64 : decode cX4_isPlan 64 = .ok (.iconst 1, 1) := by decide +kernel
theorem dX4_isPlan_65 : decode cX4_isPlan 65 = .ok (.iload 4, 2) := by decide +kernel
theorem dX4_isPlan_67 : decode cX4_isPlan 67 = .ok (.ishl, 1) := by decide +kernel
theorem dX4_isPlan_68 : decode cX4_isPlan 68 = .ok (.iconst (-1), 1) := by decide +kernel
theorem dX4_isPlan_69 : decode cX4_isPlan 69 = .ok (.ixor, 1) := by decide +kernel
theorem dX4_isPlan_70 : decode cX4_isPlan 70 = .ok (.iand, 1) := by decide +kernel
theorem dX4_isPlan_71 : decode cX4_isPlan 71 = .ok (.istore_n 2, 1) := by decide +kernel
theorem dX4_isPlan_72 : decode cX4_isPlan 72 = .ok (.iinc 3 1, 3) := by decide +kernel
theorem dX4_isPlan_75 : decode cX4_isPlan 75 = .ok (.goto (-65), 3) := by decide +kernel
theorem dX4_isPlan_78 : decode cX4_isPlan 78 = .ok (.iconst 1, 1) := by decide +kernel
theorem dX4_isPlan_79 : decode cX4_isPlan 79 = .ok (.ireturn, 1) := by decide +kernel
theorem dX4_areNotices_0 : decode cX4_areNotices 0 = .ok (.iconst 0, 1) := by decide +kernel
theorem dX4_areNotices_1 : decode cX4_areNotices 1 = .ok (.istore_n 2, 1) := by decide +kernel
theorem dX4_areNotices_2 : decode cX4_areNotices 2 = .ok (.iload_n 2, 1) := by decide +kernel
theorem dX4_areNotices_3 : decode cX4_areNotices 3 = .ok (.iconst 2, 1) := by decide +kernel
theorem dX4_areNotices_4 : decode cX4_areNotices 4 = .ok (.iadd, 1) := by decide +kernel
theorem dX4_areNotices_5 : decode cX4_areNotices 5 = .ok (.aload_n 0, 1) := by decide +kernel
theorem dX4_areNotices_6 : decode cX4_areNotices 6 = .ok (.getfield 14, 3) := by decide +kernel
theorem dX4_areNotices_9 : decode cX4_areNotices 9 = .ok (.iload_n 1, 1) := by decide +kernel
theorem dX4_areNotices_10 : decode cX4_areNotices 10 = .ok (.invokevirtual 105, 3) := by decide +kernel
theorem dX4_areNotices_13 : decode cX4_areNotices 13 = .ok (.if_icmp .ge 83, 3) := by decide +kernel
theorem dX4_areNotices_16 : decode cX4_areNotices 16 = .ok (.aload_n 0, 1) := by decide +kernel
theorem dX4_areNotices_17 : decode cX4_areNotices 17 = .ok (.getfield 14, 3) := by decide +kernel
theorem dX4_areNotices_20 : decode cX4_areNotices 20 = .ok (.iload_n 1, 1) := by decide +kernel
theorem dX4_areNotices_21 : decode cX4_areNotices 21 = .ok (.iload_n 2, 1) := by decide +kernel
theorem dX4_areNotices_22 : decode cX4_areNotices 22 = .ok (.invokevirtual 76, 3) := by decide +kernel
theorem dX4_areNotices_25 : decode cX4_areNotices 25 = .ok (.istore_n 3, 1) := by decide +kernel
theorem dX4_areNotices_26 : decode cX4_areNotices 26 = .ok (.aload_n 0, 1) := by decide +kernel
theorem dX4_areNotices_27 : decode cX4_areNotices 27 = .ok (.getfield 14, 3) := by decide +kernel
theorem dX4_areNotices_30 : decode cX4_areNotices 30 = .ok (.iload_n 1, 1) := by decide +kernel
theorem dX4_areNotices_31 : decode cX4_areNotices 31 = .ok (.iload_n 2, 1) := by decide +kernel
theorem dX4_areNotices_32 : decode cX4_areNotices 32 = .ok (.iconst 1, 1) := by decide +kernel
theorem dX4_areNotices_33 : decode cX4_areNotices 33 = .ok (.iadd, 1) := by decide +kernel
theorem dX4_areNotices_34 : decode cX4_areNotices 34 = .ok (.invokevirtual 76, 3) := by decide +kernel
theorem dX4_areNotices_37 : decode cX4_areNotices 37 = .ok (.istore 4, 2) := by decide +kernel
theorem dX4_areNotices_39 : decode cX4_areNotices 39 = .ok (.aload_n 0, 1) := by decide +kernel
theorem dX4_areNotices_40 : decode cX4_areNotices 40 = .ok (.getfield 14, 3) := by decide +kernel
theorem dX4_areNotices_43 : decode cX4_areNotices 43 = .ok (.iload_n 1, 1) := by decide +kernel
theorem dX4_areNotices_44 : decode cX4_areNotices 44 = .ok (.iload_n 2, 1) := by decide +kernel
theorem dX4_areNotices_45 : decode cX4_areNotices 45 = .ok (.iconst 2, 1) := by decide +kernel
theorem dX4_areNotices_46 : decode cX4_areNotices 46 = .ok (.iadd, 1) := by decide +kernel
theorem dX4_areNotices_47 : decode cX4_areNotices 47 = .ok (.invokevirtual 76, 3) := by decide +kernel
theorem dX4_areNotices_50 : decode cX4_areNotices 50 = .ok (.istore 5, 2) := by decide +kernel
theorem dX4_areNotices_52 : decode cX4_areNotices 52 = .ok (.iload_n 3, 1) := by decide +kernel
theorem dX4_areNotices_53 : decode cX4_areNotices 53 = .ok (.iconst 1, 1) := by decide +kernel
theorem dX4_areNotices_54 : decode cX4_areNotices 54 = .ok (.if_icmp .lt 34, 3) := by decide +kernel
theorem dX4_areNotices_57 : decode cX4_areNotices 57 = .ok (.iload_n 3, 1) := by decide +kernel
theorem dX4_areNotices_58 : decode cX4_areNotices 58 = .ok (.bipush 9, 2) := by decide +kernel
theorem dX4_areNotices_60 : decode cX4_areNotices 60 = .ok (.if_icmp .gt 28, 3) := by decide +kernel
theorem dX4_areNotices_63 : decode cX4_areNotices 63 = .ok (.iload 4, 2) := by decide +kernel
theorem dX4_areNotices_65 : decode cX4_areNotices 65 = .ok (.bipush (-9), 2) := by decide +kernel
theorem dX4_areNotices_67 : decode cX4_areNotices 67 = .ok (.if_icmp .lt 21, 3) := by decide +kernel
theorem dX4_areNotices_70 : decode cX4_areNotices 70 = .ok (.iload 4, 2) := by decide +kernel
theorem dX4_areNotices_72 : decode cX4_areNotices 72 = .ok (.bipush 20, 2) := by decide +kernel
theorem dX4_areNotices_74 : decode cX4_areNotices 74 = .ok (.if_icmp .gt 14, 3) := by decide +kernel
theorem dX4_areNotices_77 : decode cX4_areNotices 77 = .ok (.iload 5, 2) := by decide +kernel
theorem dX4_areNotices_79 : decode cX4_areNotices 79 = .ok (.ifCond .lt 9, 3) := by decide +kernel
theorem dX4_areNotices_82 : decode cX4_areNotices 82 = .ok (.iload 5, 2) := by decide +kernel
theorem dX4_areNotices_84 : decode cX4_areNotices 84 = .ok (.iconst 1, 1) := by decide +kernel
theorem dX4_areNotices_85 : decode cX4_areNotices 85 = .ok (.if_icmp .le 5, 3) := by decide +kernel
theorem dX4_areNotices_88 : decode cX4_areNotices 88 = .ok (.iconst 0, 1) := by decide +kernel
theorem dX4_areNotices_89 : decode cX4_areNotices 89 = .ok (.ireturn, 1) := by decide +kernel
theorem dX4_areNotices_90 : decode cX4_areNotices 90 = .ok (.iinc 2 3, 3) := by decide +kernel
theorem dX4_areNotices_93 : decode cX4_areNotices 93 = .ok (.goto (-91), 3) := by decide +kernel
theorem dX4_areNotices_96 : decode cX4_areNotices 96 = .ok (.iconst 1, 1) := by decide +kernel
theorem dX4_areNotices_97 : decode cX4_areNotices 97 = .ok (.ireturn, 1) := by decide +kernel
theorem dX4_fitsNotices_0 : decode cX4_fitsNotices 0 = .ok (.iconst 0, 1) := by decide +kernel
theorem dX4_fitsNotices_1 : decode cX4_fitsNotices 1 = .ok (.istore 6, 2) := by decide +kernel
theorem dX4_fitsNotices_3 : decode cX4_fitsNotices 3 = .ok (.iload 6, 2) := by decide +kernel
theorem dX4_fitsNotices_5 : decode cX4_fitsNotices 5 = .ok (.iconst 2, 1) := by decide +kernel
theorem dX4_fitsNotices_6 : decode cX4_fitsNotices 6 = .ok (.iadd, 1) := by decide +kernel
theorem dX4_fitsNotices_7 : decode cX4_fitsNotices 7 = .ok (.aload_n 0, 1) := by decide +kernel
theorem dX4_fitsNotices_8 : decode cX4_fitsNotices 8 = .ok (.getfield 14, 3) := by decide +kernel
theorem dX4_fitsNotices_11 : decode cX4_fitsNotices 11 = .ok (.iload_n 1, 1) := by decide +kernel
theorem dX4_fitsNotices_12 : decode cX4_fitsNotices 12 = .ok (.invokevirtual 105, 3) := by decide +kernel
theorem dX4_fitsNotices_15 : decode cX4_fitsNotices 15 = .ok (.if_icmp .ge 82, 3) := by decide +kernel
theorem dX4_fitsNotices_18 : decode cX4_fitsNotices 18 = .ok (.iload_n 2, 1) := by decide +kernel
theorem dX4_fitsNotices_19 : decode cX4_fitsNotices 19 = .ok (.iload_n 3, 1) := by decide +kernel
theorem dX4_fitsNotices_20 : decode cX4_fitsNotices 20 = .ok (.iload 4, 2) := by decide +kernel
theorem dX4_fitsNotices_22 : decode cX4_fitsNotices 22 = .ok (.aload_n 0, 1) := by decide +kernel
theorem dX4_fitsNotices_23 : decode cX4_fitsNotices 23 = .ok (.getfield 14, 3) := by decide +kernel
theorem dX4_fitsNotices_26 : decode cX4_fitsNotices 26 = .ok (.iload_n 1, 1) := by decide +kernel
theorem dX4_fitsNotices_27 : decode cX4_fitsNotices 27 = .ok (.iload 6, 2) := by decide +kernel
theorem dX4_fitsNotices_29 : decode cX4_fitsNotices 29 = .ok (.iconst 1, 1) := by decide +kernel
theorem dX4_fitsNotices_30 : decode cX4_fitsNotices 30 = .ok (.iadd, 1) := by decide +kernel
theorem dX4_fitsNotices_31 : decode cX4_fitsNotices 31 = .ok (.invokevirtual 76, 3) := by decide +kernel
theorem dX4_fitsNotices_34 : decode cX4_fitsNotices 34 = .ok (.iload 5, 2) := by decide +kernel
theorem dX4_fitsNotices_36 : decode cX4_fitsNotices 36 = .ok (.invokestatic 330, 3) := by decide +kernel
theorem dX4_fitsNotices_39 : decode cX4_fitsNotices 39 = .ok (.istore 7, 2) := by decide +kernel
theorem dX4_fitsNotices_41 : decode cX4_fitsNotices 41 = .ok (.iload 7, 2) := by decide +kernel
theorem dX4_fitsNotices_43 : decode cX4_fitsNotices 43 = .ok (.aload_n 0, 1) := by decide +kernel
theorem dX4_fitsNotices_44 : decode cX4_fitsNotices 44 = .ok (.getfield 14, 3) := by decide +kernel
theorem dX4_fitsNotices_47 : decode cX4_fitsNotices 47 = .ok (.iload_n 1, 1) := by decide +kernel
theorem dX4_fitsNotices_48 : decode cX4_fitsNotices 48 = .ok (.iload 6, 2) := by decide +kernel
theorem dX4_fitsNotices_50 : decode cX4_fitsNotices 50 = .ok (.invokevirtual 76, 3) := by decide +kernel
theorem dX4_fitsNotices_53 : decode cX4_fitsNotices 53 = .ok (.if_icmp .lt 7, 3) := by decide +kernel
theorem dX4_fitsNotices_56 : decode cX4_fitsNotices 56 = .ok (.iconst 1, 1) := by decide +kernel
theorem dX4_fitsNotices_57 : decode cX4_fitsNotices 57 = .ok (.goto 4, 3) := by decide +kernel
theorem dX4_fitsNotices_60 : decode cX4_fitsNotices 60 = .ok (.iconst 0, 1) := by decide +kernel
theorem dX4_fitsNotices_61 : decode cX4_fitsNotices 61 = .ok (.istore 8, 2) := by decide +kernel
theorem dX4_fitsNotices_63 : decode cX4_fitsNotices 63 = .ok (.iload 8, 2) := by decide +kernel
theorem dX4_fitsNotices_65 : decode cX4_fitsNotices 65 = .ok (.aload_n 0, 1) := by decide +kernel
theorem dX4_fitsNotices_66 : decode cX4_fitsNotices 66 = .ok (.getfield 14, 3) := by decide +kernel
theorem dX4_fitsNotices_69 : decode cX4_fitsNotices 69 = .ok (.iload_n 1, 1) := by decide +kernel
theorem dX4_fitsNotices_70 : decode cX4_fitsNotices 70 = .ok (.iload 6, 2) := by decide +kernel
theorem dX4_fitsNotices_72 : decode cX4_fitsNotices 72 = .ok (.iconst 2, 1) := by decide +kernel
theorem dX4_fitsNotices_73 : decode cX4_fitsNotices 73 = .ok (.iadd, 1) := by decide +kernel
theorem dX4_fitsNotices_74 : decode cX4_fitsNotices 74 = .ok (.invokevirtual 76, 3) := by decide +kernel
theorem dX4_fitsNotices_77 : decode cX4_fitsNotices 77 = .ok (.iconst 1, 1) := by decide +kernel
theorem dX4_fitsNotices_78 : decode cX4_fitsNotices 78 = .ok (.if_icmp .ne 7, 3) := by decide +kernel
theorem dX4_fitsNotices_81 : decode cX4_fitsNotices 81 = .ok (.iconst 1, 1) := by decide +kernel
theorem dX4_fitsNotices_82 : decode cX4_fitsNotices 82 = .ok (.goto 4, 3) := by decide +kernel
theorem dX4_fitsNotices_85 : decode cX4_fitsNotices 85 = .ok (.iconst 0, 1) := by decide +kernel
theorem dX4_fitsNotices_86 : decode cX4_fitsNotices 86 = .ok (.if_icmp .eq 5, 3) := by decide +kernel
theorem dX4_fitsNotices_89 : decode cX4_fitsNotices 89 = .ok (.iconst 0, 1) := by decide +kernel
theorem dX4_fitsNotices_90 : decode cX4_fitsNotices 90 = .ok (.ireturn, 1) := by decide +kernel
theorem dX4_fitsNotices_91 : decode cX4_fitsNotices 91 = .ok (.iinc 6 3, 3) := by decide +kernel
theorem dX4_fitsNotices_94 : decode cX4_fitsNotices 94 = .ok (.goto (-91), 3) := by decide +kernel
theorem dX4_fitsNotices_97 : decode cX4_fitsNotices 97 = .ok (.iconst 1, 1) := by decide +kernel
theorem dX4_fitsNotices_98 : decode cX4_fitsNotices 98 = .ok (.ireturn, 1) := by decide +kernel
theorem dX4_isIn_0 : decode cX4_isIn 0 = .ok (.iload_n 1, 1) := by decide +kernel
theorem dX4_isIn_1 : decode cX4_isIn 1 = .ok (.ifCond .lt 21, 3) := by decide +kernel
theorem dX4_isIn_4 : decode cX4_isIn 4 = .ok (.iload_n 1, 1) := by decide +kernel
theorem dX4_isIn_5 : decode cX4_isIn 5 = .ok (.bipush 32, 2) := by decide +kernel
theorem dX4_isIn_7 : decode cX4_isIn 7 = .ok (.if_icmp .ge 15, 3) := by decide +kernel
theorem dX4_isIn_10 : decode cX4_isIn 10 = .ok (.iload_n 0, 1) := by decide +kernel
theorem dX4_isIn_11 : decode cX4_isIn 11 = .ok (.iload_n 1, 1) := by decide +kernel
theorem dX4_isIn_12 : decode cX4_isIn 12 = .ok (.ishr, 1) := by decide +kernel
theorem dX4_isIn_13 : decode cX4_isIn 13 = .ok (.iconst 1, 1) := by decide +kernel
theorem dX4_isIn_14 : decode cX4_isIn 14 = .ok (.iand, 1) := by decide +kernel
theorem dX4_isIn_15 : decode cX4_isIn 15 = .ok (.ifCond .eq 7, 3) := by decide +kernel
theorem dX4_isIn_18 : decode cX4_isIn 18 = .ok (.iconst 1, 1) := by decide +kernel
theorem dX4_isIn_19 : decode cX4_isIn 19 = .ok (.goto 4, 3) := by decide +kernel
theorem dX4_isIn_22 : decode cX4_isIn 22 = .ok (.iconst 0, 1) := by decide +kernel
theorem dX4_isIn_23 : decode cX4_isIn 23 = .ok (.ireturn, 1) := by decide +kernel
theorem dX4_isOfKind_0 : decode cX4_isOfKind 0 = .ok (.iload_n 1, 1) := by decide +kernel
theorem dX4_isOfKind_1 : decode cX4_isOfKind 1 = .ok (.tableswitch 70 0 3 #[31, 33, 70, 54], 31) := by decide +kernel
theorem dX4_isOfKind_32 : decode cX4_isOfKind 32 = .ok (.iconst 1, 1) := by decide +kernel
theorem dX4_isOfKind_33 : decode cX4_isOfKind 33 = .ok (.ireturn, 1) := by decide +kernel
theorem dX4_isOfKind_34 : decode cX4_isOfKind 34 = .ok (.iload_n 0, 1) := by decide +kernel
theorem dX4_isOfKind_35 : decode cX4_isOfKind 35 = .ok (.iconst 1, 1) := by decide +kernel
theorem dX4_isOfKind_36 : decode cX4_isOfKind 36 = .ok (.if_icmp .eq 13, 3) := by decide +kernel
theorem dX4_isOfKind_39 : decode cX4_isOfKind 39 = .ok (.iload_n 0, 1) := by decide +kernel
theorem dX4_isOfKind_40 : decode cX4_isOfKind 40 = .ok (.iconst 3, 1) := by decide +kernel
theorem dX4_isOfKind_41 : decode cX4_isOfKind 41 = .ok (.if_icmp .eq 8, 3) := by decide +kernel
theorem dX4_isOfKind_44 : decode cX4_isOfKind 44 = .ok (.iload_n 0, 1) := by decide +kernel
theorem dX4_isOfKind_45 : decode cX4_isOfKind 45 = .ok (.iconst 5, 1) := by decide +kernel
theorem dX4_isOfKind_46 : decode cX4_isOfKind 46 = .ok (.if_icmp .ne 7, 3) := by decide +kernel
theorem dX4_isOfKind_49 : decode cX4_isOfKind 49 = .ok (.iconst 1, 1) := by decide +kernel
theorem dX4_isOfKind_50 : decode cX4_isOfKind 50 = .ok (.goto 4, 3) := by decide +kernel
theorem dX4_isOfKind_53 : decode cX4_isOfKind 53 = .ok (.iconst 0, 1) := by decide +kernel
theorem dX4_isOfKind_54 : decode cX4_isOfKind 54 = .ok (.ireturn, 1) := by decide +kernel
theorem dX4_isOfKind_55 : decode cX4_isOfKind 55 = .ok (.iload_n 0, 1) := by decide +kernel
theorem dX4_isOfKind_56 : decode cX4_isOfKind 56 = .ok (.iconst 3, 1) := by decide +kernel
theorem dX4_isOfKind_57 : decode cX4_isOfKind 57 = .ok (.if_icmp .eq 8, 3) := by decide +kernel
theorem dX4_isOfKind_60 : decode cX4_isOfKind 60 = .ok (.iload_n 0, 1) := by decide +kernel
theorem dX4_isOfKind_61 : decode cX4_isOfKind 61 = .ok (.iconst 5, 1) := by decide +kernel
theorem dX4_isOfKind_62 : decode cX4_isOfKind 62 = .ok (.if_icmp .ne 7, 3) := by decide +kernel
theorem dX4_isOfKind_65 : decode cX4_isOfKind 65 = .ok (.iconst 1, 1) := by decide +kernel
theorem dX4_isOfKind_66 : decode cX4_isOfKind 66 = .ok (.goto 4, 3) := by decide +kernel
theorem dX4_isOfKind_69 : decode cX4_isOfKind 69 = .ok (.iconst 0, 1) := by decide +kernel
theorem dX4_isOfKind_70 : decode cX4_isOfKind 70 = .ok (.ireturn, 1) := by decide +kernel
theorem dX4_isOfKind_71 : decode cX4_isOfKind 71 = .ok (.iload_n 0, 1) := by decide +kernel
theorem dX4_isOfKind_72 : decode cX4_isOfKind 72 = .ok (.iload_n 1, 1) := by decide +kernel
theorem dX4_isOfKind_73 : decode cX4_isOfKind 73 = .ok (.if_icmp .ne 7, 3) := by decide +kernel
theorem dX4_isOfKind_76 : decode cX4_isOfKind 76 = .ok (.iconst 1, 1) := by decide +kernel
theorem dX4_isOfKind_77 : decode cX4_isOfKind 77 = .ok (.goto 4, 3) := by decide +kernel
theorem dX4_isOfKind_80 : decode cX4_isOfKind 80 = .ok (.iconst 0, 1) := by decide +kernel
theorem dX4_isOfKind_81 : decode cX4_isOfKind 81 = .ok (.ireturn, 1) := by decide +kernel
theorem dX4_isCallableFrom_0 : decode cX4_isCallableFrom 0 = .ok (.iload_n 0, 1) := by decide +kernel
theorem dX4_isCallableFrom_1 : decode cX4_isCallableFrom 1 = .ok (.lookupswitch 52 #[(2, 27), (4, 40)], 27) := by decide +kernel
theorem dX4_isCallableFrom_28 : decode cX4_isCallableFrom 28 = .ok (.iload_n 1, 1) := by decide +kernel
theorem dX4_isCallableFrom_29 : decode cX4_isCallableFrom 29 = .ok (.iconst 2, 1) := by decide +kernel
theorem dX4_isCallableFrom_30 : decode cX4_isCallableFrom 30 = .ok (.irem, 1) := by decide +kernel
theorem dX4_isCallableFrom_31 : decode cX4_isCallableFrom 31 = .ok (.iconst 1, 1) := by decide +kernel
theorem dX4_isCallableFrom_32 : decode cX4_isCallableFrom 32 = .ok (.if_icmp .ne 7, 3) := by decide +kernel
theorem dX4_isCallableFrom_35 : decode cX4_isCallableFrom 35 = .ok (.iconst 1, 1) := by decide +kernel
theorem dX4_isCallableFrom_36 : decode cX4_isCallableFrom 36 = .ok (.goto 4, 3) := by decide +kernel
theorem dX4_isCallableFrom_39 : decode cX4_isCallableFrom 39 = .ok (.iconst 0, 1) := by decide +kernel
theorem dX4_isCallableFrom_40 : decode cX4_isCallableFrom 40 = .ok (.ireturn, 1) := by decide +kernel
theorem dX4_isCallableFrom_41 : decode cX4_isCallableFrom 41 = .ok (.iload_n 1, 1) := by decide +kernel
theorem dX4_isCallableFrom_42 : decode cX4_isCallableFrom 42 = .ok (.bipush 7, 2) := by decide +kernel
theorem dX4_isCallableFrom_44 : decode cX4_isCallableFrom 44 = .ok (.if_icmp .ge 7, 3) := by decide +kernel
theorem dX4_isCallableFrom_47 : decode cX4_isCallableFrom 47 = .ok (.iconst 1, 1) := by decide +kernel
theorem dX4_isCallableFrom_48 : decode cX4_isCallableFrom 48 = .ok (.goto 4, 3) := by decide +kernel
theorem dX4_isCallableFrom_51 : decode cX4_isCallableFrom 51 = .ok (.iconst 0, 1) := by decide +kernel
theorem dX4_isCallableFrom_52 : decode cX4_isCallableFrom 52 = .ok (.ireturn, 1) := by decide +kernel
theorem dX4_isCallableFrom_53 : decode cX4_isCallableFrom 53 = .ok (.iconst 1, 1) := by decide +kernel
theorem dX4_isCallableFrom_54 : decode cX4_isCallableFrom 54 = .ok (.ireturn, 1) := by decide +kernel
theorem dX4_fears_0 : decode cX4_fears 0 = .ok (.iconst 0, 1) := by decide +kernel
theorem dX4_fears_1 : decode cX4_fears 1 = .ok (.iload_n 1, 1) := by decide +kernel
theorem dX4_fears_2 : decode cX4_fears 2 = .ok (.iload_n 2, 1) := by decide +kernel
theorem dX4_fears_3 : decode cX4_fears 3 = .ok (.isub, 1) := by decide +kernel
theorem dX4_fears_4 : decode cX4_fears 4 = .ok (.invokestatic 225, 3) := by decide +kernel
theorem dX4_fears_7 : decode cX4_fears 7 = .ok (.istore_n 3, 1) := by decide +kernel
theorem dX4_fears_8 : decode cX4_fears 8 = .ok (.iload_n 0, 1) := by decide +kernel
theorem dX4_fears_9 : decode cX4_fears 9 = .ok (.iconst 3, 1) := by decide +kernel
theorem dX4_fears_10 : decode cX4_fears 10 = .ok (.invokestatic 127, 3) := by decide +kernel
theorem dX4_fears_13 : decode cX4_fears 13 = .ok (.ifCond .eq 9, 3) := by decide +kernel
theorem dX4_fears_16 : decode cX4_fears 16 = .ok (.iload_n 3, 1) := by decide +kernel
theorem dX4_fears_17 : decode cX4_fears 17 = .ok (.iconst 2, 1) := by decide +kernel
theorem dX4_fears_18 : decode cX4_fears 18 = .ok (.idiv, 1) := by decide +kernel
theorem dX4_fears_19 : decode cX4_fears 19 = .ok (.goto 4, 3) := by decide +kernel
theorem dX4_fears_22 : decode cX4_fears 22 = .ok (.iload_n 3, 1) := by decide +kernel
theorem dX4_fears_23 : decode cX4_fears 23 = .ok (.ireturn, 1) := by decide +kernel
theorem dX4_says_0 : decode cX4_says 0 = .ok (.iconst 0, 1) := by decide +kernel
theorem dX4_says_1 : decode cX4_says 1 = .ok (.iload_n 1, 1) := by decide +kernel
theorem dX4_says_2 : decode cX4_says 2 = .ok (.iload_n 0, 1) := by decide +kernel
theorem dX4_says_3 : decode cX4_says 3 = .ok (.iload_n 2, 1) := by decide +kernel
theorem dX4_says_4 : decode cX4_says 4 = .ok (.iload_n 3, 1) := by decide +kernel
theorem dX4_says_5 : decode cX4_says 5 = .ok (.invokestatic 334, 3) := by decide +kernel
theorem dX4_says_8 : decode cX4_says 8 = .ok (.isub, 1) := by decide +kernel
theorem dX4_says_9 : decode cX4_says 9 = .ok (.invokestatic 225, 3) := by decide +kernel
theorem dX4_says_12 : decode cX4_says 12 = .ok (.istore 5, 2) := by decide +kernel
theorem dX4_says_14 : decode cX4_says 14 = .ok (.iload_n 0, 1) := by decide +kernel
theorem dX4_says_15 : decode cX4_says 15 = .ok (.iconst 1, 1) := by decide +kernel
theorem dX4_says_16 : decode cX4_says 16 = .ok (.invokestatic 127, 3) := by decide +kernel
theorem dX4_says_19 : decode cX4_says 19 = .ok (.ifCond .eq 6, 3) := by decide +kernel
theorem dX4_says_22 : decode cX4_says 22 = .ok (.iinc 5 2, 3) := by decide +kernel
theorem dX4_says_25 : decode cX4_says 25 = .ok (.iload_n 0, 1) := by decide +kernel
theorem dX4_says_26 : decode cX4_says 26 = .ok (.iconst 5, 1) := by decide +kernel
theorem dX4_says_27 : decode cX4_says 27 = .ok (.if_icmp .ne 11, 3) := by decide +kernel
theorem dX4_says_30 : decode cX4_says 30 = .ok (.iload 5, 2) := by decide +kernel
theorem dX4_says_32 : decode cX4_says 32 = .ok (.iload 4, 2) := by decide +kernel
theorem dX4_says_34 : decode cX4_says 34 = .ok (.iadd, 1) := by decide +kernel
theorem dX4_says_35 : decode cX4_says 35 = .ok (.goto 5, 3) := by decide +kernel
theorem dX4_says_38 : decode cX4_says 38 = .ok (.iload 5, 2) := by decide +kernel
theorem dX4_says_40 : decode cX4_says 40 = .ok (.ireturn, 1) := by decide +kernel
theorem dX4_drawn_0 : decode cX4_drawn 0 = .ok (.iload_n 0, 1) := by decide +kernel
theorem dX4_drawn_1 : decode cX4_drawn 1 = .ok (.invokestatic 168, 3) := by decide +kernel
theorem dX4_drawn_4 : decode cX4_drawn 4 = .ok (.istore_n 2, 1) := by decide +kernel
theorem dX4_drawn_5 : decode cX4_drawn 5 = .ok (.iload_n 2, 1) := by decide +kernel
theorem dX4_drawn_6 : decode cX4_drawn 6 = .ok (.ifCond .ne 6, 3) := by decide +kernel
theorem dX4_drawn_9 : decode cX4_drawn 9 = .ok (.bipush (-9), 2) := by decide +kernel
theorem dX4_drawn_11 : decode cX4_drawn 11 = .ok (.ireturn, 1) := by decide +kernel
theorem dX4_drawn_12 : decode cX4_drawn 12 = .ok (.iload_n 1, 1) := by decide +kernel
theorem dX4_drawn_13 : decode cX4_drawn 13 = .ok (.iload_n 2, 1) := by decide +kernel
theorem dX4_drawn_14 : decode cX4_drawn 14 = .ok (.invokestatic 338, 3) := by decide +kernel
theorem dX4_drawn_17 : decode cX4_drawn 17 = .ok (.istore_n 3, 1) := by decide +kernel
theorem dX4_drawn_18 : decode cX4_drawn 18 = .ok (.iconst 0, 1) := by decide +kernel
theorem dX4_drawn_19 : decode cX4_drawn 19 = .ok (.istore 4, 2) := by decide +kernel
theorem dX4_drawn_21 : decode cX4_drawn 21 = .ok (.iload 4, 2) := by decide +kernel
theorem dX4_drawn_23 : decode cX4_drawn 23 = .ok (.bipush 6, 2) := by decide +kernel
theorem dX4_drawn_25 : decode cX4_drawn 25 = .ok (.if_icmp .ge 28, 3) := by decide +kernel
theorem dX4_drawn_28 : decode cX4_drawn 28 = .ok (.iload_n 0, 1) := by decide +kernel
theorem dX4_drawn_29 : decode cX4_drawn 29 = .ok (.iload 4, 2) := by decide +kernel
theorem dX4_drawn_31 : decode cX4_drawn 31 = .ok (.invokestatic 147, 3) := by decide +kernel
theorem dX4_drawn_34 : decode cX4_drawn 34 = .ok (.ifCond .eq 13, 3) := by decide +kernel
theorem dX4_drawn_37 : decode cX4_drawn 37 = .ok (.iload_n 3, 1) := by decide +kernel
theorem dX4_drawn_38 : decode cX4_drawn 38 = .ok (.ifCond .ne 6, 3) := by decide +kernel
theorem dX4_drawn_41 : decode cX4_drawn 41 = .ok (.iload 4, 2) := by decide +kernel
theorem dX4_drawn_43 : decode cX4_drawn 43 = .ok (.ireturn, 1) := by decide +kernel
theorem dX4_drawn_44 : decode cX4_drawn 44 = .ok (.iinc 3 (-1), 3) := by decide +kernel
theorem dX4_drawn_47 : decode cX4_drawn 47 = .ok (.iinc 4 1, 3) := by decide +kernel
theorem dX4_drawn_50 : decode cX4_drawn 50 = .ok (.goto (-29), 3) := by decide +kernel
theorem dX4_drawn_53 : decode cX4_drawn 53 = .ok (.bipush (-9), 2) := by decide +kernel
theorem dX4_drawn_55 : decode cX4_drawn 55 = .ok (.ireturn, 1) := by decide +kernel
theorem dX5_init_0 : decode cX5_init 0 = .ok (.aload_n 0, 1) := by decide +kernel
theorem dX5_init_1 : decode cX5_init 1 = .ok (.invokespecial 1, 3) := by decide +kernel
theorem dX5_init_4 : decode cX5_init 4 = .ok (.aload_n 0, 1) := by decide +kernel
theorem dX5_init_5 : decode cX5_init 5 = .ok (.sipush 1972, 3) := by decide +kernel
theorem dX5_init_8 : decode cX5_init 8 = .ok (.newarray .int, 2) := by decide +kernel
theorem dX5_init_10 : decode cX5_init 10 = .ok (.putfield 7, 3) := by decide +kernel
theorem dX5_init_13 : decode cX5_init 13 = .ok (.aload_n 0, 1) := by decide +kernel
theorem dX5_init_14 : decode cX5_init 14 = .ok (.bipush 6, 2) := by decide +kernel
theorem dX5_init_16 : decode cX5_init 16 = .ok (.newarray .int, 2) := by decide +kernel
theorem dX5_init_18 : decode cX5_init 18 = .ok (.putfield 13, 3) := by decide +kernel
theorem dX5_init_21 : decode cX5_init 21 = .ok (.aload_n 0, 1) := by decide +kernel
theorem dX5_init_22 : decode cX5_init 22 = .ok (.bipush 6, 2) := by decide +kernel
theorem dX5_init_24 : decode cX5_init 24 = .ok (.newarray .int, 2) := by decide +kernel
theorem dX5_init_26 : decode cX5_init 26 = .ok (.putfield 16, 3) := by decide +kernel
theorem dX5_init_29 : decode cX5_init 29 = .ok (.aload_n 0, 1) := by decide +kernel
theorem dX5_init_30 : decode cX5_init 30 = .ok (.bipush 6, 2) := by decide +kernel
theorem dX5_init_32 : decode cX5_init 32 = .ok (.newarray .int, 2) := by decide +kernel
theorem dX5_init_34 : decode cX5_init 34 = .ok (.putfield 19, 3) := by decide +kernel
theorem dX5_init_37 : decode cX5_init 37 = .ok (.aload_n 0, 1) := by decide +kernel
theorem dX5_init_38 : decode cX5_init 38 = .ok (.bipush 6, 2) := by decide +kernel
theorem dX5_init_40 : decode cX5_init 40 = .ok (.newarray .int, 2) := by decide +kernel
theorem dX5_init_42 : decode cX5_init 42 = .ok (.putfield 22, 3) := by decide +kernel
theorem dX5_init_45 : decode cX5_init 45 = .ok (.aload_n 0, 1) := by decide +kernel
theorem dX5_init_46 : decode cX5_init 46 = .ok (.bipush 6, 2) := by decide +kernel
theorem dX5_init_48 : decode cX5_init 48 = .ok (.newarray .int, 2) := by decide +kernel
theorem dX5_init_50 : decode cX5_init 50 = .ok (.dup, 1) := by decide +kernel
theorem dX5_init_51 : decode cX5_init 51 = .ok (.iconst 0, 1) := by decide +kernel
theorem dX5_init_52 : decode cX5_init 52 = .ok (.iconst (-1), 1) := by decide +kernel
theorem dX5_init_53 : decode cX5_init 53 = .ok (.iastore, 1) := by decide +kernel
theorem dX5_init_54 : decode cX5_init 54 = .ok (.dup, 1) := by decide +kernel
theorem dX5_init_55 : decode cX5_init 55 = .ok (.iconst 1, 1) := by decide +kernel
theorem dX5_init_56 : decode cX5_init 56 = .ok (.iconst (-1), 1) := by decide +kernel
theorem dX5_init_57 : decode cX5_init 57 = .ok (.iastore, 1) := by decide +kernel
theorem dX5_init_58 : decode cX5_init 58 = .ok (.dup, 1) := by decide +kernel
theorem dX5_init_59 : decode cX5_init 59 = .ok (.iconst 2, 1) := by decide +kernel
theorem dX5_init_60 : decode cX5_init 60 = .ok (.iconst (-1), 1) := by decide +kernel
theorem dX5_init_61 : decode cX5_init 61 = .ok (.iastore, 1) := by decide +kernel
theorem dX5_init_62 : decode cX5_init 62 = .ok (.dup, 1) := by decide +kernel
theorem dX5_init_63 : decode cX5_init 63 = .ok (.iconst 3, 1) := by decide +kernel
theorem dX5_init_64 : decode cX5_init 64 = .ok (.iconst (-1), 1) := by decide +kernel
theorem dX5_init_65 : decode cX5_init 65 = .ok (.iastore, 1) := by decide +kernel
theorem dX5_init_66 : decode cX5_init 66 = .ok (.dup, 1) := by decide +kernel
theorem dX5_init_67 : decode cX5_init 67 = .ok (.iconst 4, 1) := by decide +kernel
theorem dX5_init_68 : decode cX5_init 68 = .ok (.iconst (-1), 1) := by decide +kernel
theorem dX5_init_69 : decode cX5_init 69 = .ok (.iastore, 1) := by decide +kernel
theorem dX5_init_70 : decode cX5_init 70 = .ok (.dup, 1) := by decide +kernel
theorem dX5_init_71 : decode cX5_init 71 = .ok (.iconst 5, 1) := by decide +kernel
theorem dX5_init_72 : decode cX5_init 72 = .ok (.iconst (-1), 1) := by decide +kernel
theorem dX5_init_73 : decode cX5_init 73 = .ok (.iastore, 1) := by decide +kernel
theorem dX5_init_74 : decode cX5_init 74 = .ok (.putfield 25, 3) := by decide +kernel
theorem dX5_init_77 : decode cX5_init 77 = .ok (.aload_n 0, 1) := by decide +kernel
theorem dX5_init_78 : decode cX5_init 78 = .ok (.sipush 240, 3) := by decide +kernel
theorem dX5_init_81 : decode cX5_init 81 = .ok (.newarray .int, 2) := by decide +kernel
theorem dX5_init_83 : decode cX5_init 83 = .ok (.putfield 28, 3) := by decide +kernel
theorem dX5_init_86 : decode cX5_init 86 = .ok (.aload_n 0, 1) := by decide +kernel
theorem dX5_init_87 : decode cX5_init 87 = .ok (.iconst 4, 1) := by decide +kernel
theorem dX5_init_88 : decode cX5_init 88 = .ok (.newarray .int, 2) := by decide +kernel
theorem dX5_init_90 : decode cX5_init 90 = .ok (.dup, 1) := by decide +kernel
theorem dX5_init_91 : decode cX5_init 91 = .ok (.iconst 0, 1) := by decide +kernel
theorem dX5_init_92 : decode cX5_init 92 = .ok (.iconst (-1), 1) := by decide +kernel
theorem dX5_init_93 : decode cX5_init 93 = .ok (.iastore, 1) := by decide +kernel
theorem dX5_init_94 : decode cX5_init 94 = .ok (.dup, 1) := by decide +kernel
theorem dX5_init_95 : decode cX5_init 95 = .ok (.iconst 1, 1) := by decide +kernel
theorem dX5_init_96 : decode cX5_init 96 = .ok (.iconst (-1), 1) := by decide +kernel
theorem dX5_init_97 : decode cX5_init 97 = .ok (.iastore, 1) := by decide +kernel
theorem dX5_init_98 : decode cX5_init 98 = .ok (.dup, 1) := by decide +kernel
theorem dX5_init_99 : decode cX5_init 99 = .ok (.iconst 2, 1) := by decide +kernel
theorem dX5_init_100 : decode cX5_init 100 = .ok (.iconst (-1), 1) := by decide +kernel
theorem dX5_init_101 : decode cX5_init 101 = .ok (.iastore, 1) := by decide +kernel
theorem dX5_init_102 : decode cX5_init 102 = .ok (.dup, 1) := by decide +kernel
theorem dX5_init_103 : decode cX5_init 103 = .ok (.iconst 3, 1) := by decide +kernel
theorem dX5_init_104 : decode cX5_init 104 = .ok (.iconst (-1), 1) := by decide +kernel
theorem dX5_init_105 : decode cX5_init 105 = .ok (.iastore, 1) := by decide +kernel
theorem dX5_init_106 : decode cX5_init 106 = .ok (.putfield 31, 3) := by decide +kernel
theorem dX5_init_109 : decode cX5_init 109 = .ok (.aload_n 0, 1) := by decide +kernel
theorem dX5_init_110 : decode cX5_init 110 = .ok (.sipush 240, 3) := by decide +kernel
theorem dX5_init_113 : decode cX5_init 113 = .ok (.newarray .int, 2) := by decide +kernel
theorem dX5_init_115 : decode cX5_init 115 = .ok (.putfield 34, 3) := by decide +kernel
theorem dX5_init_118 : decode cX5_init 118 = .ok (.aload_n 0, 1) := by decide +kernel
theorem dX5_init_119 : decode cX5_init 119 = .ok (.lconst 1, 1) := by decide +kernel
theorem dX5_init_120 : decode cX5_init 120 = .ok (.putfield 37, 3) := by decide +kernel
theorem dX5_init_123 : decode cX5_init 123 = .ok (.aload_n 0, 1) := by decide +kernel
theorem dX5_init_124 : decode cX5_init 124 = .ok (.bipush 6, 2) := by decide +kernel
theorem dX5_init_126 : decode cX5_init 126 = .ok (.newarray .int, 2) := by decide +kernel
theorem dX5_init_128 : decode cX5_init 128 = .ok (.putfield 41, 3) := by decide +kernel
theorem dX5_init_131 : decode cX5_init 131 = .ok (.aload_n 0, 1) := by decide +kernel
theorem dX5_init_132 : decode cX5_init 132 = .ok (.bipush 6, 2) := by decide +kernel
theorem dX5_init_134 : decode cX5_init 134 = .ok (.newarray .int, 2) := by decide +kernel
theorem dX5_init_136 : decode cX5_init 136 = .ok (.putfield 44, 3) := by decide +kernel
theorem dX5_init_139 : decode cX5_init 139 = .ok (.aload_n 0, 1) := by decide +kernel
theorem dX5_init_140 : decode cX5_init 140 = .ok (.bipush 24, 2) := by decide +kernel
theorem dX5_init_142 : decode cX5_init 142 = .ok (.newarray .int, 2) := by decide +kernel
theorem dX5_init_144 : decode cX5_init 144 = .ok (.putfield 47, 3) := by decide +kernel
theorem dX5_init_147 : decode cX5_init 147 = .ok (.aload_n 0, 1) := by decide +kernel
theorem dX5_init_148 : decode cX5_init 148 = .ok (.bipush 7, 2) := by decide +kernel
theorem dX5_init_150 : decode cX5_init 150 = .ok (.newarray .int, 2) := by decide +kernel
theorem dX5_init_152 : decode cX5_init 152 = .ok (.putfield 50, 3) := by decide +kernel
theorem dX5_init_155 : decode cX5_init 155 = .ok (.aload_n 0, 1) := by decide +kernel
theorem dX5_init_156 : decode cX5_init 156 = .ok (.bipush 7, 2) := by decide +kernel
theorem dX5_init_158 : decode cX5_init 158 = .ok (.newarray .int, 2) := by decide +kernel
theorem dX5_init_160 : decode cX5_init 160 = .ok (.putfield 53, 3) := by decide +kernel
theorem dX5_init_163 : decode cX5_init 163 = .ok (.aload_n 0, 1) := by decide +kernel
theorem dX5_init_164 : decode cX5_init 164 = .ok (.bipush 7, 2) := by decide +kernel
theorem dX5_init_166 : decode cX5_init 166 = .ok (.newarray .int, 2) := by decide +kernel
theorem dX5_init_168 : decode cX5_init 168 = .ok (.putfield 56, 3) := by decide +kernel
theorem dX5_init_171 : decode cX5_init 171 = .ok (.aload_n 0, 1) := by decide +kernel
theorem dX5_init_172 : decode cX5_init 172 = .ok (.bipush 7, 2) := by decide +kernel
theorem dX5_init_174 : decode cX5_init 174 = .ok (.newarray .int, 2) := by decide +kernel
theorem dX5_init_176 : decode cX5_init 176 = .ok (.putfield 59, 3) := by decide +kernel
theorem dX5_init_179 : decode cX5_init 179 = .ok (.aload_n 0, 1) := by decide +kernel
theorem dX5_init_180 : decode cX5_init 180 = .ok (.bipush 7, 2) := by decide +kernel
theorem dX5_init_182 : decode cX5_init 182 = .ok (.newarray .int, 2) := by decide +kernel
theorem dX5_init_184 : decode cX5_init 184 = .ok (.putfield 62, 3) := by decide +kernel
theorem dX5_init_187 : decode cX5_init 187 = .ok (.aload_n 0, 1) := by decide +kernel
theorem dX5_init_188 : decode cX5_init 188 = .ok (.bipush 7, 2) := by decide +kernel
theorem dX5_init_190 : decode cX5_init 190 = .ok (.newarray .int, 2) := by decide +kernel
theorem dX5_init_192 : decode cX5_init 192 = .ok (.putfield 65, 3) := by decide +kernel
theorem dX5_init_195 : decode cX5_init 195 = .ok (.iconst 1, 1) := by decide +kernel
theorem dX5_init_196 : decode cX5_init 196 = .ok (.istore_n 1, 1) := by decide +kernel
theorem dX5_init_197 : decode cX5_init 197 = .ok (.iload_n 1, 1) := by decide +kernel
theorem dX5_init_198 : decode cX5_init 198 = .ok (.iconst 4, 1) := by decide +kernel
theorem dX5_init_199 : decode cX5_init 199 = .ok (.if_icmp .ge 22, 3) := by decide +kernel
theorem dX5_init_202 : decode cX5_init 202 = .ok (.aload_n 0, 1) := by decide +kernel
theorem dX5_init_203 : decode cX5_init 203 = .ok (.getfield 7, 3) := by decide +kernel
theorem dX5_init_206 : decode cX5_init 206 = .ok (.sipush 493, 3) := by decide +kernel
theorem dX5_init_209 : decode cX5_init 209 = .ok (.iload_n 1, 1) := by decide +kernel
theorem dX5_init_210 : decode cX5_init 210 = .ok (.imul, 1) := by decide +kernel
theorem dX5_init_211 : decode cX5_init 211 = .ok (.iconst 0, 1) := by decide +kernel
theorem dX5_init_212 : decode cX5_init 212 = .ok (.iadd, 1) := by decide +kernel
theorem dX5_init_213 : decode cX5_init 213 = .ok (.iconst (-1), 1) := by decide +kernel
theorem dX5_init_214 : decode cX5_init 214 = .ok (.iastore, 1) := by decide +kernel
theorem dX5_init_215 : decode cX5_init 215 = .ok (.iinc 1 1, 3) := by decide +kernel
theorem dX5_init_218 : decode cX5_init 218 = .ok (.goto (-21), 3) := by decide +kernel
theorem dX5_init_221 : decode cX5_init 221 = .ok (.return_, 1) := by decide +kernel
theorem dX5_bits_0 : decode cX5_bits 0 = .ok (.iconst 0, 1) := by decide +kernel
theorem dX5_bits_1 : decode cX5_bits 1 = .ok (.istore_n 1, 1) := by decide +kernel
theorem dX5_bits_2 : decode cX5_bits 2 = .ok (.iconst 0, 1) := by decide +kernel
theorem dX5_bits_3 : decode cX5_bits 3 = .ok (.istore_n 2, 1) := by decide +kernel
theorem dX5_bits_4 : decode cX5_bits 4 = .ok (.iload_n 2, 1) := by decide +kernel
theorem dX5_bits_5 : decode cX5_bits 5 = .ok (.bipush 10, 2) := by decide +kernel
theorem dX5_bits_7 : decode cX5_bits 7 = .ok (.if_icmp .ge 17, 3) := by decide +kernel
theorem dX5_bits_10 : decode cX5_bits 10 = .ok (.iload_n 1, 1) := by decide +kernel
theorem dX5_bits_11 : decode cX5_bits 11 = .ok (.iload_n 0, 1) := by decide +kernel
theorem dX5_bits_12 : decode cX5_bits 12 = .ok (.iload_n 2, 1) := by decide +kernel
theorem dX5_bits_13 : decode cX5_bits 13 = .ok (.ishr, 1) := by decide +kernel
theorem dX5_bits_14 : decode cX5_bits 14 = .ok (.iconst 1, 1) := by decide +kernel
theorem dX5_bits_15 : decode cX5_bits 15 = .ok (.iand, 1) := by decide +kernel
theorem dX5_bits_16 : decode cX5_bits 16 = .ok (.iadd, 1) := by decide +kernel
theorem dX5_bits_17 : decode cX5_bits 17 = .ok (.istore_n 1, 1) := by decide +kernel
theorem dX5_bits_18 : decode cX5_bits 18 = .ok (.iinc 2 1, 3) := by decide +kernel
theorem dX5_bits_21 : decode cX5_bits 21 = .ok (.goto (-17), 3) := by decide +kernel
theorem dX5_bits_24 : decode cX5_bits 24 = .ok (.iload_n 1, 1) := by decide +kernel
theorem dX5_bits_25 : decode cX5_bits 25 = .ok (.ireturn, 1) := by decide +kernel
theorem dX5_atLeast_0 : decode cX5_atLeast 0 = .ok (.iload_n 0, 1) := by decide +kernel
theorem dX5_atLeast_1 : decode cX5_atLeast 1 = .ok (.ifCond .ge 7, 3) := by decide +kernel
theorem dX5_atLeast_4 : decode cX5_atLeast 4 = .ok (.iconst 0, 1) := by decide +kernel
theorem dX5_atLeast_5 : decode cX5_atLeast 5 = .ok (.goto 4, 3) := by decide +kernel
theorem dX5_atLeast_8 : decode cX5_atLeast 8 = .ok (.iload_n 0, 1) := by decide +kernel
theorem dX5_atLeast_9 : decode cX5_atLeast 9 = .ok (.ireturn, 1) := by decide +kernel
theorem dX5_in_0 : decode cX5_in 0 = .ok (.lload_n 0, 1) := by decide +kernel
theorem dX5_in_1 : decode cX5_in 1 = .ok (.lload_n 2, 1) := by decide +kernel
theorem dX5_in_2 : decode cX5_in 2 = .ok (.lcmp, 1) := by decide +kernel
theorem dX5_in_3 : decode cX5_in 3 = .ok (.ifCond .lt 14, 3) := by decide +kernel
theorem dX5_in_6 : decode cX5_in 6 = .ok (.lload_n 0, 1) := by decide +kernel
theorem dX5_in_7 : decode cX5_in 7 = .ok (.lload 4, 2) := by decide +kernel
theorem dX5_in_9 : decode cX5_in 9 = .ok (.lcmp, 1) := by decide +kernel
theorem dX5_in_10 : decode cX5_in 10 = .ok (.ifCond .gt 7, 3) := by decide +kernel
theorem dX5_in_13 : decode cX5_in 13 = .ok (.iconst 1, 1) := by decide +kernel
theorem dX5_in_14 : decode cX5_in 14 = .ok (.goto 4, 3) := by decide +kernel
theorem dX5_in_17 : decode cX5_in 17 = .ok (.iconst 0, 1) := by decide +kernel
theorem dX5_in_18 : decode cX5_in 18 = .ok (.ireturn, 1) := by decide +kernel
theorem dX5_has_0 : decode cX5_has 0 = .ok (.iload_n 0, 1) := by decide +kernel
theorem dX5_has_1 : decode cX5_has 1 = .ok (.iload_n 1, 1) := by decide +kernel
theorem dX5_has_2 : decode cX5_has 2 = .ok (.ishr, 1) := by decide +kernel
theorem dX5_has_3 : decode cX5_has 3 = .ok (.iconst 1, 1) := by decide +kernel
theorem dX5_has_4 : decode cX5_has 4 = .ok (.iand, 1) := by decide +kernel
theorem dX5_has_5 : decode cX5_has 5 = .ok (.iconst 1, 1) := by decide +kernel
theorem dX5_has_6 : decode cX5_has 6 = .ok (.if_icmp .ne 7, 3) := by decide +kernel
theorem dX5_has_9 : decode cX5_has 9 = .ok (.iconst 1, 1) := by decide +kernel
theorem dX5_has_10 : decode cX5_has 10 = .ok (.goto 4, 3) := by decide +kernel
theorem dX5_has_13 : decode cX5_has 13 = .ok (.iconst 0, 1) := by decide +kernel
theorem dX5_has_14 : decode cX5_has 14 = .ok (.ireturn, 1) := by decide +kernel
theorem dX5_find_0 : decode cX5_find 0 = .ok (.aload_n 0, 1) := by decide +kernel
theorem dX5_find_1 : decode cX5_find 1 = .ok (.iload_n 1, 1) := by decide +kernel
theorem dX5_find_2 : decode cX5_find 2 = .ok (.putfield 68, 3) := by decide +kernel
theorem dX5_find_5 : decode cX5_find 5 = .ok (.aload_n 0, 1) := by decide +kernel
theorem dX5_find_6 : decode cX5_find 6 = .ok (.getfield 41, 3) := by decide +kernel
theorem dX5_find_9 : decode cX5_find 9 = .ok (.iload_n 1, 1) := by decide +kernel
theorem dX5_find_10 : decode cX5_find 10 = .ok (.dup2, 1) := by decide +kernel
theorem dX5_find_11 : decode cX5_find 11 = .ok (.iaload, 1) := by decide +kernel
theorem dX5_find_12 : decode cX5_find 12 = .ok (.iconst 1, 1) := by decide +kernel
theorem dX5_find_13 : decode cX5_find 13 = .ok (.iadd, 1) := by decide +kernel
theorem dX5_find_14 : decode cX5_find 14 = .ok (.iastore, 1) := by decide +kernel
theorem dX5_find_15 : decode cX5_find 15 = .ok (.bipush (-3), 2) := by decide +kernel
theorem dX5_find_17 : decode cX5_find 17 = .ok (.ireturn, 1) := by decide +kernel
theorem dX5_tell_0 : decode cX5_tell 0 = .ok (.aload_n 0, 1) := by decide +kernel
theorem dX5_tell_1 : decode cX5_tell 1 = .ok (.iload_n 1, 1) := by decide +kernel
theorem dX5_tell_2 : decode cX5_tell 2 = .ok (.putfield 72, 3) := by decide +kernel
theorem dX5_tell_5 : decode cX5_tell 5 = .ok (.iconst 1, 1) := by decide +kernel
theorem dX5_tell_6 : decode cX5_tell 6 = .ok (.ireturn, 1) := by decide +kernel
theorem dX5_isRow_0 : decode cX5_isRow 0 = .ok (.iload_n 0, 1) := by decide +kernel
theorem dX5_isRow_1 : decode cX5_isRow 1 = .ok (.i2l, 1) := by decide +kernel
theorem dX5_isRow_2 : decode cX5_isRow 2 = .ok (.lconst 0, 1) := by decide +kernel
theorem dX5_isRow_3 : decode cX5_isRow 3 = .ok (.ldc2_w 75, 3) := by decide +kernel
theorem dX5_isRow_6 : decode cX5_isRow 6 = .ok (.invokestatic 77, 3) := by decide +kernel
theorem dX5_isRow_9 : decode cX5_isRow 9 = .ok (.ireturn, 1) := by decide +kernel
theorem dX5_isText_0 : decode cX5_isText 0 = .ok (.iload_n 0, 1) := by decide +kernel
theorem dX5_isText_1 : decode cX5_isText 1 = .ok (.i2l, 1) := by decide +kernel
theorem dX5_isText_2 : decode cX5_isText 2 = .ok (.lconst 0, 1) := by decide +kernel
theorem dX5_isText_3 : decode cX5_isText 3 = .ok (.ldc2_w 81, 3) := by decide +kernel
theorem dX5_isText_6 : decode cX5_isText 6 = .ok (.invokestatic 77, 3) := by decide +kernel
theorem dX5_isText_9 : decode cX5_isText 9 = .ok (.ireturn, 1) := by decide +kernel
theorem dX5_row_0 : decode cX5_row 0 = .ok (.iload_n 1, 1) := by decide +kernel
theorem dX5_row_1 : decode cX5_row 1 = .ok (.invokestatic 83, 3) := by decide +kernel
theorem dX5_row_4 : decode cX5_row 4 = .ok (.ifCond .eq 9, 3) := by decide +kernel
theorem dX5_row_7 : decode cX5_row 7 = .ok (.iload_n 2, 1) := by decide +kernel
theorem dX5_row_8 : decode cX5_row 8 = .ok (.bipush 40, 2) := by decide +kernel
theorem dX5_row_10 : decode cX5_row 10 = .ok (.if_icmp .le 5, 3) := by decide +kernel
theorem dX5_row_13 : decode cX5_row 13 = .ok (.iconst (-1), 1) := by decide +kernel
theorem dX5_row_14 : decode cX5_row 14 = .ok (.ireturn, 1) := by decide +kernel
theorem dX5_row_15 : decode cX5_row 15 = .ok (.iload_n 2, 1) := by decide +kernel
theorem dX5_row_16 : decode cX5_row 16 = .ok (.ifCond .ge 9, 3) := by decide +kernel
theorem dX5_row_19 : decode cX5_row 19 = .ok (.aload_n 0, 1) := by decide +kernel
theorem dX5_row_20 : decode cX5_row 20 = .ok (.iconst 5, 1) := by decide +kernel
theorem dX5_row_21 : decode cX5_row 21 = .ok (.invokevirtual 87, 3) := by decide +kernel
theorem dX5_row_24 : decode cX5_row 24 = .ok (.ireturn, 1) := by decide +kernel
theorem dX5_row_25 : decode cX5_row 25 = .ok (.aload_n 0, 1) := by decide +kernel
theorem dX5_row_26 : decode cX5_row 26 = .ok (.iload_n 1, 1) := by decide +kernel
theorem dX5_row_27 : decode cX5_row 27 = .ok (.iload_n 2, 1) := by decide +kernel
theorem dX5_row_28 : decode cX5_row 28 = .ok (.invokevirtual 91, 3) := by decide +kernel
theorem dX5_row_31 : decode cX5_row 31 = .ok (.iload_n 2, 1) := by decide +kernel
theorem dX5_row_32 : decode cX5_row 32 = .ok (.ireturn, 1) := by decide +kernel
theorem dX5_makeRow_0 : decode cX5_makeRow 0 = .ok (.aload_n 0, 1) := by decide +kernel
theorem dX5_makeRow_1 : decode cX5_makeRow 1 = .ok (.getfield 25, 3) := by decide +kernel
theorem dX5_makeRow_4 : decode cX5_makeRow 4 = .ok (.iload_n 1, 1) := by decide +kernel
theorem dX5_makeRow_5 : decode cX5_makeRow 5 = .ok (.iload_n 2, 1) := by decide +kernel
theorem dX5_makeRow_6 : decode cX5_makeRow 6 = .ok (.iastore, 1) := by decide +kernel
theorem dX5_makeRow_7 : decode cX5_makeRow 7 = .ok (.iconst 0, 1) := by decide +kernel
theorem dX5_makeRow_8 : decode cX5_makeRow 8 = .ok (.istore_n 3, 1) := by decide +kernel
theorem dX5_makeRow_9 : decode cX5_makeRow 9 = .ok (.iload_n 3, 1) := by decide +kernel
theorem dX5_makeRow_10 : decode cX5_makeRow 10 = .ok (.bipush 40, 2) := by decide +kernel
theorem dX5_makeRow_12 : decode cX5_makeRow 12 = .ok (.if_icmp .ge 21, 3) := by decide +kernel
theorem dX5_makeRow_15 : decode cX5_makeRow 15 = .ok (.aload_n 0, 1) := by decide +kernel
theorem dX5_makeRow_16 : decode cX5_makeRow 16 = .ok (.getfield 28, 3) := by decide +kernel
theorem dX5_makeRow_19 : decode cX5_makeRow 19 = .ok (.bipush 40, 2) := by decide +kernel
theorem dX5_makeRow_21 : decode cX5_makeRow 21 = .ok (.iload_n 1, 1) := by decide +kernel
theorem dX5_makeRow_22 : decode cX5_makeRow 22 = .ok (.imul, 1) := by decide +kernel
theorem dX5_makeRow_23 : decode cX5_makeRow 23 = .ok (.iload_n 3, 1) := by decide +kernel
theorem dX5_makeRow_24 : decode cX5_makeRow 24 = .ok (.iadd, 1) := by decide +kernel
theorem dX5_makeRow_25 : decode cX5_makeRow 25 = .ok (.iconst 0, 1) := by decide +kernel
theorem dX5_makeRow_26 : decode cX5_makeRow 26 = .ok (.iastore, 1) := by decide +kernel
theorem dX5_makeRow_27 : decode cX5_makeRow 27 = .ok (.iinc 3 1, 3) := by decide +kernel
theorem dX5_makeRow_30 : decode cX5_makeRow 30 = .ok (.goto (-21), 3) := by decide +kernel
theorem dX5_makeRow_33 : decode cX5_makeRow 33 = .ok (.return_, 1) := by decide +kernel
theorem dX5_refused_0 : decode cX5_refused 0 = .ok (.iload_n 1, 1) := by decide +kernel
theorem dX5_refused_1 : decode cX5_refused 1 = .ok (.invokestatic 83, 3) := by decide +kernel
theorem dX5_refused_4 : decode cX5_refused 4 = .ok (.ifCond .ne 7, 3) := by decide +kernel
theorem dX5_refused_7 : decode cX5_refused 7 = .ok (.iconst (-1), 1) := by decide +kernel
theorem dX5_refused_8 : decode cX5_refused 8 = .ok (.goto 47, 3) := by decide +kernel
theorem dX5_refused_11 : decode cX5_refused 11 = .ok (.aload_n 0, 1) := by decide +kernel
theorem dX5_refused_12 : decode cX5_refused 12 = .ok (.getfield 25, 3) := by decide +kernel
theorem dX5_refused_15 : decode cX5_refused 15 = .ok (.iload_n 1, 1) := by decide +kernel
theorem dX5_refused_16 : decode cX5_refused 16 = .ok (.iaload, 1) := by decide +kernel
theorem dX5_refused_17 : decode cX5_refused 17 = .ok (.ifCond .ge 11, 3) := by decide +kernel
theorem dX5_refused_20 : decode cX5_refused 20 = .ok (.aload_n 0, 1) := by decide +kernel
theorem dX5_refused_21 : decode cX5_refused 21 = .ok (.iconst 1, 1) := by decide +kernel
theorem dX5_refused_22 : decode cX5_refused 22 = .ok (.invokevirtual 87, 3) := by decide +kernel
theorem dX5_refused_25 : decode cX5_refused 25 = .ok (.goto 30, 3) := by decide +kernel
theorem dX5_refused_28 : decode cX5_refused 28 = .ok (.iload_n 2, 1) := by decide +kernel
theorem dX5_refused_29 : decode cX5_refused 29 = .ok (.i2l, 1) := by decide +kernel
theorem dX5_refused_30 : decode cX5_refused 30 = .ok (.lconst 0, 1) := by decide +kernel
theorem dX5_refused_31 : decode cX5_refused 31 = .ok (.aload_n 0, 1) := by decide +kernel
theorem dX5_refused_32 : decode cX5_refused 32 = .ok (.getfield 25, 3) := by decide +kernel
theorem dX5_refused_35 : decode cX5_refused 35 = .ok (.iload_n 1, 1) := by decide +kernel
theorem dX5_refused_36 : decode cX5_refused 36 = .ok (.iaload, 1) := by decide +kernel
theorem dX5_refused_37 : decode cX5_refused 37 = .ok (.iconst 1, 1) := by decide +kernel
theorem dX5_refused_38 : decode cX5_refused 38 = .ok (.isub, 1) := by decide +kernel
theorem dX5_refused_39 : decode cX5_refused 39 = .ok (.i2l, 1) := by decide +kernel
theorem dX5_refused_40 : decode cX5_refused 40 = .ok (.invokestatic 77, 3) := by decide +kernel
theorem dX5_refused_43 : decode cX5_refused 43 = .ok (.ifCond .eq 7, 3) := by decide +kernel
theorem dX5_refused_46 : decode cX5_refused 46 = .ok (.iconst 0, 1) := by decide +kernel
theorem dX5_refused_47 : decode cX5_refused 47 = .ok (.goto 8, 3) := by decide +kernel
theorem dX5_refused_50 : decode cX5_refused 50 = .ok (.aload_n 0, 1) := by decide +kernel
theorem dX5_refused_51 : decode cX5_refused 51 = .ok (.iconst 2, 1) := by decide +kernel
theorem dX5_refused_52 : decode cX5_refused 52 = .ok (.invokevirtual 87, 3) := by decide +kernel
theorem dX5_refused_55 : decode cX5_refused 55 = .ok (.ireturn, 1) := by decide +kernel
theorem dX5_lay_0 : decode cX5_lay 0 = .ok (.aload_n 0, 1) := by decide +kernel
theorem dX5_lay_1 : decode cX5_lay 1 = .ok (.iload_n 1, 1) := by decide +kernel
theorem dX5_lay_2 : decode cX5_lay 2 = .ok (.iload_n 2, 1) := by decide +kernel
theorem dX5_lay_3 : decode cX5_lay 3 = .ok (.invokevirtual 95, 3) := by decide +kernel
theorem dX5_lay_6 : decode cX5_lay 6 = .ok (.istore 4, 2) := by decide +kernel
theorem dX5_lay_8 : decode cX5_lay 8 = .ok (.iload 4, 2) := by decide +kernel
theorem dX5_lay_10 : decode cX5_lay 10 = .ok (.ifCond .eq 6, 3) := by decide +kernel
theorem dX5_lay_13 : decode cX5_lay 13 = .ok (.iload 4, 2) := by decide +kernel
theorem dX5_lay_15 : decode cX5_lay 15 = .ok (.ireturn, 1) := by decide +kernel
theorem dX5_lay_16 : decode cX5_lay 16 = .ok (.aload_n 0, 1) := by decide +kernel
theorem dX5_lay_17 : decode cX5_lay 17 = .ok (.getfield 28, 3) := by decide +kernel
theorem dX5_lay_20 : decode cX5_lay 20 = .ok (.bipush 40, 2) := by decide +kernel
theorem dX5_lay_22 : decode cX5_lay 22 = .ok (.iload_n 1, 1) := by decide +kernel
theorem dX5_lay_23 : decode cX5_lay 23 = .ok (.imul, 1) := by decide +kernel
theorem dX5_lay_24 : decode cX5_lay 24 = .ok (.iload_n 2, 1) := by decide +kernel
theorem dX5_lay_25 : decode cX5_lay 25 = .ok (.iadd, 1) := by decide +kernel
theorem dX5_lay_26 : decode cX5_lay 26 = .ok (.iaload, 1) := by decide +kernel
theorem dX5_lay_27 : decode cX5_lay 27 = .ok (.istore 5, 2) := by decide +kernel
theorem dX5_lay_29 : decode cX5_lay 29 = .ok (.aload_n 0, 1) := by decide +kernel
theorem dX5_lay_30 : decode cX5_lay 30 = .ok (.getfield 28, 3) := by decide +kernel
theorem dX5_lay_33 : decode cX5_lay 33 = .ok (.bipush 40, 2) := by decide +kernel
theorem dX5_lay_35 : decode cX5_lay 35 = .ok (.iload_n 1, 1) := by decide +kernel
theorem dX5_lay_36 : decode cX5_lay 36 = .ok (.imul, 1) := by decide +kernel
theorem dX5_lay_37 : decode cX5_lay 37 = .ok (.iload_n 2, 1) := by decide +kernel
theorem dX5_lay_38 : decode cX5_lay 38 = .ok (.iadd, 1) := by decide +kernel
theorem dX5_lay_39 : decode cX5_lay 39 = .ok (.iload_n 3, 1) := by decide +kernel
theorem dX5_lay_40 : decode cX5_lay 40 = .ok (.iastore, 1) := by decide +kernel
theorem dX5_lay_41 : decode cX5_lay 41 = .ok (.aload_n 0, 1) := by decide +kernel
theorem dX5_lay_42 : decode cX5_lay 42 = .ok (.iload 5, 2) := by decide +kernel
theorem dX5_lay_44 : decode cX5_lay 44 = .ok (.invokevirtual 99, 3) := by decide +kernel
theorem dX5_lay_47 : decode cX5_lay 47 = .ok (.ireturn, 1) := by decide +kernel
theorem dX5_at_0 : decode cX5_at 0 = .ok (.aload_n 0, 1) := by decide +kernel
theorem dX5_at_1 : decode cX5_at 1 = .ok (.iload_n 1, 1) := by decide +kernel
theorem dX5_at_2 : decode cX5_at 2 = .ok (.iload_n 2, 1) := by decide +kernel
theorem dX5_at_3 : decode cX5_at 3 = .ok (.invokevirtual 95, 3) := by decide +kernel
theorem dX5_at_6 : decode cX5_at 6 = .ok (.istore_n 3, 1) := by decide +kernel
theorem dX5_at_7 : decode cX5_at 7 = .ok (.iload_n 3, 1) := by decide +kernel
theorem dX5_at_8 : decode cX5_at 8 = .ok (.ifCond .eq 7, 3) := by decide +kernel
theorem dX5_at_11 : decode cX5_at 11 = .ok (.iload_n 3, 1) := by decide +kernel
theorem dX5_at_12 : decode cX5_at 12 = .ok (.goto 18, 3) := by decide +kernel
theorem dX5_at_15 : decode cX5_at 15 = .ok (.aload_n 0, 1) := by decide +kernel
theorem dX5_at_16 : decode cX5_at 16 = .ok (.aload_n 0, 1) := by decide +kernel
theorem dX5_at_17 : decode cX5_at 17 = .ok (.getfield 28, 3) := by decide +kernel
theorem dX5_at_20 : decode cX5_at 20 = .ok (.bipush 40, 2) := by decide +kernel
theorem dX5_at_22 : decode cX5_at 22 = .ok (.iload_n 1, 1) := by decide +kernel
theorem dX5_at_23 : decode cX5_at 23 = .ok (.imul, 1) := by decide +kernel
theorem dX5_at_24 : decode cX5_at 24 = .ok (.iload_n 2, 1) := by decide +kernel
theorem dX5_at_25 : decode cX5_at 25 = .ok (.iadd, 1) := by decide +kernel
theorem dX5_at_26 : decode cX5_at 26 = .ok (.iaload, 1) := by decide +kernel
theorem dX5_at_27 : decode cX5_at 27 = .ok (.invokevirtual 99, 3) := by decide +kernel
theorem dX5_at_30 : decode cX5_at 30 = .ok (.ireturn, 1) := by decide +kernel
theorem dX5_tear_0 : decode cX5_tear 0 = .ok (.iload_n 1, 1) := by decide +kernel
theorem dX5_tear_1 : decode cX5_tear 1 = .ok (.invokestatic 83, 3) := by decide +kernel
theorem dX5_tear_4 : decode cX5_tear 4 = .ok (.ifCond .ne 5, 3) := by decide +kernel
theorem dX5_tear_7 : decode cX5_tear 7 = .ok (.iconst (-1), 1) := by decide +kernel
theorem dX5_tear_8 : decode cX5_tear 8 = .ok (.ireturn, 1) := by decide +kernel
theorem dX5_tear_9 : decode cX5_tear 9 = .ok (.aload_n 0, 1) := by decide +kernel
theorem dX5_tear_10 : decode cX5_tear 10 = .ok (.getfield 25, 3) := by decide +kernel
theorem dX5_tear_13 : decode cX5_tear 13 = .ok (.iload_n 1, 1) := by decide +kernel
theorem dX5_tear_14 : decode cX5_tear 14 = .ok (.iaload, 1) := by decide +kernel
theorem dX5_tear_15 : decode cX5_tear 15 = .ok (.ifCond .ge 9, 3) := by decide +kernel
theorem dX5_tear_18 : decode cX5_tear 18 = .ok (.aload_n 0, 1) := by decide +kernel
theorem dX5_tear_19 : decode cX5_tear 19 = .ok (.iconst 1, 1) := by decide +kernel
theorem dX5_tear_20 : decode cX5_tear 20 = .ok (.invokevirtual 87, 3) := by decide +kernel
theorem dX5_tear_23 : decode cX5_tear 23 = .ok (.ireturn, 1) := by decide +kernel
theorem dX5_tear_24 : decode cX5_tear 24 = .ok (.aload_n 0, 1) := by decide +kernel
theorem dX5_tear_25 : decode cX5_tear 25 = .ok (.getfield 25, 3) := by decide +kernel
theorem dX5_tear_28 : decode cX5_tear 28 = .ok (.iload_n 1, 1) := by decide +kernel
theorem dX5_tear_29 : decode cX5_tear 29 = .ok (.iconst (-1), 1) := by decide +kernel
theorem dX5_tear_30 : decode cX5_tear 30 = .ok (.iastore, 1) := by decide +kernel
theorem dX5_tear_31 : decode cX5_tear 31 = .ok (.iconst 1, 1) := by decide +kernel
theorem dX5_tear_32 : decode cX5_tear 32 = .ok (.ireturn, 1) := by decide +kernel
theorem dX5_isSpan_0 : decode cX5_isSpan 0 = .ok (.iload_n 2, 1) := by decide +kernel
theorem dX5_isSpan_1 : decode cX5_isSpan 1 = .ok (.ifCond .lt 23, 3) := by decide +kernel
theorem dX5_isSpan_4 : decode cX5_isSpan 4 = .ok (.iload_n 2, 1) := by decide +kernel
theorem dX5_isSpan_5 : decode cX5_isSpan 5 = .ok (.i2l, 1) := by decide +kernel
theorem dX5_isSpan_6 : decode cX5_isSpan 6 = .ok (.iload_n 3, 1) := by decide +kernel
theorem dX5_isSpan_7 : decode cX5_isSpan 7 = .ok (.i2l, 1) := by decide +kernel
theorem dX5_isSpan_8 : decode cX5_isSpan 8 = .ok (.ladd, 1) := by decide +kernel
theorem dX5_isSpan_9 : decode cX5_isSpan 9 = .ok (.aload_n 0, 1) := by decide +kernel
theorem dX5_isSpan_10 : decode cX5_isSpan 10 = .ok (.getfield 25, 3) := by decide +kernel
theorem dX5_isSpan_13 : decode cX5_isSpan 13 = .ok (.iload_n 1, 1) := by decide +kernel
theorem dX5_isSpan_14 : decode cX5_isSpan 14 = .ok (.iaload, 1) := by decide +kernel
theorem dX5_isSpan_15 : decode cX5_isSpan 15 = .ok (.i2l, 1) := by decide +kernel
theorem dX5_isSpan_16 : decode cX5_isSpan 16 = .ok (.lcmp, 1) := by decide +kernel
theorem dX5_isSpan_17 : decode cX5_isSpan 17 = .ok (.ifCond .gt 7, 3) := by decide +kernel
theorem dX5_isSpan_20 : decode cX5_isSpan 20 = .ok (.iconst 1, 1) := by decide +kernel
theorem dX5_isSpan_21 : decode cX5_isSpan 21 = .ok (.goto 4, 3) := by decide +kernel
theorem dX5_isSpan_24 : decode cX5_isSpan 24 = .ok (.iconst 0, 1) := by decide +kernel
theorem dX5_isSpan_25 : decode cX5_isSpan 25 = .ok (.ireturn, 1) := by decide +kernel
theorem dX5_copy_0 : decode cX5_copy 0 = .ok (.iload_n 1, 1) := by decide +kernel
theorem dX5_copy_1 : decode cX5_copy 1 = .ok (.invokestatic 83, 3) := by decide +kernel
theorem dX5_copy_4 : decode cX5_copy 4 = .ok (.ifCond .eq 10, 3) := by decide +kernel
theorem dX5_copy_7 : decode cX5_copy 7 = .ok (.iload_n 3, 1) := by decide +kernel
theorem dX5_copy_8 : decode cX5_copy 8 = .ok (.invokestatic 83, 3) := by decide +kernel
theorem dX5_copy_11 : decode cX5_copy 11 = .ok (.ifCond .ne 5, 3) := by decide +kernel
theorem dX5_copy_14 : decode cX5_copy 14 = .ok (.iconst (-1), 1) := by decide +kernel
theorem dX5_copy_15 : decode cX5_copy 15 = .ok (.ireturn, 1) := by decide +kernel
theorem dX5_copy_16 : decode cX5_copy 16 = .ok (.iload 5, 2) := by decide +kernel
theorem dX5_copy_18 : decode cX5_copy 18 = .ok (.ifCond .ge 9, 3) := by decide +kernel
theorem dX5_copy_21 : decode cX5_copy 21 = .ok (.aload_n 0, 1) := by decide +kernel
theorem dX5_copy_22 : decode cX5_copy 22 = .ok (.iconst 5, 1) := by decide +kernel
theorem dX5_copy_23 : decode cX5_copy 23 = .ok (.invokevirtual 87, 3) := by decide +kernel
theorem dX5_copy_26 : decode cX5_copy 26 = .ok (.ireturn, 1) := by decide +kernel
theorem dX5_copy_27 : decode cX5_copy 27 = .ok (.aload_n 0, 1) := by decide +kernel
theorem dX5_copy_28 : decode cX5_copy 28 = .ok (.getfield 25, 3) := by decide +kernel
theorem dX5_copy_31 : decode cX5_copy 31 = .ok (.iload_n 1, 1) := by decide +kernel
theorem dX5_copy_32 : decode cX5_copy 32 = .ok (.iaload, 1) := by decide +kernel
theorem dX5_copy_33 : decode cX5_copy 33 = .ok (.ifCond .lt 12, 3) := by decide +kernel
theorem dX5_copy_36 : decode cX5_copy 36 = .ok (.aload_n 0, 1) := by decide +kernel
theorem dX5_copy_37 : decode cX5_copy 37 = .ok (.getfield 25, 3) := by decide +kernel
end
section
theorem dX5_copy_40 : decode cX5_copy 40 = .ok (.iload_n 3, 1) := by decide +kernel
theorem dX5_copy_41 : decode cX5_copy 41 = .ok (.iaload, 1) := by decide +kernel
theorem dX5_copy_42 : decode cX5_copy 42 = .ok (.ifCond .ge 9, 3) := by decide +kernel
theorem dX5_copy_45 : decode cX5_copy 45 = .ok (.aload_n 0, 1) := by decide +kernel
theorem dX5_copy_46 : decode cX5_copy 46 = .ok (.iconst 1, 1) := by decide +kernel
theorem dX5_copy_47 : decode cX5_copy 47 = .ok (.invokevirtual 87, 3) := by decide +kernel
theorem dX5_copy_50 : decode cX5_copy 50 = .ok (.ireturn, 1) := by decide +kernel
theorem dX5_copy_51 : decode cX5_copy 51 = .ok (.aload_n 0, 1) := by decide +kernel
theorem dX5_copy_52 : decode cX5_copy 52 = .ok (.iload_n 1, 1) := by decide +kernel
theorem dX5_copy_53 : decode cX5_copy 53 = .ok (.iload_n 2, 1) := by decide +kernel
theorem dX5_copy_54 : decode cX5_copy 54 = .ok (.iload 5, 2) := by decide +kernel
theorem dX5_copy_56 : decode cX5_copy 56 = .ok (.invokevirtual 102, 3) := by decide +kernel
theorem dX5_copy_59 : decode cX5_copy 59 = .ok (.ifCond .eq 15, 3) := by decide +kernel
theorem dX5_copy_62 : decode cX5_copy 62 = .ok (.aload_n 0, 1) := by decide +kernel
theorem dX5_copy_63 : decode cX5_copy 63 = .ok (.iload_n 3, 1) := by decide +kernel
theorem dX5_copy_64 : decode cX5_copy 64 = .ok (.iload 4, 2) := by decide +kernel
theorem dX5_copy_66 : decode cX5_copy 66 = .ok (.iload 5, 2) := by decide +kernel
theorem dX5_copy_68 : decode cX5_copy 68 = .ok (.invokevirtual 102, 3) := by decide +kernel
theorem dX5_copy_71 : decode cX5_copy 71 = .ok (.ifCond .ne 9, 3) := by decide +kernel
theorem dX5_copy_74 : decode cX5_copy 74 = .ok (.aload_n 0, 1) := by decide +kernel
theorem dX5_copy_75 : decode cX5_copy 75 = .ok (.iconst 2, 1) := by decide +kernel
theorem dX5_copy_76 : decode cX5_copy 76 = .ok (.invokevirtual 87, 3) := by decide +kernel
theorem dX5_copy_79 : decode cX5_copy 79 = .ok (.ireturn, 1) := by decide +kernel
theorem dX5_copy_80 : decode cX5_copy 80 = .ok (.iload_n 2, 1) := by decide +kernel
theorem dX5_copy_81 : decode cX5_copy 81 = .ok (.iload 4, 2) := by decide +kernel
theorem dX5_copy_83 : decode cX5_copy 83 = .ok (.if_icmp .ge 7, 3) := by decide +kernel
theorem dX5_copy_86 : decode cX5_copy 86 = .ok (.iconst 1, 1) := by decide +kernel
theorem dX5_copy_87 : decode cX5_copy 87 = .ok (.goto 4, 3) := by decide +kernel
theorem dX5_copy_90 : decode cX5_copy 90 = .ok (.iconst 0, 1) := by decide +kernel
theorem dX5_copy_91 : decode cX5_copy 91 = .ok (.istore 6, 2) := by decide +kernel
theorem dX5_copy_93 : decode cX5_copy 93 = .ok (.iconst 0, 1) := by decide +kernel
theorem dX5_copy_94 : decode cX5_copy 94 = .ok (.istore 7, 2) := by decide +kernel
theorem dX5_copy_96 : decode cX5_copy 96 = .ok (.iload 7, 2) := by decide +kernel
theorem dX5_copy_98 : decode cX5_copy 98 = .ok (.iload 5, 2) := by decide +kernel
theorem dX5_copy_100 : decode cX5_copy 100 = .ok (.if_icmp .ge 57, 3) := by decide +kernel
theorem dX5_copy_103 : decode cX5_copy 103 = .ok (.iload 6, 2) := by decide +kernel
theorem dX5_copy_105 : decode cX5_copy 105 = .ok (.ifCond .eq 13, 3) := by decide +kernel
theorem dX5_copy_108 : decode cX5_copy 108 = .ok (.iload 5, 2) := by decide +kernel
theorem dX5_copy_110 : decode cX5_copy 110 = .ok (.iconst 1, 1) := by decide +kernel
theorem dX5_copy_111 : decode cX5_copy 111 = .ok (.isub, 1) := by decide +kernel
theorem dX5_copy_112 : decode cX5_copy 112 = .ok (.iload 7, 2) := by decide +kernel
theorem dX5_copy_114 : decode cX5_copy 114 = .ok (.isub, 1) := by decide +kernel
theorem dX5_copy_115 : decode cX5_copy 115 = .ok (.goto 5, 3) := by decide +kernel
theorem dX5_copy_118 : decode cX5_copy 118 = .ok (.iload 7, 2) := by decide +kernel
theorem dX5_copy_120 : decode cX5_copy 120 = .ok (.istore 8, 2) := by decide +kernel
theorem dX5_copy_122 : decode cX5_copy 122 = .ok (.aload_n 0, 1) := by decide +kernel
theorem dX5_copy_123 : decode cX5_copy 123 = .ok (.getfield 28, 3) := by decide +kernel
theorem dX5_copy_126 : decode cX5_copy 126 = .ok (.bipush 40, 2) := by decide +kernel
theorem dX5_copy_128 : decode cX5_copy 128 = .ok (.iload_n 3, 1) := by decide +kernel
theorem dX5_copy_129 : decode cX5_copy 129 = .ok (.imul, 1) := by decide +kernel
theorem dX5_copy_130 : decode cX5_copy 130 = .ok (.iload 4, 2) := by decide +kernel
theorem dX5_copy_132 : decode cX5_copy 132 = .ok (.iadd, 1) := by decide +kernel
theorem dX5_copy_133 : decode cX5_copy 133 = .ok (.iload 8, 2) := by decide +kernel
theorem dX5_copy_135 : decode cX5_copy 135 = .ok (.iadd, 1) := by decide +kernel
theorem dX5_copy_136 : decode cX5_copy 136 = .ok (.aload_n 0, 1) := by decide +kernel
theorem dX5_copy_137 : decode cX5_copy 137 = .ok (.getfield 28, 3) := by decide +kernel
theorem dX5_copy_140 : decode cX5_copy 140 = .ok (.bipush 40, 2) := by decide +kernel
theorem dX5_copy_142 : decode cX5_copy 142 = .ok (.iload_n 1, 1) := by decide +kernel
theorem dX5_copy_143 : decode cX5_copy 143 = .ok (.imul, 1) := by decide +kernel
theorem dX5_copy_144 : decode cX5_copy 144 = .ok (.iload_n 2, 1) := by decide +kernel
theorem dX5_copy_145 : decode cX5_copy 145 = .ok (.iadd, 1) := by decide +kernel
theorem dX5_copy_146 : decode cX5_copy 146 = .ok (.iload 8, 2) := by decide +kernel
theorem dX5_copy_148 : decode cX5_copy 148 = .ok (.iadd, 1) := by decide +kernel
theorem dX5_copy_149 : decode cX5_copy 149 = .ok (.iaload, 1) := by decide +kernel
theorem dX5_copy_150 : decode cX5_copy 150 = .ok (.iastore, 1) := by decide +kernel
theorem dX5_copy_151 : decode cX5_copy 151 = .ok (.iinc 7 1, 3) := by decide +kernel
theorem dX5_copy_154 : decode cX5_copy 154 = .ok (.goto (-58), 3) := by decide +kernel
theorem dX5_copy_157 : decode cX5_copy 157 = .ok (.iconst 1, 1) := by decide +kernel
theorem dX5_copy_158 : decode cX5_copy 158 = .ok (.ireturn, 1) := by decide +kernel
theorem dX5_mean_0 : decode cX5_mean 0 = .ok (.iload_n 1, 1) := by decide +kernel
theorem dX5_mean_1 : decode cX5_mean 1 = .ok (.invokestatic 83, 3) := by decide +kernel
theorem dX5_mean_4 : decode cX5_mean 4 = .ok (.ifCond .ne 5, 3) := by decide +kernel
theorem dX5_mean_7 : decode cX5_mean 7 = .ok (.iconst (-1), 1) := by decide +kernel
theorem dX5_mean_8 : decode cX5_mean 8 = .ok (.ireturn, 1) := by decide +kernel
theorem dX5_mean_9 : decode cX5_mean 9 = .ok (.aload_n 0, 1) := by decide +kernel
theorem dX5_mean_10 : decode cX5_mean 10 = .ok (.getfield 25, 3) := by decide +kernel
theorem dX5_mean_13 : decode cX5_mean 13 = .ok (.iload_n 1, 1) := by decide +kernel
theorem dX5_mean_14 : decode cX5_mean 14 = .ok (.iaload, 1) := by decide +kernel
theorem dX5_mean_15 : decode cX5_mean 15 = .ok (.ifCond .ge 9, 3) := by decide +kernel
theorem dX5_mean_18 : decode cX5_mean 18 = .ok (.aload_n 0, 1) := by decide +kernel
theorem dX5_mean_19 : decode cX5_mean 19 = .ok (.iconst 1, 1) := by decide +kernel
theorem dX5_mean_20 : decode cX5_mean 20 = .ok (.invokevirtual 87, 3) := by decide +kernel
theorem dX5_mean_23 : decode cX5_mean 23 = .ok (.ireturn, 1) := by decide +kernel
theorem dX5_mean_24 : decode cX5_mean 24 = .ok (.aload_n 0, 1) := by decide +kernel
theorem dX5_mean_25 : decode cX5_mean 25 = .ok (.getfield 25, 3) := by decide +kernel
theorem dX5_mean_28 : decode cX5_mean 28 = .ok (.iload_n 1, 1) := by decide +kernel
theorem dX5_mean_29 : decode cX5_mean 29 = .ok (.iaload, 1) := by decide +kernel
theorem dX5_mean_30 : decode cX5_mean 30 = .ok (.ifCond .ne 9, 3) := by decide +kernel
theorem dX5_mean_33 : decode cX5_mean 33 = .ok (.aload_n 0, 1) := by decide +kernel
theorem dX5_mean_34 : decode cX5_mean 34 = .ok (.iconst 4, 1) := by decide +kernel
theorem dX5_mean_35 : decode cX5_mean 35 = .ok (.invokevirtual 87, 3) := by decide +kernel
theorem dX5_mean_38 : decode cX5_mean 38 = .ok (.ireturn, 1) := by decide +kernel
theorem dX5_mean_39 : decode cX5_mean 39 = .ok (.lconst 0, 1) := by decide +kernel
theorem dX5_mean_40 : decode cX5_mean 40 = .ok (.lstore_n 2, 1) := by decide +kernel
theorem dX5_mean_41 : decode cX5_mean 41 = .ok (.iconst 0, 1) := by decide +kernel
theorem dX5_mean_42 : decode cX5_mean 42 = .ok (.istore 4, 2) := by decide +kernel
theorem dX5_mean_44 : decode cX5_mean 44 = .ok (.iload 4, 2) := by decide +kernel
theorem dX5_mean_46 : decode cX5_mean 46 = .ok (.aload_n 0, 1) := by decide +kernel
theorem dX5_mean_47 : decode cX5_mean 47 = .ok (.getfield 25, 3) := by decide +kernel
theorem dX5_mean_50 : decode cX5_mean 50 = .ok (.iload_n 1, 1) := by decide +kernel
theorem dX5_mean_51 : decode cX5_mean 51 = .ok (.iaload, 1) := by decide +kernel
theorem dX5_mean_52 : decode cX5_mean 52 = .ok (.if_icmp .ge 25, 3) := by decide +kernel
theorem dX5_mean_55 : decode cX5_mean 55 = .ok (.lload_n 2, 1) := by decide +kernel
theorem dX5_mean_56 : decode cX5_mean 56 = .ok (.aload_n 0, 1) := by decide +kernel
theorem dX5_mean_57 : decode cX5_mean 57 = .ok (.getfield 28, 3) := by decide +kernel
theorem dX5_mean_60 : decode cX5_mean 60 = .ok (.bipush 40, 2) := by decide +kernel
theorem dX5_mean_62 : decode cX5_mean 62 = .ok (.iload_n 1, 1) := by decide +kernel
theorem dX5_mean_63 : decode cX5_mean 63 = .ok (.imul, 1) := by decide +kernel
theorem dX5_mean_64 : decode cX5_mean 64 = .ok (.iload 4, 2) := by decide +kernel
theorem dX5_mean_66 : decode cX5_mean 66 = .ok (.iadd, 1) := by decide +kernel
theorem dX5_mean_67 : decode cX5_mean 67 = .ok (.iaload, 1) := by decide +kernel
theorem dX5_mean_68 : decode cX5_mean 68 = .ok (.i2l, 1) := by decide +kernel
theorem dX5_mean_69 : decode cX5_mean 69 = .ok (.ladd, 1) := by decide +kernel
theorem dX5_mean_70 : decode cX5_mean 70 = .ok (.lstore_n 2, 1) := by decide +kernel
theorem dX5_mean_71 : decode cX5_mean 71 = .ok (.iinc 4 1, 3) := by decide +kernel
theorem dX5_mean_74 : decode cX5_mean 74 = .ok (.goto (-30), 3) := by decide +kernel
theorem dX5_mean_77 : decode cX5_mean 77 = .ok (.aload_n 0, 1) := by decide +kernel
theorem dX5_mean_78 : decode cX5_mean 78 = .ok (.lload_n 2, 1) := by decide +kernel
theorem dX5_mean_79 : decode cX5_mean 79 = .ok (.aload_n 0, 1) := by decide +kernel
theorem dX5_mean_80 : decode cX5_mean 80 = .ok (.getfield 25, 3) := by decide +kernel
theorem dX5_mean_83 : decode cX5_mean 83 = .ok (.iload_n 1, 1) := by decide +kernel
theorem dX5_mean_84 : decode cX5_mean 84 = .ok (.iaload, 1) := by decide +kernel
theorem dX5_mean_85 : decode cX5_mean 85 = .ok (.i2l, 1) := by decide +kernel
theorem dX5_mean_86 : decode cX5_mean 86 = .ok (.ldiv, 1) := by decide +kernel
theorem dX5_mean_87 : decode cX5_mean 87 = .ok (.l2i, 1) := by decide +kernel
theorem dX5_mean_88 : decode cX5_mean 88 = .ok (.invokevirtual 99, 3) := by decide +kernel
theorem dX5_mean_91 : decode cX5_mean 91 = .ok (.ireturn, 1) := by decide +kernel
theorem dX5_text_0 : decode cX5_text 0 = .ok (.iload_n 1, 1) := by decide +kernel
theorem dX5_text_1 : decode cX5_text 1 = .ok (.invokestatic 106, 3) := by decide +kernel
theorem dX5_text_4 : decode cX5_text 4 = .ok (.ifCond .eq 9, 3) := by decide +kernel
theorem dX5_text_7 : decode cX5_text 7 = .ok (.iload_n 2, 1) := by decide +kernel
theorem dX5_text_8 : decode cX5_text 8 = .ok (.bipush 60, 2) := by decide +kernel
theorem dX5_text_10 : decode cX5_text 10 = .ok (.if_icmp .le 5, 3) := by decide +kernel
theorem dX5_text_13 : decode cX5_text 13 = .ok (.iconst (-1), 1) := by decide +kernel
theorem dX5_text_14 : decode cX5_text 14 = .ok (.ireturn, 1) := by decide +kernel
theorem dX5_text_15 : decode cX5_text 15 = .ok (.iload_n 2, 1) := by decide +kernel
theorem dX5_text_16 : decode cX5_text 16 = .ok (.ifCond .ge 9, 3) := by decide +kernel
theorem dX5_text_19 : decode cX5_text 19 = .ok (.aload_n 0, 1) := by decide +kernel
theorem dX5_text_20 : decode cX5_text 20 = .ok (.iconst 5, 1) := by decide +kernel
theorem dX5_text_21 : decode cX5_text 21 = .ok (.invokevirtual 87, 3) := by decide +kernel
theorem dX5_text_24 : decode cX5_text 24 = .ok (.ireturn, 1) := by decide +kernel
theorem dX5_text_25 : decode cX5_text 25 = .ok (.aload_n 0, 1) := by decide +kernel
theorem dX5_text_26 : decode cX5_text 26 = .ok (.getfield 31, 3) := by decide +kernel
theorem dX5_text_29 : decode cX5_text 29 = .ok (.iload_n 1, 1) := by decide +kernel
theorem dX5_text_30 : decode cX5_text 30 = .ok (.iload_n 2, 1) := by decide +kernel
theorem dX5_text_31 : decode cX5_text 31 = .ok (.iastore, 1) := by decide +kernel
theorem dX5_text_32 : decode cX5_text 32 = .ok (.iconst 0, 1) := by decide +kernel
theorem dX5_text_33 : decode cX5_text 33 = .ok (.istore_n 3, 1) := by decide +kernel
theorem dX5_text_34 : decode cX5_text 34 = .ok (.iload_n 3, 1) := by decide +kernel
theorem dX5_text_35 : decode cX5_text 35 = .ok (.bipush 60, 2) := by decide +kernel
theorem dX5_text_37 : decode cX5_text 37 = .ok (.if_icmp .ge 22, 3) := by decide +kernel
theorem dX5_text_40 : decode cX5_text 40 = .ok (.aload_n 0, 1) := by decide +kernel
theorem dX5_text_41 : decode cX5_text 41 = .ok (.getfield 34, 3) := by decide +kernel
theorem dX5_text_44 : decode cX5_text 44 = .ok (.bipush 60, 2) := by decide +kernel
theorem dX5_text_46 : decode cX5_text 46 = .ok (.iload_n 1, 1) := by decide +kernel
theorem dX5_text_47 : decode cX5_text 47 = .ok (.imul, 1) := by decide +kernel
theorem dX5_text_48 : decode cX5_text 48 = .ok (.iload_n 3, 1) := by decide +kernel
theorem dX5_text_49 : decode cX5_text 49 = .ok (.iadd, 1) := by decide +kernel
theorem dX5_text_50 : decode cX5_text 50 = .ok (.bipush 32, 2) := by decide +kernel
theorem dX5_text_52 : decode cX5_text 52 = .ok (.iastore, 1) := by decide +kernel
theorem dX5_text_53 : decode cX5_text 53 = .ok (.iinc 3 1, 3) := by decide +kernel
theorem dX5_text_56 : decode cX5_text 56 = .ok (.goto (-22), 3) := by decide +kernel
theorem dX5_text_59 : decode cX5_text 59 = .ok (.iload_n 2, 1) := by decide +kernel
theorem dX5_text_60 : decode cX5_text 60 = .ok (.ireturn, 1) := by decide +kernel
theorem dX5_put_0 : decode cX5_put 0 = .ok (.iload_n 1, 1) := by decide +kernel
theorem dX5_put_1 : decode cX5_put 1 = .ok (.invokestatic 106, 3) := by decide +kernel
theorem dX5_put_4 : decode cX5_put 4 = .ok (.ifCond .ne 5, 3) := by decide +kernel
theorem dX5_put_7 : decode cX5_put 7 = .ok (.iconst (-1), 1) := by decide +kernel
theorem dX5_put_8 : decode cX5_put 8 = .ok (.ireturn, 1) := by decide +kernel
theorem dX5_put_9 : decode cX5_put 9 = .ok (.aload_n 0, 1) := by decide +kernel
theorem dX5_put_10 : decode cX5_put 10 = .ok (.getfield 31, 3) := by decide +kernel
theorem dX5_put_13 : decode cX5_put 13 = .ok (.iload_n 1, 1) := by decide +kernel
theorem dX5_put_14 : decode cX5_put 14 = .ok (.iaload, 1) := by decide +kernel
theorem dX5_put_15 : decode cX5_put 15 = .ok (.ifCond .ge 9, 3) := by decide +kernel
theorem dX5_put_18 : decode cX5_put 18 = .ok (.aload_n 0, 1) := by decide +kernel
theorem dX5_put_19 : decode cX5_put 19 = .ok (.iconst 1, 1) := by decide +kernel
theorem dX5_put_20 : decode cX5_put 20 = .ok (.invokevirtual 87, 3) := by decide +kernel
theorem dX5_put_23 : decode cX5_put 23 = .ok (.ireturn, 1) := by decide +kernel
theorem dX5_put_24 : decode cX5_put 24 = .ok (.iload_n 2, 1) := by decide +kernel
theorem dX5_put_25 : decode cX5_put 25 = .ok (.i2l, 1) := by decide +kernel
theorem dX5_put_26 : decode cX5_put 26 = .ok (.lconst 0, 1) := by decide +kernel
theorem dX5_put_27 : decode cX5_put 27 = .ok (.aload_n 0, 1) := by decide +kernel
theorem dX5_put_28 : decode cX5_put 28 = .ok (.getfield 31, 3) := by decide +kernel
theorem dX5_put_31 : decode cX5_put 31 = .ok (.iload_n 1, 1) := by decide +kernel
theorem dX5_put_32 : decode cX5_put 32 = .ok (.iaload, 1) := by decide +kernel
theorem dX5_put_33 : decode cX5_put 33 = .ok (.iconst 1, 1) := by decide +kernel
theorem dX5_put_34 : decode cX5_put 34 = .ok (.isub, 1) := by decide +kernel
theorem dX5_put_35 : decode cX5_put 35 = .ok (.i2l, 1) := by decide +kernel
theorem dX5_put_36 : decode cX5_put 36 = .ok (.invokestatic 77, 3) := by decide +kernel
theorem dX5_put_39 : decode cX5_put 39 = .ok (.ifCond .ne 9, 3) := by decide +kernel
theorem dX5_put_42 : decode cX5_put 42 = .ok (.aload_n 0, 1) := by decide +kernel
theorem dX5_put_43 : decode cX5_put 43 = .ok (.iconst 2, 1) := by decide +kernel
theorem dX5_put_44 : decode cX5_put 44 = .ok (.invokevirtual 87, 3) := by decide +kernel
theorem dX5_put_47 : decode cX5_put 47 = .ok (.ireturn, 1) := by decide +kernel
theorem dX5_put_48 : decode cX5_put 48 = .ok (.aload_n 0, 1) := by decide +kernel
theorem dX5_put_49 : decode cX5_put 49 = .ok (.getfield 34, 3) := by decide +kernel
theorem dX5_put_52 : decode cX5_put 52 = .ok (.bipush 60, 2) := by decide +kernel
theorem dX5_put_54 : decode cX5_put 54 = .ok (.iload_n 1, 1) := by decide +kernel
theorem dX5_put_55 : decode cX5_put 55 = .ok (.imul, 1) := by decide +kernel
theorem dX5_put_56 : decode cX5_put 56 = .ok (.iload_n 2, 1) := by decide +kernel
theorem dX5_put_57 : decode cX5_put 57 = .ok (.iadd, 1) := by decide +kernel
theorem dX5_put_58 : decode cX5_put 58 = .ok (.iaload, 1) := by decide +kernel
theorem dX5_put_59 : decode cX5_put 59 = .ok (.istore 4, 2) := by decide +kernel
theorem dX5_put_61 : decode cX5_put 61 = .ok (.aload_n 0, 1) := by decide +kernel
theorem dX5_put_62 : decode cX5_put 62 = .ok (.getfield 34, 3) := by decide +kernel
theorem dX5_put_65 : decode cX5_put 65 = .ok (.bipush 60, 2) := by decide +kernel
theorem dX5_put_67 : decode cX5_put 67 = .ok (.iload_n 1, 1) := by decide +kernel
theorem dX5_put_68 : decode cX5_put 68 = .ok (.imul, 1) := by decide +kernel
theorem dX5_put_69 : decode cX5_put 69 = .ok (.iload_n 2, 1) := by decide +kernel
theorem dX5_put_70 : decode cX5_put 70 = .ok (.iadd, 1) := by decide +kernel
theorem dX5_put_71 : decode cX5_put 71 = .ok (.iload_n 3, 1) := by decide +kernel
theorem dX5_put_72 : decode cX5_put 72 = .ok (.i2b, 1) := by decide +kernel
theorem dX5_put_73 : decode cX5_put 73 = .ok (.iastore, 1) := by decide +kernel
theorem dX5_put_74 : decode cX5_put 74 = .ok (.iload 4, 2) := by decide +kernel
theorem dX5_put_76 : decode cX5_put 76 = .ok (.sipush 1000, 3) := by decide +kernel
theorem dX5_put_79 : decode cX5_put 79 = .ok (.iadd, 1) := by decide +kernel
theorem dX5_put_80 : decode cX5_put 80 = .ok (.ireturn, 1) := by decide +kernel
theorem dX5_here_0 : decode cX5_here 0 = .ok (.aload_n 0, 1) := by decide +kernel
theorem dX5_here_1 : decode cX5_here 1 = .ok (.getfield 34, 3) := by decide +kernel
theorem dX5_here_4 : decode cX5_here 4 = .ok (.aload_n 0, 1) := by decide +kernel
theorem dX5_here_5 : decode cX5_here 5 = .ok (.getfield 109, 3) := by decide +kernel
theorem dX5_here_8 : decode cX5_here 8 = .ok (.aload_n 0, 1) := by decide +kernel
theorem dX5_here_9 : decode cX5_here 9 = .ok (.getfield 112, 3) := by decide +kernel
theorem dX5_here_12 : decode cX5_here 12 = .ok (.iadd, 1) := by decide +kernel
theorem dX5_here_13 : decode cX5_here 13 = .ok (.iaload, 1) := by decide +kernel
theorem dX5_here_14 : decode cX5_here 14 = .ok (.ireturn, 1) := by decide +kernel
theorem dX5_skip_0 : decode cX5_skip 0 = .ok (.aload_n 0, 1) := by decide +kernel
theorem dX5_skip_1 : decode cX5_skip 1 = .ok (.getfield 112, 3) := by decide +kernel
theorem dX5_skip_4 : decode cX5_skip 4 = .ok (.aload_n 0, 1) := by decide +kernel
theorem dX5_skip_5 : decode cX5_skip 5 = .ok (.getfield 115, 3) := by decide +kernel
theorem dX5_skip_8 : decode cX5_skip 8 = .ok (.if_icmp .ge 25, 3) := by decide +kernel
theorem dX5_skip_11 : decode cX5_skip 11 = .ok (.aload_n 0, 1) := by decide +kernel
theorem dX5_skip_12 : decode cX5_skip 12 = .ok (.invokevirtual 118, 3) := by decide +kernel
theorem dX5_skip_15 : decode cX5_skip 15 = .ok (.bipush 32, 2) := by decide +kernel
theorem dX5_skip_17 : decode cX5_skip 17 = .ok (.if_icmp .ne 16, 3) := by decide +kernel
theorem dX5_skip_20 : decode cX5_skip 20 = .ok (.aload_n 0, 1) := by decide +kernel
theorem dX5_skip_21 : decode cX5_skip 21 = .ok (.dup, 1) := by decide +kernel
theorem dX5_skip_22 : decode cX5_skip 22 = .ok (.getfield 112, 3) := by decide +kernel
theorem dX5_skip_25 : decode cX5_skip 25 = .ok (.iconst 1, 1) := by decide +kernel
theorem dX5_skip_26 : decode cX5_skip 26 = .ok (.iadd, 1) := by decide +kernel
theorem dX5_skip_27 : decode cX5_skip 27 = .ok (.putfield 112, 3) := by decide +kernel
theorem dX5_skip_30 : decode cX5_skip 30 = .ok (.goto (-30), 3) := by decide +kernel
theorem dX5_skip_33 : decode cX5_skip 33 = .ok (.return_, 1) := by decide +kernel
theorem dX5_isFigure_0 : decode cX5_isFigure 0 = .ok (.aload_n 0, 1) := by decide +kernel
theorem dX5_isFigure_1 : decode cX5_isFigure 1 = .ok (.getfield 112, 3) := by decide +kernel
theorem dX5_isFigure_4 : decode cX5_isFigure 4 = .ok (.aload_n 0, 1) := by decide +kernel
theorem dX5_isFigure_5 : decode cX5_isFigure 5 = .ok (.getfield 115, 3) := by decide +kernel
theorem dX5_isFigure_8 : decode cX5_isFigure 8 = .ok (.if_icmp .ge 28, 3) := by decide +kernel
theorem dX5_isFigure_11 : decode cX5_isFigure 11 = .ok (.aload_n 0, 1) := by decide +kernel
theorem dX5_isFigure_12 : decode cX5_isFigure 12 = .ok (.invokevirtual 118, 3) := by decide +kernel
theorem dX5_isFigure_15 : decode cX5_isFigure 15 = .ok (.i2l, 1) := by decide +kernel
theorem dX5_isFigure_16 : decode cX5_isFigure 16 = .ok (.bipush 48, 2) := by decide +kernel
theorem dX5_isFigure_18 : decode cX5_isFigure 18 = .ok (.iload_n 1, 1) := by decide +kernel
theorem dX5_isFigure_19 : decode cX5_isFigure 19 = .ok (.iadd, 1) := by decide +kernel
theorem dX5_isFigure_20 : decode cX5_isFigure 20 = .ok (.i2l, 1) := by decide +kernel
theorem dX5_isFigure_21 : decode cX5_isFigure 21 = .ok (.bipush 48, 2) := by decide +kernel
theorem dX5_isFigure_23 : decode cX5_isFigure 23 = .ok (.iload_n 2, 1) := by decide +kernel
theorem dX5_isFigure_24 : decode cX5_isFigure 24 = .ok (.iadd, 1) := by decide +kernel
theorem dX5_isFigure_25 : decode cX5_isFigure 25 = .ok (.i2l, 1) := by decide +kernel
theorem dX5_isFigure_26 : decode cX5_isFigure 26 = .ok (.invokestatic 77, 3) := by decide +kernel
theorem dX5_isFigure_29 : decode cX5_isFigure 29 = .ok (.ifCond .eq 7, 3) := by decide +kernel
theorem dX5_isFigure_32 : decode cX5_isFigure 32 = .ok (.iconst 1, 1) := by decide +kernel
theorem dX5_isFigure_33 : decode cX5_isFigure 33 = .ok (.goto 4, 3) := by decide +kernel
theorem dX5_isFigure_36 : decode cX5_isFigure 36 = .ok (.iconst 0, 1) := by decide +kernel
theorem dX5_isFigure_37 : decode cX5_isFigure 37 = .ok (.ireturn, 1) := by decide +kernel
theorem dX5_figure_0 : decode cX5_figure 0 = .ok (.aload_n 0, 1) := by decide +kernel
theorem dX5_figure_1 : decode cX5_figure 1 = .ok (.iload_n 1, 1) := by decide +kernel
theorem dX5_figure_2 : decode cX5_figure 2 = .ok (.iload_n 2, 1) := by decide +kernel
theorem dX5_figure_3 : decode cX5_figure 3 = .ok (.invokevirtual 122, 3) := by decide +kernel
theorem dX5_figure_6 : decode cX5_figure 6 = .ok (.ifCond .ne 6, 3) := by decide +kernel
theorem dX5_figure_9 : decode cX5_figure 9 = .ok (.bipush (-9), 2) := by decide +kernel
theorem dX5_figure_11 : decode cX5_figure 11 = .ok (.ireturn, 1) := by decide +kernel
theorem dX5_figure_12 : decode cX5_figure 12 = .ok (.aload_n 0, 1) := by decide +kernel
theorem dX5_figure_13 : decode cX5_figure 13 = .ok (.dup, 1) := by decide +kernel
theorem dX5_figure_14 : decode cX5_figure 14 = .ok (.getfield 112, 3) := by decide +kernel
theorem dX5_figure_17 : decode cX5_figure 17 = .ok (.iconst 1, 1) := by decide +kernel
theorem dX5_figure_18 : decode cX5_figure 18 = .ok (.iadd, 1) := by decide +kernel
theorem dX5_figure_19 : decode cX5_figure 19 = .ok (.putfield 112, 3) := by decide +kernel
theorem dX5_figure_22 : decode cX5_figure 22 = .ok (.aload_n 0, 1) := by decide +kernel
theorem dX5_figure_23 : decode cX5_figure 23 = .ok (.getfield 34, 3) := by decide +kernel
theorem dX5_figure_26 : decode cX5_figure 26 = .ok (.aload_n 0, 1) := by decide +kernel
theorem dX5_figure_27 : decode cX5_figure 27 = .ok (.getfield 109, 3) := by decide +kernel
theorem dX5_figure_30 : decode cX5_figure 30 = .ok (.aload_n 0, 1) := by decide +kernel
theorem dX5_figure_31 : decode cX5_figure 31 = .ok (.getfield 112, 3) := by decide +kernel
theorem dX5_figure_34 : decode cX5_figure 34 = .ok (.iadd, 1) := by decide +kernel
theorem dX5_figure_35 : decode cX5_figure 35 = .ok (.iconst 1, 1) := by decide +kernel
theorem dX5_figure_36 : decode cX5_figure 36 = .ok (.isub, 1) := by decide +kernel
theorem dX5_figure_37 : decode cX5_figure 37 = .ok (.iaload, 1) := by decide +kernel
theorem dX5_figure_38 : decode cX5_figure 38 = .ok (.bipush 48, 2) := by decide +kernel
theorem dX5_figure_40 : decode cX5_figure 40 = .ok (.isub, 1) := by decide +kernel
theorem dX5_figure_41 : decode cX5_figure 41 = .ok (.ireturn, 1) := by decide +kernel
theorem dX5_readsPlay_0 : decode cX5_readsPlay 0 = .ok (.aload_n 0, 1) := by decide +kernel
theorem dX5_readsPlay_1 : decode cX5_readsPlay 1 = .ok (.invokevirtual 126, 3) := by decide +kernel
theorem dX5_readsPlay_4 : decode cX5_readsPlay 4 = .ok (.aload_n 0, 1) := by decide +kernel
theorem dX5_readsPlay_5 : decode cX5_readsPlay 5 = .ok (.getfield 112, 3) := by decide +kernel
theorem dX5_readsPlay_8 : decode cX5_readsPlay 8 = .ok (.aload_n 0, 1) := by decide +kernel
theorem dX5_readsPlay_9 : decode cX5_readsPlay 9 = .ok (.getfield 115, 3) := by decide +kernel
theorem dX5_readsPlay_12 : decode cX5_readsPlay 12 = .ok (.if_icmp .eq 12, 3) := by decide +kernel
theorem dX5_readsPlay_15 : decode cX5_readsPlay 15 = .ok (.aload_n 0, 1) := by decide +kernel
theorem dX5_readsPlay_16 : decode cX5_readsPlay 16 = .ok (.invokevirtual 118, 3) := by decide +kernel
theorem dX5_readsPlay_19 : decode cX5_readsPlay 19 = .ok (.bipush 97, 2) := by decide +kernel
theorem dX5_readsPlay_21 : decode cX5_readsPlay 21 = .ok (.if_icmp .eq 5, 3) := by decide +kernel
theorem dX5_readsPlay_24 : decode cX5_readsPlay 24 = .ok (.iconst 0, 1) := by decide +kernel
theorem dX5_readsPlay_25 : decode cX5_readsPlay 25 = .ok (.ireturn, 1) := by decide +kernel
theorem dX5_readsPlay_26 : decode cX5_readsPlay 26 = .ok (.aload_n 0, 1) := by decide +kernel
theorem dX5_readsPlay_27 : decode cX5_readsPlay 27 = .ok (.dup, 1) := by decide +kernel
theorem dX5_readsPlay_28 : decode cX5_readsPlay 28 = .ok (.getfield 112, 3) := by decide +kernel
theorem dX5_readsPlay_31 : decode cX5_readsPlay 31 = .ok (.iconst 1, 1) := by decide +kernel
theorem dX5_readsPlay_32 : decode cX5_readsPlay 32 = .ok (.iadd, 1) := by decide +kernel
theorem dX5_readsPlay_33 : decode cX5_readsPlay 33 = .ok (.putfield 112, 3) := by decide +kernel
theorem dX5_readsPlay_36 : decode cX5_readsPlay 36 = .ok (.aload_n 0, 1) := by decide +kernel
theorem dX5_readsPlay_37 : decode cX5_readsPlay 37 = .ok (.aload_n 0, 1) := by decide +kernel
theorem dX5_readsPlay_38 : decode cX5_readsPlay 38 = .ok (.iconst 0, 1) := by decide +kernel
theorem dX5_readsPlay_39 : decode cX5_readsPlay 39 = .ok (.bipush 9, 2) := by decide +kernel
theorem dX5_readsPlay_41 : decode cX5_readsPlay 41 = .ok (.invokevirtual 129, 3) := by decide +kernel
theorem dX5_readsPlay_44 : decode cX5_readsPlay 44 = .ok (.putfield 132, 3) := by decide +kernel
theorem dX5_readsPlay_47 : decode cX5_readsPlay 47 = .ok (.aload_n 0, 1) := by decide +kernel
theorem dX5_readsPlay_48 : decode cX5_readsPlay 48 = .ok (.getfield 132, 3) := by decide +kernel
theorem dX5_readsPlay_51 : decode cX5_readsPlay 51 = .ok (.bipush (-9), 2) := by decide +kernel
theorem dX5_readsPlay_53 : decode cX5_readsPlay 53 = .ok (.if_icmp .ne 5, 3) := by decide +kernel
theorem dX5_readsPlay_56 : decode cX5_readsPlay 56 = .ok (.iconst 0, 1) := by decide +kernel
theorem dX5_readsPlay_57 : decode cX5_readsPlay 57 = .ok (.ireturn, 1) := by decide +kernel
theorem dX5_readsPlay_58 : decode cX5_readsPlay 58 = .ok (.aload_n 0, 1) := by decide +kernel
theorem dX5_readsPlay_59 : decode cX5_readsPlay 59 = .ok (.iconst 1, 1) := by decide +kernel
theorem dX5_readsPlay_60 : decode cX5_readsPlay 60 = .ok (.bipush 9, 2) := by decide +kernel
theorem dX5_readsPlay_62 : decode cX5_readsPlay 62 = .ok (.invokevirtual 122, 3) := by decide +kernel
theorem dX5_readsPlay_65 : decode cX5_readsPlay 65 = .ok (.ifCond .eq 43, 3) := by decide +kernel
theorem dX5_readsPlay_68 : decode cX5_readsPlay 68 = .ok (.aload_n 0, 1) := by decide +kernel
theorem dX5_readsPlay_69 : decode cX5_readsPlay 69 = .ok (.getfield 135, 3) := by decide +kernel
theorem dX5_readsPlay_72 : decode cX5_readsPlay 72 = .ok (.bipush 6, 2) := by decide +kernel
theorem dX5_readsPlay_74 : decode cX5_readsPlay 74 = .ok (.if_icmp .ne 5, 3) := by decide +kernel
theorem dX5_readsPlay_77 : decode cX5_readsPlay 77 = .ok (.iconst 0, 1) := by decide +kernel
theorem dX5_readsPlay_78 : decode cX5_readsPlay 78 = .ok (.ireturn, 1) := by decide +kernel
theorem dX5_readsPlay_79 : decode cX5_readsPlay 79 = .ok (.aload_n 0, 1) := by decide +kernel
theorem dX5_readsPlay_80 : decode cX5_readsPlay 80 = .ok (.getfield 44, 3) := by decide +kernel
theorem dX5_readsPlay_83 : decode cX5_readsPlay 83 = .ok (.aload_n 0, 1) := by decide +kernel
theorem dX5_readsPlay_84 : decode cX5_readsPlay 84 = .ok (.getfield 135, 3) := by decide +kernel
theorem dX5_readsPlay_87 : decode cX5_readsPlay 87 = .ok (.aload_n 0, 1) := by decide +kernel
theorem dX5_readsPlay_88 : decode cX5_readsPlay 88 = .ok (.iconst 1, 1) := by decide +kernel
theorem dX5_readsPlay_89 : decode cX5_readsPlay 89 = .ok (.bipush 9, 2) := by decide +kernel
theorem dX5_readsPlay_91 : decode cX5_readsPlay 91 = .ok (.invokevirtual 129, 3) := by decide +kernel
theorem dX5_readsPlay_94 : decode cX5_readsPlay 94 = .ok (.iastore, 1) := by decide +kernel
theorem dX5_readsPlay_95 : decode cX5_readsPlay 95 = .ok (.aload_n 0, 1) := by decide +kernel
theorem dX5_readsPlay_96 : decode cX5_readsPlay 96 = .ok (.dup, 1) := by decide +kernel
theorem dX5_readsPlay_97 : decode cX5_readsPlay 97 = .ok (.getfield 135, 3) := by decide +kernel
theorem dX5_readsPlay_100 : decode cX5_readsPlay 100 = .ok (.iconst 1, 1) := by decide +kernel
theorem dX5_readsPlay_101 : decode cX5_readsPlay 101 = .ok (.iadd, 1) := by decide +kernel
theorem dX5_readsPlay_102 : decode cX5_readsPlay 102 = .ok (.putfield 135, 3) := by decide +kernel
theorem dX5_readsPlay_105 : decode cX5_readsPlay 105 = .ok (.goto (-47), 3) := by decide +kernel
theorem dX5_readsPlay_108 : decode cX5_readsPlay 108 = .ok (.aload_n 0, 1) := by decide +kernel
theorem dX5_readsPlay_109 : decode cX5_readsPlay 109 = .ok (.getfield 135, 3) := by decide +kernel
theorem dX5_readsPlay_112 : decode cX5_readsPlay 112 = .ok (.ifCond .le 7, 3) := by decide +kernel
theorem dX5_readsPlay_115 : decode cX5_readsPlay 115 = .ok (.iconst 1, 1) := by decide +kernel
theorem dX5_readsPlay_116 : decode cX5_readsPlay 116 = .ok (.goto 4, 3) := by decide +kernel
theorem dX5_readsPlay_119 : decode cX5_readsPlay 119 = .ok (.iconst 0, 1) := by decide +kernel
theorem dX5_readsPlay_120 : decode cX5_readsPlay 120 = .ok (.ireturn, 1) := by decide +kernel
theorem dX5_kindOfLetter_0 : decode cX5_kindOfLetter 0 = .ok (.iload_n 0, 1) := by decide +kernel
theorem dX5_kindOfLetter_1 : decode cX5_kindOfLetter 1 = .ok (.bipush 115, 2) := by decide +kernel
theorem dX5_kindOfLetter_3 : decode cX5_kindOfLetter 3 = .ok (.if_icmp .ne 7, 3) := by decide +kernel
theorem dX5_kindOfLetter_6 : decode cX5_kindOfLetter 6 = .ok (.iconst 0, 1) := by decide +kernel
theorem dX5_kindOfLetter_7 : decode cX5_kindOfLetter 7 = .ok (.goto 55, 3) := by decide +kernel
theorem dX5_kindOfLetter_10 : decode cX5_kindOfLetter 10 = .ok (.iload_n 0, 1) := by decide +kernel
theorem dX5_kindOfLetter_11 : decode cX5_kindOfLetter 11 = .ok (.bipush 99, 2) := by decide +kernel
theorem dX5_kindOfLetter_13 : decode cX5_kindOfLetter 13 = .ok (.if_icmp .ne 7, 3) := by decide +kernel
theorem dX5_kindOfLetter_16 : decode cX5_kindOfLetter 16 = .ok (.iconst 1, 1) := by decide +kernel
theorem dX5_kindOfLetter_17 : decode cX5_kindOfLetter 17 = .ok (.goto 45, 3) := by decide +kernel
theorem dX5_kindOfLetter_20 : decode cX5_kindOfLetter 20 = .ok (.iload_n 0, 1) := by decide +kernel
theorem dX5_kindOfLetter_21 : decode cX5_kindOfLetter 21 = .ok (.bipush 107, 2) := by decide +kernel
theorem dX5_kindOfLetter_23 : decode cX5_kindOfLetter 23 = .ok (.if_icmp .ne 7, 3) := by decide +kernel
theorem dX5_kindOfLetter_26 : decode cX5_kindOfLetter 26 = .ok (.iconst 2, 1) := by decide +kernel
theorem dX5_kindOfLetter_27 : decode cX5_kindOfLetter 27 = .ok (.goto 35, 3) := by decide +kernel
theorem dX5_kindOfLetter_30 : decode cX5_kindOfLetter 30 = .ok (.iload_n 0, 1) := by decide +kernel
theorem dX5_kindOfLetter_31 : decode cX5_kindOfLetter 31 = .ok (.bipush 117, 2) := by decide +kernel
theorem dX5_kindOfLetter_33 : decode cX5_kindOfLetter 33 = .ok (.if_icmp .ne 7, 3) := by decide +kernel
theorem dX5_kindOfLetter_36 : decode cX5_kindOfLetter 36 = .ok (.iconst 3, 1) := by decide +kernel
theorem dX5_kindOfLetter_37 : decode cX5_kindOfLetter 37 = .ok (.goto 25, 3) := by decide +kernel
theorem dX5_kindOfLetter_40 : decode cX5_kindOfLetter 40 = .ok (.iload_n 0, 1) := by decide +kernel
theorem dX5_kindOfLetter_41 : decode cX5_kindOfLetter 41 = .ok (.bipush 119, 2) := by decide +kernel
theorem dX5_kindOfLetter_43 : decode cX5_kindOfLetter 43 = .ok (.if_icmp .ne 7, 3) := by decide +kernel
theorem dX5_kindOfLetter_46 : decode cX5_kindOfLetter 46 = .ok (.iconst 4, 1) := by decide +kernel
theorem dX5_kindOfLetter_47 : decode cX5_kindOfLetter 47 = .ok (.goto 15, 3) := by decide +kernel
theorem dX5_kindOfLetter_50 : decode cX5_kindOfLetter 50 = .ok (.iload_n 0, 1) := by decide +kernel
theorem dX5_kindOfLetter_51 : decode cX5_kindOfLetter 51 = .ok (.bipush 113, 2) := by decide +kernel
theorem dX5_kindOfLetter_53 : decode cX5_kindOfLetter 53 = .ok (.if_icmp .ne 7, 3) := by decide +kernel
theorem dX5_kindOfLetter_56 : decode cX5_kindOfLetter 56 = .ok (.iconst 5, 1) := by decide +kernel
theorem dX5_kindOfLetter_57 : decode cX5_kindOfLetter 57 = .ok (.goto 5, 3) := by decide +kernel
theorem dX5_kindOfLetter_60 : decode cX5_kindOfLetter 60 = .ok (.bipush (-9), 2) := by decide +kernel
theorem dX5_kindOfLetter_62 : decode cX5_kindOfLetter 62 = .ok (.ireturn, 1) := by decide +kernel
theorem dX5_readsSitter_0 : decode cX5_readsSitter 0 = .ok (.aload_n 0, 1) := by decide +kernel
theorem dX5_readsSitter_1 : decode cX5_readsSitter 1 = .ok (.invokevirtual 118, 3) := by decide +kernel
theorem dX5_readsSitter_4 : decode cX5_readsSitter 4 = .ok (.invokestatic 138, 3) := by decide +kernel
theorem dX5_readsSitter_7 : decode cX5_readsSitter 7 = .ok (.istore_n 1, 1) := by decide +kernel
theorem dX5_readsSitter_8 : decode cX5_readsSitter 8 = .ok (.iload_n 1, 1) := by decide +kernel
theorem dX5_readsSitter_9 : decode cX5_readsSitter 9 = .ok (.bipush (-9), 2) := by decide +kernel
theorem dX5_readsSitter_11 : decode cX5_readsSitter 11 = .ok (.if_icmp .eq 12, 3) := by decide +kernel
theorem dX5_readsSitter_14 : decode cX5_readsSitter 14 = .ok (.aload_n 0, 1) := by decide +kernel
theorem dX5_readsSitter_15 : decode cX5_readsSitter 15 = .ok (.getfield 141, 3) := by decide +kernel
theorem dX5_readsSitter_18 : decode cX5_readsSitter 18 = .ok (.bipush 6, 2) := by decide +kernel
theorem dX5_readsSitter_20 : decode cX5_readsSitter 20 = .ok (.if_icmp .ne 5, 3) := by decide +kernel
theorem dX5_readsSitter_23 : decode cX5_readsSitter 23 = .ok (.iconst 0, 1) := by decide +kernel
theorem dX5_readsSitter_24 : decode cX5_readsSitter 24 = .ok (.ireturn, 1) := by decide +kernel
theorem dX5_readsSitter_25 : decode cX5_readsSitter 25 = .ok (.aload_n 0, 1) := by decide +kernel
theorem dX5_readsSitter_26 : decode cX5_readsSitter 26 = .ok (.dup, 1) := by decide +kernel
theorem dX5_readsSitter_27 : decode cX5_readsSitter 27 = .ok (.getfield 112, 3) := by decide +kernel
theorem dX5_readsSitter_30 : decode cX5_readsSitter 30 = .ok (.iconst 1, 1) := by decide +kernel
theorem dX5_readsSitter_31 : decode cX5_readsSitter 31 = .ok (.iadd, 1) := by decide +kernel
theorem dX5_readsSitter_32 : decode cX5_readsSitter 32 = .ok (.putfield 112, 3) := by decide +kernel
theorem dX5_readsSitter_35 : decode cX5_readsSitter 35 = .ok (.aload_n 0, 1) := by decide +kernel
theorem dX5_readsSitter_36 : decode cX5_readsSitter 36 = .ok (.iconst 0, 1) := by decide +kernel
theorem dX5_readsSitter_37 : decode cX5_readsSitter 37 = .ok (.bipush 9, 2) := by decide +kernel
theorem dX5_readsSitter_39 : decode cX5_readsSitter 39 = .ok (.invokevirtual 129, 3) := by decide +kernel
theorem dX5_readsSitter_42 : decode cX5_readsSitter 42 = .ok (.istore_n 2, 1) := by decide +kernel
theorem dX5_readsSitter_43 : decode cX5_readsSitter 43 = .ok (.iload_n 2, 1) := by decide +kernel
theorem dX5_readsSitter_44 : decode cX5_readsSitter 44 = .ok (.bipush (-9), 2) := by decide +kernel
theorem dX5_readsSitter_46 : decode cX5_readsSitter 46 = .ok (.if_icmp .eq 26, 3) := by decide +kernel
theorem dX5_readsSitter_49 : decode cX5_readsSitter 49 = .ok (.aload_n 0, 1) := by decide +kernel
theorem dX5_readsSitter_50 : decode cX5_readsSitter 50 = .ok (.getfield 144, 3) := by decide +kernel
theorem dX5_readsSitter_53 : decode cX5_readsSitter 53 = .ok (.iload_n 2, 1) := by decide +kernel
theorem dX5_readsSitter_54 : decode cX5_readsSitter 54 = .ok (.invokestatic 147, 3) := by decide +kernel
theorem dX5_readsSitter_57 : decode cX5_readsSitter 57 = .ok (.ifCond .eq 15, 3) := by decide +kernel
theorem dX5_readsSitter_60 : decode cX5_readsSitter 60 = .ok (.aload_n 0, 1) := by decide +kernel
theorem dX5_readsSitter_61 : decode cX5_readsSitter 61 = .ok (.dup, 1) := by decide +kernel
theorem dX5_readsSitter_62 : decode cX5_readsSitter 62 = .ok (.getfield 112, 3) := by decide +kernel
theorem dX5_readsSitter_65 : decode cX5_readsSitter 65 = .ok (.iconst 1, 1) := by decide +kernel
theorem dX5_readsSitter_66 : decode cX5_readsSitter 66 = .ok (.isub, 1) := by decide +kernel
theorem dX5_readsSitter_67 : decode cX5_readsSitter 67 = .ok (.putfield 112, 3) := by decide +kernel
theorem dX5_readsSitter_70 : decode cX5_readsSitter 70 = .ok (.iconst 0, 1) := by decide +kernel
theorem dX5_readsSitter_71 : decode cX5_readsSitter 71 = .ok (.ireturn, 1) := by decide +kernel
theorem dX5_readsSitter_72 : decode cX5_readsSitter 72 = .ok (.iload_n 2, 1) := by decide +kernel
theorem dX5_readsSitter_73 : decode cX5_readsSitter 73 = .ok (.bipush (-9), 2) := by decide +kernel
theorem dX5_readsSitter_75 : decode cX5_readsSitter 75 = .ok (.if_icmp .ne 8, 3) := by decide +kernel
theorem dX5_readsSitter_78 : decode cX5_readsSitter 78 = .ok (.bipush (-9), 2) := by decide +kernel
theorem dX5_readsSitter_80 : decode cX5_readsSitter 80 = .ok (.goto 10, 3) := by decide +kernel
theorem dX5_readsSitter_83 : decode cX5_readsSitter 83 = .ok (.aload_n 0, 1) := by decide +kernel
theorem dX5_readsSitter_84 : decode cX5_readsSitter 84 = .ok (.iconst 0, 1) := by decide +kernel
theorem dX5_readsSitter_85 : decode cX5_readsSitter 85 = .ok (.bipush 9, 2) := by decide +kernel
theorem dX5_readsSitter_87 : decode cX5_readsSitter 87 = .ok (.invokevirtual 129, 3) := by decide +kernel
theorem dX5_readsSitter_90 : decode cX5_readsSitter 90 = .ok (.istore_n 3, 1) := by decide +kernel
theorem dX5_readsSitter_91 : decode cX5_readsSitter 91 = .ok (.iload_n 3, 1) := by decide +kernel
theorem dX5_readsSitter_92 : decode cX5_readsSitter 92 = .ok (.bipush (-9), 2) := by decide +kernel
theorem dX5_readsSitter_94 : decode cX5_readsSitter 94 = .ok (.if_icmp .ne 8, 3) := by decide +kernel
theorem dX5_readsSitter_97 : decode cX5_readsSitter 97 = .ok (.bipush (-9), 2) := by decide +kernel
theorem dX5_readsSitter_99 : decode cX5_readsSitter 99 = .ok (.goto 10, 3) := by decide +kernel
theorem dX5_readsSitter_102 : decode cX5_readsSitter 102 = .ok (.aload_n 0, 1) := by decide +kernel
theorem dX5_readsSitter_103 : decode cX5_readsSitter 103 = .ok (.iconst 0, 1) := by decide +kernel
theorem dX5_readsSitter_104 : decode cX5_readsSitter 104 = .ok (.bipush 9, 2) := by decide +kernel
theorem dX5_readsSitter_106 : decode cX5_readsSitter 106 = .ok (.invokevirtual 129, 3) := by decide +kernel
theorem dX5_readsSitter_109 : decode cX5_readsSitter 109 = .ok (.istore 4, 2) := by decide +kernel
theorem dX5_readsSitter_111 : decode cX5_readsSitter 111 = .ok (.iload 4, 2) := by decide +kernel
theorem dX5_readsSitter_113 : decode cX5_readsSitter 113 = .ok (.bipush (-9), 2) := by decide +kernel
theorem dX5_readsSitter_115 : decode cX5_readsSitter 115 = .ok (.if_icmp .ne 5, 3) := by decide +kernel
theorem dX5_readsSitter_118 : decode cX5_readsSitter 118 = .ok (.iconst 0, 1) := by decide +kernel
theorem dX5_readsSitter_119 : decode cX5_readsSitter 119 = .ok (.ireturn, 1) := by decide +kernel
theorem dX5_readsSitter_120 : decode cX5_readsSitter 120 = .ok (.iconst 4, 1) := by decide +kernel
theorem dX5_readsSitter_121 : decode cX5_readsSitter 121 = .ok (.aload_n 0, 1) := by decide +kernel
theorem dX5_readsSitter_122 : decode cX5_readsSitter 122 = .ok (.getfield 141, 3) := by decide +kernel
theorem dX5_readsSitter_125 : decode cX5_readsSitter 125 = .ok (.imul, 1) := by decide +kernel
theorem dX5_readsSitter_126 : decode cX5_readsSitter 126 = .ok (.istore 5, 2) := by decide +kernel
theorem dX5_readsSitter_128 : decode cX5_readsSitter 128 = .ok (.aload_n 0, 1) := by decide +kernel
theorem dX5_readsSitter_129 : decode cX5_readsSitter 129 = .ok (.getfield 47, 3) := by decide +kernel
theorem dX5_readsSitter_132 : decode cX5_readsSitter 132 = .ok (.iload 5, 2) := by decide +kernel
theorem dX5_readsSitter_134 : decode cX5_readsSitter 134 = .ok (.iload_n 1, 1) := by decide +kernel
theorem dX5_readsSitter_135 : decode cX5_readsSitter 135 = .ok (.iastore, 1) := by decide +kernel
theorem dX5_readsSitter_136 : decode cX5_readsSitter 136 = .ok (.aload_n 0, 1) := by decide +kernel
theorem dX5_readsSitter_137 : decode cX5_readsSitter 137 = .ok (.getfield 47, 3) := by decide +kernel
theorem dX5_readsSitter_140 : decode cX5_readsSitter 140 = .ok (.iload 5, 2) := by decide +kernel
theorem dX5_readsSitter_142 : decode cX5_readsSitter 142 = .ok (.iconst 1, 1) := by decide +kernel
theorem dX5_readsSitter_143 : decode cX5_readsSitter 143 = .ok (.iadd, 1) := by decide +kernel
theorem dX5_readsSitter_144 : decode cX5_readsSitter 144 = .ok (.iload_n 2, 1) := by decide +kernel
theorem dX5_readsSitter_145 : decode cX5_readsSitter 145 = .ok (.iastore, 1) := by decide +kernel
theorem dX5_readsSitter_146 : decode cX5_readsSitter 146 = .ok (.aload_n 0, 1) := by decide +kernel
theorem dX5_readsSitter_147 : decode cX5_readsSitter 147 = .ok (.getfield 47, 3) := by decide +kernel
theorem dX5_readsSitter_150 : decode cX5_readsSitter 150 = .ok (.iload 5, 2) := by decide +kernel
theorem dX5_readsSitter_152 : decode cX5_readsSitter 152 = .ok (.iconst 2, 1) := by decide +kernel
theorem dX5_readsSitter_153 : decode cX5_readsSitter 153 = .ok (.iadd, 1) := by decide +kernel
theorem dX5_readsSitter_154 : decode cX5_readsSitter 154 = .ok (.iload_n 3, 1) := by decide +kernel
theorem dX5_readsSitter_155 : decode cX5_readsSitter 155 = .ok (.iastore, 1) := by decide +kernel
theorem dX5_readsSitter_156 : decode cX5_readsSitter 156 = .ok (.aload_n 0, 1) := by decide +kernel
theorem dX5_readsSitter_157 : decode cX5_readsSitter 157 = .ok (.getfield 47, 3) := by decide +kernel
theorem dX5_readsSitter_160 : decode cX5_readsSitter 160 = .ok (.iload 5, 2) := by decide +kernel
theorem dX5_readsSitter_162 : decode cX5_readsSitter 162 = .ok (.iconst 3, 1) := by decide +kernel
theorem dX5_readsSitter_163 : decode cX5_readsSitter 163 = .ok (.iadd, 1) := by decide +kernel
theorem dX5_readsSitter_164 : decode cX5_readsSitter 164 = .ok (.iload 4, 2) := by decide +kernel
theorem dX5_readsSitter_166 : decode cX5_readsSitter 166 = .ok (.iastore, 1) := by decide +kernel
theorem dX5_readsSitter_167 : decode cX5_readsSitter 167 = .ok (.aload_n 0, 1) := by decide +kernel
theorem dX5_readsSitter_168 : decode cX5_readsSitter 168 = .ok (.dup, 1) := by decide +kernel
theorem dX5_readsSitter_169 : decode cX5_readsSitter 169 = .ok (.getfield 144, 3) := by decide +kernel
theorem dX5_readsSitter_172 : decode cX5_readsSitter 172 = .ok (.iconst 1, 1) := by decide +kernel
theorem dX5_readsSitter_173 : decode cX5_readsSitter 173 = .ok (.iload_n 2, 1) := by decide +kernel
theorem dX5_readsSitter_174 : decode cX5_readsSitter 174 = .ok (.ishl, 1) := by decide +kernel
theorem dX5_readsSitter_175 : decode cX5_readsSitter 175 = .ok (.ior, 1) := by decide +kernel
theorem dX5_readsSitter_176 : decode cX5_readsSitter 176 = .ok (.putfield 144, 3) := by decide +kernel
theorem dX5_readsSitter_179 : decode cX5_readsSitter 179 = .ok (.aload_n 0, 1) := by decide +kernel
theorem dX5_readsSitter_180 : decode cX5_readsSitter 180 = .ok (.dup, 1) := by decide +kernel
theorem dX5_readsSitter_181 : decode cX5_readsSitter 181 = .ok (.getfield 141, 3) := by decide +kernel
theorem dX5_readsSitter_184 : decode cX5_readsSitter 184 = .ok (.iconst 1, 1) := by decide +kernel
theorem dX5_readsSitter_185 : decode cX5_readsSitter 185 = .ok (.iadd, 1) := by decide +kernel
theorem dX5_readsSitter_186 : decode cX5_readsSitter 186 = .ok (.putfield 141, 3) := by decide +kernel
theorem dX5_readsSitter_189 : decode cX5_readsSitter 189 = .ok (.iconst 1, 1) := by decide +kernel
theorem dX5_readsSitter_190 : decode cX5_readsSitter 190 = .ok (.ireturn, 1) := by decide +kernel
theorem dX5_faultOf_0 : decode cX5_faultOf 0 = .ok (.aload_n 0, 1) := by decide +kernel
theorem dX5_faultOf_1 : decode cX5_faultOf 1 = .ok (.bipush 60, 2) := by decide +kernel
theorem dX5_faultOf_3 : decode cX5_faultOf 3 = .ok (.iload_n 1, 1) := by decide +kernel
theorem dX5_faultOf_4 : decode cX5_faultOf 4 = .ok (.imul, 1) := by decide +kernel
theorem dX5_faultOf_5 : decode cX5_faultOf 5 = .ok (.putfield 109, 3) := by decide +kernel
theorem dX5_faultOf_8 : decode cX5_faultOf 8 = .ok (.aload_n 0, 1) := by decide +kernel
theorem dX5_faultOf_9 : decode cX5_faultOf 9 = .ok (.iconst 0, 1) := by decide +kernel
theorem dX5_faultOf_10 : decode cX5_faultOf 10 = .ok (.putfield 112, 3) := by decide +kernel
theorem dX5_faultOf_13 : decode cX5_faultOf 13 = .ok (.aload_n 0, 1) := by decide +kernel
theorem dX5_faultOf_14 : decode cX5_faultOf 14 = .ok (.aload_n 0, 1) := by decide +kernel
theorem dX5_faultOf_15 : decode cX5_faultOf 15 = .ok (.getfield 31, 3) := by decide +kernel
theorem dX5_faultOf_18 : decode cX5_faultOf 18 = .ok (.iload_n 1, 1) := by decide +kernel
theorem dX5_faultOf_19 : decode cX5_faultOf 19 = .ok (.iaload, 1) := by decide +kernel
theorem dX5_faultOf_20 : decode cX5_faultOf 20 = .ok (.putfield 115, 3) := by decide +kernel
theorem dX5_faultOf_23 : decode cX5_faultOf 23 = .ok (.aload_n 0, 1) := by decide +kernel
theorem dX5_faultOf_24 : decode cX5_faultOf 24 = .ok (.iconst 0, 1) := by decide +kernel
theorem dX5_faultOf_25 : decode cX5_faultOf 25 = .ok (.putfield 135, 3) := by decide +kernel
theorem dX5_faultOf_28 : decode cX5_faultOf 28 = .ok (.aload_n 0, 1) := by decide +kernel
theorem dX5_faultOf_29 : decode cX5_faultOf 29 = .ok (.iconst 0, 1) := by decide +kernel
theorem dX5_faultOf_30 : decode cX5_faultOf 30 = .ok (.putfield 141, 3) := by decide +kernel
theorem dX5_faultOf_33 : decode cX5_faultOf 33 = .ok (.aload_n 0, 1) := by decide +kernel
theorem dX5_faultOf_34 : decode cX5_faultOf 34 = .ok (.iconst 0, 1) := by decide +kernel
theorem dX5_faultOf_35 : decode cX5_faultOf 35 = .ok (.putfield 144, 3) := by decide +kernel
theorem dX5_faultOf_38 : decode cX5_faultOf 38 = .ok (.aload_n 0, 1) := by decide +kernel
theorem dX5_faultOf_39 : decode cX5_faultOf 39 = .ok (.invokevirtual 150, 3) := by decide +kernel
theorem dX5_faultOf_42 : decode cX5_faultOf 42 = .ok (.istore_n 2, 1) := by decide +kernel
theorem dX5_faultOf_43 : decode cX5_faultOf 43 = .ok (.iload_n 2, 1) := by decide +kernel
theorem dX5_faultOf_44 : decode cX5_faultOf 44 = .ok (.ifCond .eq 7, 3) := by decide +kernel
theorem dX5_faultOf_47 : decode cX5_faultOf 47 = .ok (.aload_n 0, 1) := by decide +kernel
theorem dX5_faultOf_48 : decode cX5_faultOf 48 = .ok (.invokevirtual 126, 3) := by decide +kernel
theorem dX5_faultOf_51 : decode cX5_faultOf 51 = .ok (.iload_n 2, 1) := by decide +kernel
theorem dX5_faultOf_52 : decode cX5_faultOf 52 = .ok (.ifCond .eq 30, 3) := by decide +kernel
theorem dX5_faultOf_55 : decode cX5_faultOf 55 = .ok (.aload_n 0, 1) := by decide +kernel
theorem dX5_faultOf_56 : decode cX5_faultOf 56 = .ok (.getfield 112, 3) := by decide +kernel
theorem dX5_faultOf_59 : decode cX5_faultOf 59 = .ok (.aload_n 0, 1) := by decide +kernel
theorem dX5_faultOf_60 : decode cX5_faultOf 60 = .ok (.getfield 115, 3) := by decide +kernel
theorem dX5_faultOf_63 : decode cX5_faultOf 63 = .ok (.if_icmp .ge 19, 3) := by decide +kernel
theorem dX5_faultOf_66 : decode cX5_faultOf 66 = .ok (.aload_n 0, 1) := by decide +kernel
theorem dX5_faultOf_67 : decode cX5_faultOf 67 = .ok (.invokevirtual 154, 3) := by decide +kernel
theorem dX5_faultOf_70 : decode cX5_faultOf 70 = .ok (.istore_n 2, 1) := by decide +kernel
theorem dX5_faultOf_71 : decode cX5_faultOf 71 = .ok (.iload_n 2, 1) := by decide +kernel
theorem dX5_faultOf_72 : decode cX5_faultOf 72 = .ok (.ifCond .eq (-21), 3) := by decide +kernel
theorem dX5_faultOf_75 : decode cX5_faultOf 75 = .ok (.aload_n 0, 1) := by decide +kernel
theorem dX5_faultOf_76 : decode cX5_faultOf 76 = .ok (.invokevirtual 126, 3) := by decide +kernel
theorem dX5_faultOf_79 : decode cX5_faultOf 79 = .ok (.goto (-28), 3) := by decide +kernel
theorem dX5_faultOf_82 : decode cX5_faultOf 82 = .ok (.iload_n 2, 1) := by decide +kernel
theorem dX5_faultOf_83 : decode cX5_faultOf 83 = .ok (.ifCond .eq 15, 3) := by decide +kernel
theorem dX5_faultOf_86 : decode cX5_faultOf 86 = .ok (.aload_n 0, 1) := by decide +kernel
theorem dX5_faultOf_87 : decode cX5_faultOf 87 = .ok (.getfield 141, 3) := by decide +kernel
theorem dX5_faultOf_90 : decode cX5_faultOf 90 = .ok (.ifCond .le 8, 3) := by decide +kernel
theorem dX5_faultOf_93 : decode cX5_faultOf 93 = .ok (.bipush (-9), 2) := by decide +kernel
theorem dX5_faultOf_95 : decode cX5_faultOf 95 = .ok (.goto 7, 3) := by decide +kernel
theorem dX5_faultOf_98 : decode cX5_faultOf 98 = .ok (.aload_n 0, 1) := by decide +kernel
theorem dX5_faultOf_99 : decode cX5_faultOf 99 = .ok (.getfield 112, 3) := by decide +kernel
theorem dX5_faultOf_102 : decode cX5_faultOf 102 = .ok (.ireturn, 1) := by decide +kernel
theorem dX5_fault_0 : decode cX5_fault 0 = .ok (.iload_n 1, 1) := by decide +kernel
theorem dX5_fault_1 : decode cX5_fault 1 = .ok (.invokestatic 106, 3) := by decide +kernel
theorem dX5_fault_4 : decode cX5_fault 4 = .ok (.ifCond .ne 5, 3) := by decide +kernel
theorem dX5_fault_7 : decode cX5_fault 7 = .ok (.iconst (-1), 1) := by decide +kernel
theorem dX5_fault_8 : decode cX5_fault 8 = .ok (.ireturn, 1) := by decide +kernel
theorem dX5_fault_9 : decode cX5_fault 9 = .ok (.aload_n 0, 1) := by decide +kernel
theorem dX5_fault_10 : decode cX5_fault 10 = .ok (.getfield 31, 3) := by decide +kernel
theorem dX5_fault_13 : decode cX5_fault 13 = .ok (.iload_n 1, 1) := by decide +kernel
theorem dX5_fault_14 : decode cX5_fault 14 = .ok (.iaload, 1) := by decide +kernel
theorem dX5_fault_15 : decode cX5_fault 15 = .ok (.ifCond .ge 11, 3) := by decide +kernel
theorem dX5_fault_18 : decode cX5_fault 18 = .ok (.aload_n 0, 1) := by decide +kernel
theorem dX5_fault_19 : decode cX5_fault 19 = .ok (.iconst 1, 1) := by decide +kernel
theorem dX5_fault_20 : decode cX5_fault 20 = .ok (.invokevirtual 87, 3) := by decide +kernel
theorem dX5_fault_23 : decode cX5_fault 23 = .ok (.goto 8, 3) := by decide +kernel
theorem dX5_fault_26 : decode cX5_fault 26 = .ok (.aload_n 0, 1) := by decide +kernel
theorem dX5_fault_27 : decode cX5_fault 27 = .ok (.iload_n 1, 1) := by decide +kernel
theorem dX5_fault_28 : decode cX5_fault 28 = .ok (.invokevirtual 157, 3) := by decide +kernel
theorem dX5_fault_31 : decode cX5_fault 31 = .ok (.ireturn, 1) := by decide +kernel
theorem dX5_house_0 : decode cX5_house 0 = .ok (.iload_n 1, 1) := by decide +kernel
theorem dX5_house_1 : decode cX5_house 1 = .ok (.invokestatic 106, 3) := by decide +kernel
theorem dX5_house_4 : decode cX5_house 4 = .ok (.ifCond .ne 5, 3) := by decide +kernel
theorem dX5_house_7 : decode cX5_house 7 = .ok (.iconst (-1), 1) := by decide +kernel
theorem dX5_house_8 : decode cX5_house 8 = .ok (.ireturn, 1) := by decide +kernel
theorem dX5_house_9 : decode cX5_house 9 = .ok (.aload_n 0, 1) := by decide +kernel
theorem dX5_house_10 : decode cX5_house 10 = .ok (.getfield 31, 3) := by decide +kernel
theorem dX5_house_13 : decode cX5_house 13 = .ok (.iload_n 1, 1) := by decide +kernel
theorem dX5_house_14 : decode cX5_house 14 = .ok (.iaload, 1) := by decide +kernel
theorem dX5_house_15 : decode cX5_house 15 = .ok (.ifCond .ge 9, 3) := by decide +kernel
theorem dX5_house_18 : decode cX5_house 18 = .ok (.aload_n 0, 1) := by decide +kernel
theorem dX5_house_19 : decode cX5_house 19 = .ok (.iconst 1, 1) := by decide +kernel
theorem dX5_house_20 : decode cX5_house 20 = .ok (.invokevirtual 87, 3) := by decide +kernel
theorem dX5_house_23 : decode cX5_house 23 = .ok (.ireturn, 1) := by decide +kernel
theorem dX5_house_24 : decode cX5_house 24 = .ok (.aload_n 0, 1) := by decide +kernel
theorem dX5_house_25 : decode cX5_house 25 = .ok (.iload_n 1, 1) := by decide +kernel
theorem dX5_house_26 : decode cX5_house 26 = .ok (.invokevirtual 157, 3) := by decide +kernel
theorem dX5_house_29 : decode cX5_house 29 = .ok (.bipush (-9), 2) := by decide +kernel
theorem dX5_house_31 : decode cX5_house 31 = .ok (.if_icmp .eq 6, 3) := by decide +kernel
theorem dX5_house_34 : decode cX5_house 34 = .ok (.bipush (-4), 2) := by decide +kernel
theorem dX5_house_36 : decode cX5_house 36 = .ok (.ireturn, 1) := by decide +kernel
theorem dX5_house_37 : decode cX5_house 37 = .ok (.aload_n 0, 1) := by decide +kernel
theorem dX5_house_38 : decode cX5_house 38 = .ok (.aload_n 0, 1) := by decide +kernel
theorem dX5_house_39 : decode cX5_house 39 = .ok (.getfield 135, 3) := by decide +kernel
theorem dX5_house_42 : decode cX5_house 42 = .ok (.putfield 160, 3) := by decide +kernel
theorem dX5_house_45 : decode cX5_house 45 = .ok (.aload_n 0, 1) := by decide +kernel
theorem dX5_house_46 : decode cX5_house 46 = .ok (.aload_n 0, 1) := by decide +kernel
theorem dX5_house_47 : decode cX5_house 47 = .ok (.getfield 141, 3) := by decide +kernel
theorem dX5_house_50 : decode cX5_house 50 = .ok (.putfield 163, 3) := by decide +kernel
theorem dX5_house_53 : decode cX5_house 53 = .ok (.iconst 0, 1) := by decide +kernel
theorem dX5_house_54 : decode cX5_house 54 = .ok (.istore_n 2, 1) := by decide +kernel
theorem dX5_house_55 : decode cX5_house 55 = .ok (.iload_n 2, 1) := by decide +kernel
theorem dX5_house_56 : decode cX5_house 56 = .ok (.aload_n 0, 1) := by decide +kernel
theorem dX5_house_57 : decode cX5_house 57 = .ok (.getfield 160, 3) := by decide +kernel
theorem dX5_house_60 : decode cX5_house 60 = .ok (.if_icmp .ge 21, 3) := by decide +kernel
theorem dX5_house_63 : decode cX5_house 63 = .ok (.aload_n 0, 1) := by decide +kernel
theorem dX5_house_64 : decode cX5_house 64 = .ok (.getfield 13, 3) := by decide +kernel
theorem dX5_house_67 : decode cX5_house 67 = .ok (.iload_n 2, 1) := by decide +kernel
theorem dX5_house_68 : decode cX5_house 68 = .ok (.aload_n 0, 1) := by decide +kernel
theorem dX5_house_69 : decode cX5_house 69 = .ok (.getfield 44, 3) := by decide +kernel
theorem dX5_house_72 : decode cX5_house 72 = .ok (.iload_n 2, 1) := by decide +kernel
theorem dX5_house_73 : decode cX5_house 73 = .ok (.iaload, 1) := by decide +kernel
theorem dX5_house_74 : decode cX5_house 74 = .ok (.iastore, 1) := by decide +kernel
theorem dX5_house_75 : decode cX5_house 75 = .ok (.iinc 2 1, 3) := by decide +kernel
theorem dX5_house_78 : decode cX5_house 78 = .ok (.goto (-23), 3) := by decide +kernel
theorem dX5_house_81 : decode cX5_house 81 = .ok (.iconst 0, 1) := by decide +kernel
theorem dX5_house_82 : decode cX5_house 82 = .ok (.istore_n 2, 1) := by decide +kernel
theorem dX5_house_83 : decode cX5_house 83 = .ok (.iload_n 2, 1) := by decide +kernel
theorem dX5_house_84 : decode cX5_house 84 = .ok (.sipush 493, 3) := by decide +kernel
theorem dX5_house_87 : decode cX5_house 87 = .ok (.if_icmp .ge 16, 3) := by decide +kernel
theorem dX5_house_90 : decode cX5_house 90 = .ok (.aload_n 0, 1) := by decide +kernel
theorem dX5_house_91 : decode cX5_house 91 = .ok (.getfield 7, 3) := by decide +kernel
theorem dX5_house_94 : decode cX5_house 94 = .ok (.iload_n 2, 1) := by decide +kernel
theorem dX5_house_95 : decode cX5_house 95 = .ok (.iconst 0, 1) := by decide +kernel
theorem dX5_house_96 : decode cX5_house 96 = .ok (.iastore, 1) := by decide +kernel
theorem dX5_house_97 : decode cX5_house 97 = .ok (.iinc 2 1, 3) := by decide +kernel
theorem dX5_house_100 : decode cX5_house 100 = .ok (.goto (-17), 3) := by decide +kernel
theorem dX5_house_103 : decode cX5_house 103 = .ok (.aload_n 0, 1) := by decide +kernel
theorem dX5_house_104 : decode cX5_house 104 = .ok (.getfield 7, 3) := by decide +kernel
theorem dX5_house_107 : decode cX5_house 107 = .ok (.iconst 2, 1) := by decide +kernel
theorem dX5_house_108 : decode cX5_house 108 = .ok (.aload_n 0, 1) := by decide +kernel
theorem dX5_house_109 : decode cX5_house 109 = .ok (.getfield 132, 3) := by decide +kernel
theorem dX5_house_112 : decode cX5_house 112 = .ok (.iastore, 1) := by decide +kernel
theorem dX5_house_113 : decode cX5_house 113 = .ok (.iconst 0, 1) := by decide +kernel
theorem dX5_house_114 : decode cX5_house 114 = .ok (.istore_n 2, 1) := by decide +kernel
theorem dX5_house_115 : decode cX5_house 115 = .ok (.iload_n 2, 1) := by decide +kernel
theorem dX5_house_116 : decode cX5_house 116 = .ok (.aload_n 0, 1) := by decide +kernel
theorem dX5_house_117 : decode cX5_house 117 = .ok (.getfield 163, 3) := by decide +kernel
theorem dX5_house_120 : decode cX5_house 120 = .ok (.if_icmp .ge 74, 3) := by decide +kernel
theorem dX5_house_123 : decode cX5_house 123 = .ok (.aload_n 0, 1) := by decide +kernel
theorem dX5_house_124 : decode cX5_house 124 = .ok (.getfield 16, 3) := by decide +kernel
theorem dX5_house_127 : decode cX5_house 127 = .ok (.iload_n 2, 1) := by decide +kernel
theorem dX5_house_128 : decode cX5_house 128 = .ok (.aload_n 0, 1) := by decide +kernel
theorem dX5_house_129 : decode cX5_house 129 = .ok (.getfield 47, 3) := by decide +kernel
theorem dX5_house_132 : decode cX5_house 132 = .ok (.iconst 4, 1) := by decide +kernel
theorem dX5_house_133 : decode cX5_house 133 = .ok (.iload_n 2, 1) := by decide +kernel
theorem dX5_house_134 : decode cX5_house 134 = .ok (.imul, 1) := by decide +kernel
theorem dX5_house_135 : decode cX5_house 135 = .ok (.iaload, 1) := by decide +kernel
theorem dX5_house_136 : decode cX5_house 136 = .ok (.iastore, 1) := by decide +kernel
theorem dX5_house_137 : decode cX5_house 137 = .ok (.aload_n 0, 1) := by decide +kernel
theorem dX5_house_138 : decode cX5_house 138 = .ok (.getfield 7, 3) := by decide +kernel
theorem dX5_house_141 : decode cX5_house 141 = .ok (.bipush 7, 2) := by decide +kernel
theorem dX5_house_143 : decode cX5_house 143 = .ok (.iload_n 2, 1) := by decide +kernel
theorem dX5_house_144 : decode cX5_house 144 = .ok (.iadd, 1) := by decide +kernel
theorem dX5_house_145 : decode cX5_house 145 = .ok (.aload_n 0, 1) := by decide +kernel
theorem dX5_house_146 : decode cX5_house 146 = .ok (.getfield 47, 3) := by decide +kernel
theorem dX5_house_149 : decode cX5_house 149 = .ok (.iconst 4, 1) := by decide +kernel
theorem dX5_house_150 : decode cX5_house 150 = .ok (.iload_n 2, 1) := by decide +kernel
theorem dX5_house_151 : decode cX5_house 151 = .ok (.imul, 1) := by decide +kernel
theorem dX5_house_152 : decode cX5_house 152 = .ok (.iconst 1, 1) := by decide +kernel
theorem dX5_house_153 : decode cX5_house 153 = .ok (.iadd, 1) := by decide +kernel
theorem dX5_house_154 : decode cX5_house 154 = .ok (.iaload, 1) := by decide +kernel
theorem dX5_house_155 : decode cX5_house 155 = .ok (.iastore, 1) := by decide +kernel
theorem dX5_house_156 : decode cX5_house 156 = .ok (.aload_n 0, 1) := by decide +kernel
theorem dX5_house_157 : decode cX5_house 157 = .ok (.getfield 19, 3) := by decide +kernel
theorem dX5_house_160 : decode cX5_house 160 = .ok (.iload_n 2, 1) := by decide +kernel
theorem dX5_house_161 : decode cX5_house 161 = .ok (.aload_n 0, 1) := by decide +kernel
theorem dX5_house_162 : decode cX5_house 162 = .ok (.getfield 47, 3) := by decide +kernel
theorem dX5_house_165 : decode cX5_house 165 = .ok (.iconst 4, 1) := by decide +kernel
theorem dX5_house_166 : decode cX5_house 166 = .ok (.iload_n 2, 1) := by decide +kernel
theorem dX5_house_167 : decode cX5_house 167 = .ok (.imul, 1) := by decide +kernel
theorem dX5_house_168 : decode cX5_house 168 = .ok (.iconst 2, 1) := by decide +kernel
theorem dX5_house_169 : decode cX5_house 169 = .ok (.iadd, 1) := by decide +kernel
theorem dX5_house_170 : decode cX5_house 170 = .ok (.iaload, 1) := by decide +kernel
theorem dX5_house_171 : decode cX5_house 171 = .ok (.iastore, 1) := by decide +kernel
theorem dX5_house_172 : decode cX5_house 172 = .ok (.aload_n 0, 1) := by decide +kernel
theorem dX5_house_173 : decode cX5_house 173 = .ok (.getfield 22, 3) := by decide +kernel
theorem dX5_house_176 : decode cX5_house 176 = .ok (.iload_n 2, 1) := by decide +kernel
theorem dX5_house_177 : decode cX5_house 177 = .ok (.aload_n 0, 1) := by decide +kernel
theorem dX5_house_178 : decode cX5_house 178 = .ok (.getfield 47, 3) := by decide +kernel
theorem dX5_house_181 : decode cX5_house 181 = .ok (.iconst 4, 1) := by decide +kernel
theorem dX5_house_182 : decode cX5_house 182 = .ok (.iload_n 2, 1) := by decide +kernel
theorem dX5_house_183 : decode cX5_house 183 = .ok (.imul, 1) := by decide +kernel
theorem dX5_house_184 : decode cX5_house 184 = .ok (.iconst 3, 1) := by decide +kernel
theorem dX5_house_185 : decode cX5_house 185 = .ok (.iadd, 1) := by decide +kernel
theorem dX5_house_186 : decode cX5_house 186 = .ok (.iaload, 1) := by decide +kernel
theorem dX5_house_187 : decode cX5_house 187 = .ok (.iastore, 1) := by decide +kernel
theorem dX5_house_188 : decode cX5_house 188 = .ok (.iinc 2 1, 3) := by decide +kernel
theorem dX5_house_191 : decode cX5_house 191 = .ok (.goto (-76), 3) := by decide +kernel
theorem dX5_house_194 : decode cX5_house 194 = .ok (.iconst 1, 1) := by decide +kernel
theorem dX5_house_195 : decode cX5_house 195 = .ok (.istore_n 2, 1) := by decide +kernel
theorem dX5_house_196 : decode cX5_house 196 = .ok (.iload_n 2, 1) := by decide +kernel
theorem dX5_house_197 : decode cX5_house 197 = .ok (.iconst 4, 1) := by decide +kernel
theorem dX5_house_198 : decode cX5_house 198 = .ok (.if_icmp .ge 22, 3) := by decide +kernel
theorem dX5_house_201 : decode cX5_house 201 = .ok (.aload_n 0, 1) := by decide +kernel
theorem dX5_house_202 : decode cX5_house 202 = .ok (.getfield 7, 3) := by decide +kernel
theorem dX5_house_205 : decode cX5_house 205 = .ok (.sipush 493, 3) := by decide +kernel
theorem dX5_house_208 : decode cX5_house 208 = .ok (.iload_n 2, 1) := by decide +kernel
theorem dX5_house_209 : decode cX5_house 209 = .ok (.imul, 1) := by decide +kernel
theorem dX5_house_210 : decode cX5_house 210 = .ok (.iconst 0, 1) := by decide +kernel
theorem dX5_house_211 : decode cX5_house 211 = .ok (.iadd, 1) := by decide +kernel
theorem dX5_house_212 : decode cX5_house 212 = .ok (.iconst (-1), 1) := by decide +kernel
theorem dX5_house_213 : decode cX5_house 213 = .ok (.iastore, 1) := by decide +kernel
theorem dX5_house_214 : decode cX5_house 214 = .ok (.iinc 2 1, 3) := by decide +kernel
theorem dX5_house_217 : decode cX5_house 217 = .ok (.goto (-21), 3) := by decide +kernel
theorem dX5_house_220 : decode cX5_house 220 = .ok (.aload_n 0, 1) := by decide +kernel
theorem dX5_house_221 : decode cX5_house 221 = .ok (.getfield 163, 3) := by decide +kernel
theorem dX5_house_224 : decode cX5_house 224 = .ok (.ireturn, 1) := by decide +kernel
theorem dX5_isSitter_0 : decode cX5_isSitter 0 = .ok (.iload_n 1, 1) := by decide +kernel
theorem dX5_isSitter_1 : decode cX5_isSitter 1 = .ok (.i2l, 1) := by decide +kernel
theorem dX5_isSitter_2 : decode cX5_isSitter 2 = .ok (.lconst 0, 1) := by decide +kernel
theorem dX5_isSitter_3 : decode cX5_isSitter 3 = .ok (.aload_n 0, 1) := by decide +kernel
theorem dX5_isSitter_4 : decode cX5_isSitter 4 = .ok (.getfield 163, 3) := by decide +kernel
theorem dX5_isSitter_7 : decode cX5_isSitter 7 = .ok (.iconst 1, 1) := by decide +kernel
theorem dX5_isSitter_8 : decode cX5_isSitter 8 = .ok (.isub, 1) := by decide +kernel
theorem dX5_isSitter_9 : decode cX5_isSitter 9 = .ok (.i2l, 1) := by decide +kernel
theorem dX5_isSitter_10 : decode cX5_isSitter 10 = .ok (.invokestatic 77, 3) := by decide +kernel
theorem dX5_isSitter_13 : decode cX5_isSitter 13 = .ok (.ireturn, 1) := by decide +kernel
theorem dX5_isUncle_0 : decode cX5_isUncle 0 = .ok (.iload_n 0, 1) := by decide +kernel
theorem dX5_isUncle_1 : decode cX5_isUncle 1 = .ok (.iconst 3, 1) := by decide +kernel
theorem dX5_isUncle_2 : decode cX5_isUncle 2 = .ok (.if_icmp .eq 8, 3) := by decide +kernel
theorem dX5_isUncle_5 : decode cX5_isUncle 5 = .ok (.iload_n 0, 1) := by decide +kernel
theorem dX5_isUncle_6 : decode cX5_isUncle 6 = .ok (.iconst 5, 1) := by decide +kernel
theorem dX5_isUncle_7 : decode cX5_isUncle 7 = .ok (.if_icmp .ne 7, 3) := by decide +kernel
theorem dX5_isUncle_10 : decode cX5_isUncle 10 = .ok (.iconst 1, 1) := by decide +kernel
theorem dX5_isUncle_11 : decode cX5_isUncle 11 = .ok (.goto 4, 3) := by decide +kernel
theorem dX5_isUncle_14 : decode cX5_isUncle 14 = .ok (.iconst 0, 1) := by decide +kernel
theorem dX5_isUncle_15 : decode cX5_isUncle 15 = .ok (.ireturn, 1) := by decide +kernel
theorem dX5_isClerk_0 : decode cX5_isClerk 0 = .ok (.iload_n 0, 1) := by decide +kernel
theorem dX5_isClerk_1 : decode cX5_isClerk 1 = .ok (.iconst 1, 1) := by decide +kernel
theorem dX5_isClerk_2 : decode cX5_isClerk 2 = .ok (.if_icmp .eq 10, 3) := by decide +kernel
theorem dX5_isClerk_5 : decode cX5_isClerk 5 = .ok (.iload_n 0, 1) := by decide +kernel
theorem dX5_isClerk_6 : decode cX5_isClerk 6 = .ok (.invokestatic 166, 3) := by decide +kernel
theorem dX5_isClerk_9 : decode cX5_isClerk 9 = .ok (.ifCond .eq 7, 3) := by decide +kernel
theorem dX5_isClerk_12 : decode cX5_isClerk 12 = .ok (.iconst 1, 1) := by decide +kernel
theorem dX5_isClerk_13 : decode cX5_isClerk 13 = .ok (.goto 4, 3) := by decide +kernel
theorem dX5_isClerk_16 : decode cX5_isClerk 16 = .ok (.iconst 0, 1) := by decide +kernel
theorem dX5_isClerk_17 : decode cX5_isClerk 17 = .ok (.ireturn, 1) := by decide +kernel
theorem dX5_claques_0 : decode cX5_claques 0 = .ok (.iconst 0, 1) := by decide +kernel
theorem dX5_claques_1 : decode cX5_claques 1 = .ok (.istore_n 3, 1) := by decide +kernel
theorem dX5_claques_2 : decode cX5_claques 2 = .ok (.iconst 0, 1) := by decide +kernel
theorem dX5_claques_3 : decode cX5_claques 3 = .ok (.istore 4, 2) := by decide +kernel
theorem dX5_claques_5 : decode cX5_claques 5 = .ok (.iload 4, 2) := by decide +kernel
theorem dX5_claques_7 : decode cX5_claques 7 = .ok (.aload_n 0, 1) := by decide +kernel
theorem dX5_claques_8 : decode cX5_claques 8 = .ok (.getfield 163, 3) := by decide +kernel
theorem dX5_claques_11 : decode cX5_claques 11 = .ok (.if_icmp .ge 43, 3) := by decide +kernel
theorem dX5_claques_14 : decode cX5_claques 14 = .ok (.iload_n 3, 1) := by decide +kernel
theorem dX5_claques_15 : decode cX5_claques 15 = .ok (.iload 4, 2) := by decide +kernel
theorem dX5_claques_17 : decode cX5_claques 17 = .ok (.iload_n 1, 1) := by decide +kernel
theorem dX5_claques_18 : decode cX5_claques 18 = .ok (.if_icmp .eq 27, 3) := by decide +kernel
theorem dX5_claques_21 : decode cX5_claques 21 = .ok (.aload_n 0, 1) := by decide +kernel
theorem dX5_claques_22 : decode cX5_claques 22 = .ok (.getfield 16, 3) := by decide +kernel
theorem dX5_claques_25 : decode cX5_claques 25 = .ok (.iload 4, 2) := by decide +kernel
theorem dX5_claques_27 : decode cX5_claques 27 = .ok (.iaload, 1) := by decide +kernel
theorem dX5_claques_28 : decode cX5_claques 28 = .ok (.iconst 5, 1) := by decide +kernel
theorem dX5_claques_29 : decode cX5_claques 29 = .ok (.if_icmp .ne 16, 3) := by decide +kernel
theorem dX5_claques_32 : decode cX5_claques 32 = .ok (.iload_n 2, 1) := by decide +kernel
theorem dX5_claques_33 : decode cX5_claques 33 = .ok (.iload 4, 2) := by decide +kernel
theorem dX5_claques_35 : decode cX5_claques 35 = .ok (.invokestatic 147, 3) := by decide +kernel
theorem dX5_claques_38 : decode cX5_claques 38 = .ok (.ifCond .ne 7, 3) := by decide +kernel
theorem dX5_claques_41 : decode cX5_claques 41 = .ok (.iconst 1, 1) := by decide +kernel
theorem dX5_claques_42 : decode cX5_claques 42 = .ok (.goto 4, 3) := by decide +kernel
theorem dX5_claques_45 : decode cX5_claques 45 = .ok (.iconst 0, 1) := by decide +kernel
theorem dX5_claques_46 : decode cX5_claques 46 = .ok (.iadd, 1) := by decide +kernel
theorem dX5_claques_47 : decode cX5_claques 47 = .ok (.istore_n 3, 1) := by decide +kernel
theorem dX5_claques_48 : decode cX5_claques 48 = .ok (.iinc 4 1, 3) := by decide +kernel
theorem dX5_claques_51 : decode cX5_claques 51 = .ok (.goto (-46), 3) := by decide +kernel
theorem dX5_claques_54 : decode cX5_claques 54 = .ok (.iload_n 3, 1) := by decide +kernel
theorem dX5_claques_55 : decode cX5_claques 55 = .ok (.ireturn, 1) := by decide +kernel
theorem dX5_fearsBy_0 : decode cX5_fearsBy 0 = .ok (.iload_n 1, 1) := by decide +kernel
theorem dX5_fearsBy_1 : decode cX5_fearsBy 1 = .ok (.iload_n 2, 1) := by decide +kernel
theorem dX5_fearsBy_2 : decode cX5_fearsBy 2 = .ok (.isub, 1) := by decide +kernel
theorem dX5_fearsBy_3 : decode cX5_fearsBy 3 = .ok (.invokestatic 169, 3) := by decide +kernel
theorem dX5_fearsBy_6 : decode cX5_fearsBy 6 = .ok (.istore_n 3, 1) := by decide +kernel
theorem dX5_fearsBy_7 : decode cX5_fearsBy 7 = .ok (.iload_n 0, 1) := by decide +kernel
theorem dX5_fearsBy_8 : decode cX5_fearsBy 8 = .ok (.invokestatic 166, 3) := by decide +kernel
theorem dX5_fearsBy_11 : decode cX5_fearsBy 11 = .ok (.ifCond .eq 9, 3) := by decide +kernel
theorem dX5_fearsBy_14 : decode cX5_fearsBy 14 = .ok (.iload_n 3, 1) := by decide +kernel
theorem dX5_fearsBy_15 : decode cX5_fearsBy 15 = .ok (.iconst 2, 1) := by decide +kernel
theorem dX5_fearsBy_16 : decode cX5_fearsBy 16 = .ok (.idiv, 1) := by decide +kernel
theorem dX5_fearsBy_17 : decode cX5_fearsBy 17 = .ok (.goto 4, 3) := by decide +kernel
theorem dX5_fearsBy_20 : decode cX5_fearsBy 20 = .ok (.iload_n 3, 1) := by decide +kernel
theorem dX5_fearsBy_21 : decode cX5_fearsBy 21 = .ok (.ireturn, 1) := by decide +kernel
theorem dX5_saysBy_0 : decode cX5_saysBy 0 = .ok (.iload_n 1, 1) := by decide +kernel
theorem dX5_saysBy_1 : decode cX5_saysBy 1 = .ok (.iload_n 0, 1) := by decide +kernel
theorem dX5_saysBy_2 : decode cX5_saysBy 2 = .ok (.iload_n 2, 1) := by decide +kernel
theorem dX5_saysBy_3 : decode cX5_saysBy 3 = .ok (.iload_n 3, 1) := by decide +kernel
theorem dX5_saysBy_4 : decode cX5_saysBy 4 = .ok (.invokestatic 172, 3) := by decide +kernel
theorem dX5_saysBy_7 : decode cX5_saysBy 7 = .ok (.isub, 1) := by decide +kernel
theorem dX5_saysBy_8 : decode cX5_saysBy 8 = .ok (.invokestatic 169, 3) := by decide +kernel
theorem dX5_saysBy_11 : decode cX5_saysBy 11 = .ok (.istore 5, 2) := by decide +kernel
theorem dX5_saysBy_13 : decode cX5_saysBy 13 = .ok (.iload 5, 2) := by decide +kernel
theorem dX5_saysBy_15 : decode cX5_saysBy 15 = .ok (.iload_n 0, 1) := by decide +kernel
theorem dX5_saysBy_16 : decode cX5_saysBy 16 = .ok (.invokestatic 176, 3) := by decide +kernel
theorem dX5_saysBy_19 : decode cX5_saysBy 19 = .ok (.ifCond .eq 7, 3) := by decide +kernel
theorem dX5_saysBy_22 : decode cX5_saysBy 22 = .ok (.iconst 2, 1) := by decide +kernel
theorem dX5_saysBy_23 : decode cX5_saysBy 23 = .ok (.goto 4, 3) := by decide +kernel
theorem dX5_saysBy_26 : decode cX5_saysBy 26 = .ok (.iconst 0, 1) := by decide +kernel
theorem dX5_saysBy_27 : decode cX5_saysBy 27 = .ok (.iadd, 1) := by decide +kernel
theorem dX5_saysBy_28 : decode cX5_saysBy 28 = .ok (.iload_n 0, 1) := by decide +kernel
theorem dX5_saysBy_29 : decode cX5_saysBy 29 = .ok (.iconst 5, 1) := by decide +kernel
theorem dX5_saysBy_30 : decode cX5_saysBy 30 = .ok (.if_icmp .ne 8, 3) := by decide +kernel
theorem dX5_saysBy_33 : decode cX5_saysBy 33 = .ok (.iload 4, 2) := by decide +kernel
theorem dX5_saysBy_35 : decode cX5_saysBy 35 = .ok (.goto 4, 3) := by decide +kernel
theorem dX5_saysBy_38 : decode cX5_saysBy 38 = .ok (.iconst 0, 1) := by decide +kernel
theorem dX5_saysBy_39 : decode cX5_saysBy 39 = .ok (.iadd, 1) := by decide +kernel
theorem dX5_saysBy_40 : decode cX5_saysBy 40 = .ok (.ireturn, 1) := by decide +kernel
theorem dX5_saysOf_0 : decode cX5_saysOf 0 = .ok (.aload_n 0, 1) := by decide +kernel
theorem dX5_saysOf_1 : decode cX5_saysOf 1 = .ok (.getfield 16, 3) := by decide +kernel
theorem dX5_saysOf_4 : decode cX5_saysOf 4 = .ok (.iload_n 1, 1) := by decide +kernel
theorem dX5_saysOf_5 : decode cX5_saysOf 5 = .ok (.iaload, 1) := by decide +kernel
theorem dX5_saysOf_6 : decode cX5_saysOf 6 = .ok (.aload_n 0, 1) := by decide +kernel
theorem dX5_saysOf_7 : decode cX5_saysOf 7 = .ok (.getfield 19, 3) := by decide +kernel
theorem dX5_saysOf_10 : decode cX5_saysOf 10 = .ok (.iload_n 1, 1) := by decide +kernel
theorem dX5_saysOf_11 : decode cX5_saysOf 11 = .ok (.iaload, 1) := by decide +kernel
theorem dX5_saysOf_12 : decode cX5_saysOf 12 = .ok (.aload_n 0, 1) := by decide +kernel
theorem dX5_saysOf_13 : decode cX5_saysOf 13 = .ok (.getfield 22, 3) := by decide +kernel
theorem dX5_saysOf_16 : decode cX5_saysOf 16 = .ok (.iload_n 1, 1) := by decide +kernel
theorem dX5_saysOf_17 : decode cX5_saysOf 17 = .ok (.iaload, 1) := by decide +kernel
theorem dX5_saysOf_18 : decode cX5_saysOf 18 = .ok (.iload_n 2, 1) := by decide +kernel
theorem dX5_saysOf_19 : decode cX5_saysOf 19 = .ok (.aload_n 0, 1) := by decide +kernel
theorem dX5_saysOf_20 : decode cX5_saysOf 20 = .ok (.iload_n 1, 1) := by decide +kernel
theorem dX5_saysOf_21 : decode cX5_saysOf 21 = .ok (.iload_n 3, 1) := by decide +kernel
theorem dX5_saysOf_22 : decode cX5_saysOf 22 = .ok (.invokevirtual 179, 3) := by decide +kernel
theorem dX5_saysOf_25 : decode cX5_saysOf 25 = .ok (.invokestatic 182, 3) := by decide +kernel
theorem dX5_saysOf_28 : decode cX5_saysOf 28 = .ok (.ireturn, 1) := by decide +kernel
theorem dX5_canSit_0 : decode cX5_canSit 0 = .ok (.aload_n 0, 1) := by decide +kernel
theorem dX5_canSit_1 : decode cX5_canSit 1 = .ok (.getfield 7, 3) := by decide +kernel
theorem dX5_canSit_4 : decode cX5_canSit 4 = .ok (.bipush 7, 2) := by decide +kernel
theorem dX5_canSit_6 : decode cX5_canSit 6 = .ok (.iload_n 1, 1) := by decide +kernel
theorem dX5_canSit_7 : decode cX5_canSit 7 = .ok (.iadd, 1) := by decide +kernel
theorem dX5_canSit_8 : decode cX5_canSit 8 = .ok (.iaload, 1) := by decide +kernel
theorem dX5_canSit_9 : decode cX5_canSit 9 = .ok (.istore_n 2, 1) := by decide +kernel
theorem dX5_canSit_10 : decode cX5_canSit 10 = .ok (.aload_n 0, 1) := by decide +kernel
theorem dX5_canSit_11 : decode cX5_canSit 11 = .ok (.getfield 16, 3) := by decide +kernel
theorem dX5_canSit_14 : decode cX5_canSit 14 = .ok (.iload_n 1, 1) := by decide +kernel
theorem dX5_canSit_15 : decode cX5_canSit 15 = .ok (.iaload, 1) := by decide +kernel
theorem dX5_canSit_16 : decode cX5_canSit 16 = .ok (.iconst 2, 1) := by decide +kernel
theorem dX5_canSit_17 : decode cX5_canSit 17 = .ok (.if_icmp .ne 18, 3) := by decide +kernel
theorem dX5_canSit_20 : decode cX5_canSit 20 = .ok (.iload_n 2, 1) := by decide +kernel
theorem dX5_canSit_21 : decode cX5_canSit 21 = .ok (.iconst 2, 1) := by decide +kernel
theorem dX5_canSit_22 : decode cX5_canSit 22 = .ok (.irem, 1) := by decide +kernel
theorem dX5_canSit_23 : decode cX5_canSit 23 = .ok (.iconst 1, 1) := by decide +kernel
theorem dX5_canSit_24 : decode cX5_canSit 24 = .ok (.if_icmp .ne 7, 3) := by decide +kernel
theorem dX5_canSit_27 : decode cX5_canSit 27 = .ok (.iconst 1, 1) := by decide +kernel
theorem dX5_canSit_28 : decode cX5_canSit 28 = .ok (.goto 28, 3) := by decide +kernel
theorem dX5_canSit_31 : decode cX5_canSit 31 = .ok (.iconst 0, 1) := by decide +kernel
theorem dX5_canSit_32 : decode cX5_canSit 32 = .ok (.goto 24, 3) := by decide +kernel
theorem dX5_canSit_35 : decode cX5_canSit 35 = .ok (.aload_n 0, 1) := by decide +kernel
theorem dX5_canSit_36 : decode cX5_canSit 36 = .ok (.getfield 16, 3) := by decide +kernel
theorem dX5_canSit_39 : decode cX5_canSit 39 = .ok (.iload_n 1, 1) := by decide +kernel
theorem dX5_canSit_40 : decode cX5_canSit 40 = .ok (.iaload, 1) := by decide +kernel
theorem dX5_canSit_41 : decode cX5_canSit 41 = .ok (.iconst 4, 1) := by decide +kernel
theorem dX5_canSit_42 : decode cX5_canSit 42 = .ok (.if_icmp .ne 9, 3) := by decide +kernel
theorem dX5_canSit_45 : decode cX5_canSit 45 = .ok (.iload_n 2, 1) := by decide +kernel
theorem dX5_canSit_46 : decode cX5_canSit 46 = .ok (.bipush 7, 2) := by decide +kernel
theorem dX5_canSit_48 : decode cX5_canSit 48 = .ok (.if_icmp .ge 7, 3) := by decide +kernel
theorem dX5_canSit_51 : decode cX5_canSit 51 = .ok (.iconst 1, 1) := by decide +kernel
theorem dX5_canSit_52 : decode cX5_canSit 52 = .ok (.goto 4, 3) := by decide +kernel
theorem dX5_canSit_55 : decode cX5_canSit 55 = .ok (.iconst 0, 1) := by decide +kernel
theorem dX5_canSit_56 : decode cX5_canSit 56 = .ok (.ireturn, 1) := by decide +kernel
theorem dX5_mayCall_0 : decode cX5_mayCall 0 = .ok (.iload_n 2, 1) := by decide +kernel
theorem dX5_mayCall_1 : decode cX5_mayCall 1 = .ok (.iload_n 1, 1) := by decide +kernel
theorem dX5_mayCall_2 : decode cX5_mayCall 2 = .ok (.invokestatic 147, 3) := by decide +kernel
theorem dX5_mayCall_5 : decode cX5_mayCall 5 = .ok (.ifCond .ne 15, 3) := by decide +kernel
theorem dX5_mayCall_8 : decode cX5_mayCall 8 = .ok (.aload_n 0, 1) := by decide +kernel
theorem dX5_mayCall_9 : decode cX5_mayCall 9 = .ok (.iload_n 1, 1) := by decide +kernel
theorem dX5_mayCall_10 : decode cX5_mayCall 10 = .ok (.invokevirtual 186, 3) := by decide +kernel
theorem dX5_mayCall_13 : decode cX5_mayCall 13 = .ok (.ifCond .eq 7, 3) := by decide +kernel
theorem dX5_mayCall_16 : decode cX5_mayCall 16 = .ok (.iconst 1, 1) := by decide +kernel
theorem dX5_mayCall_17 : decode cX5_mayCall 17 = .ok (.goto 4, 3) := by decide +kernel
theorem dX5_mayCall_20 : decode cX5_mayCall 20 = .ok (.iconst 0, 1) := by decide +kernel
theorem dX5_mayCall_21 : decode cX5_mayCall 21 = .ok (.ireturn, 1) := by decide +kernel
theorem dX5_saysNow_0 : decode cX5_saysNow 0 = .ok (.aload_n 0, 1) := by decide +kernel
theorem dX5_saysNow_1 : decode cX5_saysNow 1 = .ok (.iload_n 1, 1) := by decide +kernel
theorem dX5_saysNow_2 : decode cX5_saysNow 2 = .ok (.aload_n 0, 1) := by decide +kernel
theorem dX5_saysNow_3 : decode cX5_saysNow 3 = .ok (.getfield 7, 3) := by decide +kernel
theorem dX5_saysNow_6 : decode cX5_saysNow 6 = .ok (.iconst 4, 1) := by decide +kernel
theorem dX5_saysNow_7 : decode cX5_saysNow 7 = .ok (.iaload, 1) := by decide +kernel
theorem dX5_saysNow_8 : decode cX5_saysNow 8 = .ok (.aload_n 0, 1) := by decide +kernel
theorem dX5_saysNow_9 : decode cX5_saysNow 9 = .ok (.getfield 7, 3) := by decide +kernel
theorem dX5_saysNow_12 : decode cX5_saysNow 12 = .ok (.bipush 6, 2) := by decide +kernel
theorem dX5_saysNow_14 : decode cX5_saysNow 14 = .ok (.iaload, 1) := by decide +kernel
theorem dX5_saysNow_15 : decode cX5_saysNow 15 = .ok (.invokevirtual 189, 3) := by decide +kernel
theorem dX5_saysNow_18 : decode cX5_saysNow 18 = .ok (.ireturn, 1) := by decide +kernel
theorem dX5_toldOf_0 : decode cX5_toldOf 0 = .ok (.iload_n 2, 1) := by decide +kernel
theorem dX5_toldOf_1 : decode cX5_toldOf 1 = .ok (.tableswitch 114 0 6 #[43, 50, 60, 67, 74, 96, 102], 43) := by decide +kernel
theorem dX5_toldOf_44 : decode cX5_toldOf 44 = .ok (.aload_n 0, 1) := by decide +kernel
theorem dX5_toldOf_45 : decode cX5_toldOf 45 = .ok (.getfield 16, 3) := by decide +kernel
theorem dX5_toldOf_48 : decode cX5_toldOf 48 = .ok (.iload_n 1, 1) := by decide +kernel
theorem dX5_toldOf_49 : decode cX5_toldOf 49 = .ok (.iaload, 1) := by decide +kernel
theorem dX5_toldOf_50 : decode cX5_toldOf 50 = .ok (.ireturn, 1) := by decide +kernel
theorem dX5_toldOf_51 : decode cX5_toldOf 51 = .ok (.aload_n 0, 1) := by decide +kernel
theorem dX5_toldOf_52 : decode cX5_toldOf 52 = .ok (.getfield 7, 3) := by decide +kernel
theorem dX5_toldOf_55 : decode cX5_toldOf 55 = .ok (.bipush 7, 2) := by decide +kernel
theorem dX5_toldOf_57 : decode cX5_toldOf 57 = .ok (.iload_n 1, 1) := by decide +kernel
theorem dX5_toldOf_58 : decode cX5_toldOf 58 = .ok (.iadd, 1) := by decide +kernel
theorem dX5_toldOf_59 : decode cX5_toldOf 59 = .ok (.iaload, 1) := by decide +kernel
theorem dX5_toldOf_60 : decode cX5_toldOf 60 = .ok (.ireturn, 1) := by decide +kernel
theorem dX5_toldOf_61 : decode cX5_toldOf 61 = .ok (.aload_n 0, 1) := by decide +kernel
theorem dX5_toldOf_62 : decode cX5_toldOf 62 = .ok (.getfield 19, 3) := by decide +kernel
theorem dX5_toldOf_65 : decode cX5_toldOf 65 = .ok (.iload_n 1, 1) := by decide +kernel
theorem dX5_toldOf_66 : decode cX5_toldOf 66 = .ok (.iaload, 1) := by decide +kernel
theorem dX5_toldOf_67 : decode cX5_toldOf 67 = .ok (.ireturn, 1) := by decide +kernel
theorem dX5_toldOf_68 : decode cX5_toldOf 68 = .ok (.aload_n 0, 1) := by decide +kernel
theorem dX5_toldOf_69 : decode cX5_toldOf 69 = .ok (.getfield 22, 3) := by decide +kernel
theorem dX5_toldOf_72 : decode cX5_toldOf 72 = .ok (.iload_n 1, 1) := by decide +kernel
theorem dX5_toldOf_73 : decode cX5_toldOf 73 = .ok (.iaload, 1) := by decide +kernel
theorem dX5_toldOf_74 : decode cX5_toldOf 74 = .ok (.ireturn, 1) := by decide +kernel
theorem dX5_toldOf_75 : decode cX5_toldOf 75 = .ok (.aload_n 0, 1) := by decide +kernel
theorem dX5_toldOf_76 : decode cX5_toldOf 76 = .ok (.getfield 16, 3) := by decide +kernel
theorem dX5_toldOf_79 : decode cX5_toldOf 79 = .ok (.iload_n 1, 1) := by decide +kernel
theorem dX5_toldOf_80 : decode cX5_toldOf 80 = .ok (.iaload, 1) := by decide +kernel
theorem dX5_toldOf_81 : decode cX5_toldOf 81 = .ok (.aload_n 0, 1) := by decide +kernel
theorem dX5_toldOf_82 : decode cX5_toldOf 82 = .ok (.getfield 22, 3) := by decide +kernel
theorem dX5_toldOf_85 : decode cX5_toldOf 85 = .ok (.iload_n 1, 1) := by decide +kernel
theorem dX5_toldOf_86 : decode cX5_toldOf 86 = .ok (.iaload, 1) := by decide +kernel
theorem dX5_toldOf_87 : decode cX5_toldOf 87 = .ok (.aload_n 0, 1) := by decide +kernel
theorem dX5_toldOf_88 : decode cX5_toldOf 88 = .ok (.getfield 7, 3) := by decide +kernel
theorem dX5_toldOf_91 : decode cX5_toldOf 91 = .ok (.iconst 4, 1) := by decide +kernel
theorem dX5_toldOf_92 : decode cX5_toldOf 92 = .ok (.iaload, 1) := by decide +kernel
theorem dX5_toldOf_93 : decode cX5_toldOf 93 = .ok (.invokestatic 172, 3) := by decide +kernel
theorem dX5_toldOf_96 : decode cX5_toldOf 96 = .ok (.ireturn, 1) := by decide +kernel
theorem dX5_toldOf_97 : decode cX5_toldOf 97 = .ok (.aload_n 0, 1) := by decide +kernel
theorem dX5_toldOf_98 : decode cX5_toldOf 98 = .ok (.iload_n 1, 1) := by decide +kernel
theorem dX5_toldOf_99 : decode cX5_toldOf 99 = .ok (.invokevirtual 192, 3) := by decide +kernel
theorem dX5_toldOf_102 : decode cX5_toldOf 102 = .ok (.ireturn, 1) := by decide +kernel
theorem dX5_toldOf_103 : decode cX5_toldOf 103 = .ok (.aload_n 0, 1) := by decide +kernel
theorem dX5_toldOf_104 : decode cX5_toldOf 104 = .ok (.getfield 7, 3) := by decide +kernel
theorem dX5_toldOf_107 : decode cX5_toldOf 107 = .ok (.bipush 6, 2) := by decide +kernel
theorem dX5_toldOf_109 : decode cX5_toldOf 109 = .ok (.iaload, 1) := by decide +kernel
theorem dX5_toldOf_110 : decode cX5_toldOf 110 = .ok (.iload_n 1, 1) := by decide +kernel
theorem dX5_toldOf_111 : decode cX5_toldOf 111 = .ok (.ishr, 1) := by decide +kernel
theorem dX5_toldOf_112 : decode cX5_toldOf 112 = .ok (.iconst 1, 1) := by decide +kernel
theorem dX5_toldOf_113 : decode cX5_toldOf 113 = .ok (.iand, 1) := by decide +kernel
theorem dX5_toldOf_114 : decode cX5_toldOf 114 = .ok (.ireturn, 1) := by decide +kernel
theorem dX5_toldOf_115 : decode cX5_toldOf 115 = .ok (.aload_n 0, 1) := by decide +kernel
theorem dX5_toldOf_116 : decode cX5_toldOf 116 = .ok (.iload_n 1, 1) := by decide +kernel
theorem dX5_toldOf_117 : decode cX5_toldOf 117 = .ok (.aload_n 0, 1) := by decide +kernel
theorem dX5_toldOf_118 : decode cX5_toldOf 118 = .ok (.getfield 7, 3) := by decide +kernel
theorem dX5_toldOf_121 : decode cX5_toldOf 121 = .ok (.bipush 6, 2) := by decide +kernel
theorem dX5_toldOf_123 : decode cX5_toldOf 123 = .ok (.iaload, 1) := by decide +kernel
theorem dX5_toldOf_124 : decode cX5_toldOf 124 = .ok (.invokevirtual 195, 3) := by decide +kernel
theorem dX5_toldOf_127 : decode cX5_toldOf 127 = .ok (.ifCond .eq 7, 3) := by decide +kernel
theorem dX5_toldOf_130 : decode cX5_toldOf 130 = .ok (.iconst 1, 1) := by decide +kernel
theorem dX5_toldOf_131 : decode cX5_toldOf 131 = .ok (.goto 4, 3) := by decide +kernel
theorem dX5_toldOf_134 : decode cX5_toldOf 134 = .ok (.iconst 0, 1) := by decide +kernel
theorem dX5_toldOf_135 : decode cX5_toldOf 135 = .ok (.ireturn, 1) := by decide +kernel
theorem dX5_sitter_0 : decode cX5_sitter 0 = .ok (.aload_n 0, 1) := by decide +kernel
theorem dX5_sitter_1 : decode cX5_sitter 1 = .ok (.iload_n 1, 1) := by decide +kernel
theorem dX5_sitter_2 : decode cX5_sitter 2 = .ok (.invokevirtual 198, 3) := by decide +kernel
theorem dX5_sitter_5 : decode cX5_sitter 5 = .ok (.ifCond .eq 28, 3) := by decide +kernel
theorem dX5_sitter_8 : decode cX5_sitter 8 = .ok (.iload_n 2, 1) := by decide +kernel
theorem dX5_sitter_9 : decode cX5_sitter 9 = .ok (.i2l, 1) := by decide +kernel
theorem dX5_sitter_10 : decode cX5_sitter 10 = .ok (.lconst 0, 1) := by decide +kernel
theorem dX5_sitter_11 : decode cX5_sitter 11 = .ok (.ldc2_w 201, 3) := by decide +kernel
theorem dX5_sitter_14 : decode cX5_sitter 14 = .ok (.invokestatic 77, 3) := by decide +kernel
theorem dX5_sitter_17 : decode cX5_sitter 17 = .ok (.ifCond .eq 16, 3) := by decide +kernel
theorem dX5_sitter_20 : decode cX5_sitter 20 = .ok (.aload_n 0, 1) := by decide +kernel
theorem dX5_sitter_21 : decode cX5_sitter 21 = .ok (.aload_n 0, 1) := by decide +kernel
theorem dX5_sitter_22 : decode cX5_sitter 22 = .ok (.iload_n 1, 1) := by decide +kernel
theorem dX5_sitter_23 : decode cX5_sitter 23 = .ok (.iload_n 2, 1) := by decide +kernel
theorem dX5_sitter_24 : decode cX5_sitter 24 = .ok (.invokevirtual 203, 3) := by decide +kernel
theorem dX5_sitter_27 : decode cX5_sitter 27 = .ok (.invokevirtual 99, 3) := by decide +kernel
theorem dX5_sitter_30 : decode cX5_sitter 30 = .ok (.goto 4, 3) := by decide +kernel
theorem dX5_sitter_33 : decode cX5_sitter 33 = .ok (.iconst (-1), 1) := by decide +kernel
theorem dX5_sitter_34 : decode cX5_sitter 34 = .ok (.ireturn, 1) := by decide +kernel
theorem dX5_isOf_0 : decode cX5_isOf 0 = .ok (.aload_n 0, 1) := by decide +kernel
theorem dX5_isOf_1 : decode cX5_isOf 1 = .ok (.getfield 16, 3) := by decide +kernel
theorem dX5_isOf_4 : decode cX5_isOf 4 = .ok (.iload_n 1, 1) := by decide +kernel
theorem dX5_isOf_5 : decode cX5_isOf 5 = .ok (.iaload, 1) := by decide +kernel
theorem dX5_isOf_6 : decode cX5_isOf 6 = .ok (.iload_n 2, 1) := by decide +kernel
theorem dX5_isOf_7 : decode cX5_isOf 7 = .ok (.if_icmp .eq 37, 3) := by decide +kernel
theorem dX5_isOf_10 : decode cX5_isOf 10 = .ok (.iload_n 2, 1) := by decide +kernel
theorem dX5_isOf_11 : decode cX5_isOf 11 = .ok (.iconst 1, 1) := by decide +kernel
theorem dX5_isOf_12 : decode cX5_isOf 12 = .ok (.if_icmp .ne 15, 3) := by decide +kernel
theorem dX5_isOf_15 : decode cX5_isOf 15 = .ok (.aload_n 0, 1) := by decide +kernel
theorem dX5_isOf_16 : decode cX5_isOf 16 = .ok (.getfield 16, 3) := by decide +kernel
theorem dX5_isOf_19 : decode cX5_isOf 19 = .ok (.iload_n 1, 1) := by decide +kernel
theorem dX5_isOf_20 : decode cX5_isOf 20 = .ok (.iaload, 1) := by decide +kernel
theorem dX5_isOf_21 : decode cX5_isOf 21 = .ok (.invokestatic 176, 3) := by decide +kernel
theorem dX5_isOf_24 : decode cX5_isOf 24 = .ok (.ifCond .ne 20, 3) := by decide +kernel
theorem dX5_isOf_27 : decode cX5_isOf 27 = .ok (.iload_n 2, 1) := by decide +kernel
theorem dX5_isOf_28 : decode cX5_isOf 28 = .ok (.iconst 3, 1) := by decide +kernel
theorem dX5_isOf_29 : decode cX5_isOf 29 = .ok (.if_icmp .ne 19, 3) := by decide +kernel
theorem dX5_isOf_32 : decode cX5_isOf 32 = .ok (.aload_n 0, 1) := by decide +kernel
theorem dX5_isOf_33 : decode cX5_isOf 33 = .ok (.getfield 16, 3) := by decide +kernel
theorem dX5_isOf_36 : decode cX5_isOf 36 = .ok (.iload_n 1, 1) := by decide +kernel
theorem dX5_isOf_37 : decode cX5_isOf 37 = .ok (.iaload, 1) := by decide +kernel
theorem dX5_isOf_38 : decode cX5_isOf 38 = .ok (.invokestatic 166, 3) := by decide +kernel
theorem dX5_isOf_41 : decode cX5_isOf 41 = .ok (.ifCond .eq 7, 3) := by decide +kernel
theorem dX5_isOf_44 : decode cX5_isOf 44 = .ok (.iconst 1, 1) := by decide +kernel
theorem dX5_isOf_45 : decode cX5_isOf 45 = .ok (.goto 4, 3) := by decide +kernel
theorem dX5_isOf_48 : decode cX5_isOf 48 = .ok (.iconst 0, 1) := by decide +kernel
theorem dX5_isOf_49 : decode cX5_isOf 49 = .ok (.ireturn, 1) := by decide +kernel
theorem dX5_easyScenes_0 : decode cX5_easyScenes 0 = .ok (.iconst 0, 1) := by decide +kernel
theorem dX5_easyScenes_1 : decode cX5_easyScenes 1 = .ok (.istore_n 2, 1) := by decide +kernel
theorem dX5_easyScenes_2 : decode cX5_easyScenes 2 = .ok (.aload_n 0, 1) := by decide +kernel
theorem dX5_easyScenes_3 : decode cX5_easyScenes 3 = .ok (.getfield 7, 3) := by decide +kernel
theorem dX5_easyScenes_6 : decode cX5_easyScenes 6 = .ok (.iconst 1, 1) := by decide +kernel
theorem dX5_easyScenes_7 : decode cX5_easyScenes 7 = .ok (.iaload, 1) := by decide +kernel
theorem dX5_easyScenes_8 : decode cX5_easyScenes 8 = .ok (.istore_n 3, 1) := by decide +kernel
theorem dX5_easyScenes_9 : decode cX5_easyScenes 9 = .ok (.iload_n 3, 1) := by decide +kernel
theorem dX5_easyScenes_10 : decode cX5_easyScenes 10 = .ok (.aload_n 0, 1) := by decide +kernel
theorem dX5_easyScenes_11 : decode cX5_easyScenes 11 = .ok (.getfield 160, 3) := by decide +kernel
theorem dX5_easyScenes_14 : decode cX5_easyScenes 14 = .ok (.if_icmp .ge 31, 3) := by decide +kernel
theorem dX5_easyScenes_17 : decode cX5_easyScenes 17 = .ok (.iload_n 2, 1) := by decide +kernel
theorem dX5_easyScenes_18 : decode cX5_easyScenes 18 = .ok (.aload_n 0, 1) := by decide +kernel
theorem dX5_easyScenes_19 : decode cX5_easyScenes 19 = .ok (.getfield 13, 3) := by decide +kernel
theorem dX5_easyScenes_22 : decode cX5_easyScenes 22 = .ok (.iload_n 3, 1) := by decide +kernel
theorem dX5_easyScenes_23 : decode cX5_easyScenes 23 = .ok (.iaload, 1) := by decide +kernel
theorem dX5_easyScenes_24 : decode cX5_easyScenes 24 = .ok (.aload_n 0, 1) := by decide +kernel
theorem dX5_easyScenes_25 : decode cX5_easyScenes 25 = .ok (.iload_n 1, 1) := by decide +kernel
theorem dX5_easyScenes_26 : decode cX5_easyScenes 26 = .ok (.invokevirtual 192, 3) := by decide +kernel
theorem dX5_easyScenes_29 : decode cX5_easyScenes 29 = .ok (.if_icmp .gt 7, 3) := by decide +kernel
theorem dX5_easyScenes_32 : decode cX5_easyScenes 32 = .ok (.iconst 1, 1) := by decide +kernel
theorem dX5_easyScenes_33 : decode cX5_easyScenes 33 = .ok (.goto 4, 3) := by decide +kernel
theorem dX5_easyScenes_36 : decode cX5_easyScenes 36 = .ok (.iconst 0, 1) := by decide +kernel
theorem dX5_easyScenes_37 : decode cX5_easyScenes 37 = .ok (.iadd, 1) := by decide +kernel
theorem dX5_easyScenes_38 : decode cX5_easyScenes 38 = .ok (.istore_n 2, 1) := by decide +kernel
theorem dX5_easyScenes_39 : decode cX5_easyScenes 39 = .ok (.iinc 3 1, 3) := by decide +kernel
theorem dX5_easyScenes_42 : decode cX5_easyScenes 42 = .ok (.goto (-33), 3) := by decide +kernel
theorem dX5_easyScenes_45 : decode cX5_easyScenes 45 = .ok (.iload_n 2, 1) := by decide +kernel
theorem dX5_easyScenes_46 : decode cX5_easyScenes 46 = .ok (.ireturn, 1) := by decide +kernel
theorem dX5_evenOthers_0 : decode cX5_evenOthers 0 = .ok (.iconst 0, 1) := by decide +kernel
theorem dX5_evenOthers_1 : decode cX5_evenOthers 1 = .ok (.istore_n 2, 1) := by decide +kernel
theorem dX5_evenOthers_2 : decode cX5_evenOthers 2 = .ok (.iconst 0, 1) := by decide +kernel
theorem dX5_evenOthers_3 : decode cX5_evenOthers 3 = .ok (.istore_n 3, 1) := by decide +kernel
theorem dX5_evenOthers_4 : decode cX5_evenOthers 4 = .ok (.iload_n 3, 1) := by decide +kernel
theorem dX5_evenOthers_5 : decode cX5_evenOthers 5 = .ok (.aload_n 0, 1) := by decide +kernel
theorem dX5_evenOthers_6 : decode cX5_evenOthers 6 = .ok (.getfield 163, 3) := by decide +kernel
theorem dX5_evenOthers_9 : decode cX5_evenOthers 9 = .ok (.if_icmp .ge 36, 3) := by decide +kernel
theorem dX5_evenOthers_12 : decode cX5_evenOthers 12 = .ok (.iload_n 2, 1) := by decide +kernel
theorem dX5_evenOthers_13 : decode cX5_evenOthers 13 = .ok (.iload_n 3, 1) := by decide +kernel
theorem dX5_evenOthers_14 : decode cX5_evenOthers 14 = .ok (.iload_n 1, 1) := by decide +kernel
theorem dX5_evenOthers_15 : decode cX5_evenOthers 15 = .ok (.if_icmp .eq 21, 3) := by decide +kernel
theorem dX5_evenOthers_18 : decode cX5_evenOthers 18 = .ok (.aload_n 0, 1) := by decide +kernel
theorem dX5_evenOthers_19 : decode cX5_evenOthers 19 = .ok (.getfield 7, 3) := by decide +kernel
theorem dX5_evenOthers_22 : decode cX5_evenOthers 22 = .ok (.bipush 7, 2) := by decide +kernel
theorem dX5_evenOthers_24 : decode cX5_evenOthers 24 = .ok (.iload_n 3, 1) := by decide +kernel
theorem dX5_evenOthers_25 : decode cX5_evenOthers 25 = .ok (.iadd, 1) := by decide +kernel
theorem dX5_evenOthers_26 : decode cX5_evenOthers 26 = .ok (.iaload, 1) := by decide +kernel
theorem dX5_evenOthers_27 : decode cX5_evenOthers 27 = .ok (.iconst 2, 1) := by decide +kernel
theorem dX5_evenOthers_28 : decode cX5_evenOthers 28 = .ok (.irem, 1) := by decide +kernel
theorem dX5_evenOthers_29 : decode cX5_evenOthers 29 = .ok (.ifCond .ne 7, 3) := by decide +kernel
theorem dX5_evenOthers_32 : decode cX5_evenOthers 32 = .ok (.iconst 1, 1) := by decide +kernel
theorem dX5_evenOthers_33 : decode cX5_evenOthers 33 = .ok (.goto 4, 3) := by decide +kernel
theorem dX5_evenOthers_36 : decode cX5_evenOthers 36 = .ok (.iconst 0, 1) := by decide +kernel
theorem dX5_evenOthers_37 : decode cX5_evenOthers 37 = .ok (.iadd, 1) := by decide +kernel
theorem dX5_evenOthers_38 : decode cX5_evenOthers 38 = .ok (.istore_n 2, 1) := by decide +kernel
theorem dX5_evenOthers_39 : decode cX5_evenOthers 39 = .ok (.iinc 3 1, 3) := by decide +kernel
theorem dX5_evenOthers_42 : decode cX5_evenOthers 42 = .ok (.goto (-38), 3) := by decide +kernel
theorem dX5_evenOthers_45 : decode cX5_evenOthers 45 = .ok (.iload_n 2, 1) := by decide +kernel
theorem dX5_evenOthers_46 : decode cX5_evenOthers 46 = .ok (.ireturn, 1) := by decide +kernel
theorem dX5_mark_0 : decode cX5_mark 0 = .ok (.aload_n 0, 1) := by decide +kernel
theorem dX5_mark_1 : decode cX5_mark 1 = .ok (.iload_n 1, 1) := by decide +kernel
theorem dX5_mark_2 : decode cX5_mark 2 = .ok (.invokevirtual 198, 3) := by decide +kernel
theorem dX5_mark_5 : decode cX5_mark 5 = .ok (.ifCond .eq 15, 3) := by decide +kernel
theorem dX5_mark_8 : decode cX5_mark 8 = .ok (.iload_n 2, 1) := by decide +kernel
theorem dX5_mark_9 : decode cX5_mark 9 = .ok (.i2l, 1) := by decide +kernel
theorem dX5_mark_10 : decode cX5_mark 10 = .ok (.lconst 1, 1) := by decide +kernel
theorem dX5_mark_11 : decode cX5_mark 11 = .ok (.ldc2_w 75, 3) := by decide +kernel
theorem dX5_mark_14 : decode cX5_mark 14 = .ok (.invokestatic 77, 3) := by decide +kernel
theorem dX5_mark_17 : decode cX5_mark 17 = .ok (.ifCond .ne 5, 3) := by decide +kernel
theorem dX5_mark_20 : decode cX5_mark 20 = .ok (.iconst (-1), 1) := by decide +kernel
theorem dX5_mark_21 : decode cX5_mark 21 = .ok (.ireturn, 1) := by decide +kernel
theorem dX5_mark_22 : decode cX5_mark 22 = .ok (.aload_n 0, 1) := by decide +kernel
theorem dX5_mark_23 : decode cX5_mark 23 = .ok (.iload_n 1, 1) := by decide +kernel
theorem dX5_mark_24 : decode cX5_mark 24 = .ok (.iload_n 2, 1) := by decide +kernel
theorem dX5_mark_25 : decode cX5_mark 25 = .ok (.invokevirtual 206, 3) := by decide +kernel
theorem dX5_mark_28 : decode cX5_mark 28 = .ok (.ifCond .ne 9, 3) := by decide +kernel
theorem dX5_mark_31 : decode cX5_mark 31 = .ok (.aload_n 0, 1) := by decide +kernel
theorem dX5_mark_32 : decode cX5_mark 32 = .ok (.iconst 3, 1) := by decide +kernel
theorem dX5_mark_33 : decode cX5_mark 33 = .ok (.invokevirtual 87, 3) := by decide +kernel
theorem dX5_mark_36 : decode cX5_mark 36 = .ok (.ireturn, 1) := by decide +kernel
theorem dX5_mark_37 : decode cX5_mark 37 = .ok (.iload_n 2, 1) := by decide +kernel
theorem dX5_mark_38 : decode cX5_mark 38 = .ok (.tableswitch 82 1 4 #[30, 36, 42, 66], 30) := by decide +kernel
theorem dX5_mark_68 : decode cX5_mark 68 = .ok (.aload_n 0, 1) := by decide +kernel
theorem dX5_mark_69 : decode cX5_mark 69 = .ok (.iload_n 1, 1) := by decide +kernel
theorem dX5_mark_70 : decode cX5_mark 70 = .ok (.invokevirtual 209, 3) := by decide +kernel
theorem dX5_mark_73 : decode cX5_mark 73 = .ok (.ireturn, 1) := by decide +kernel
theorem dX5_mark_74 : decode cX5_mark 74 = .ok (.aload_n 0, 1) := by decide +kernel
theorem dX5_mark_75 : decode cX5_mark 75 = .ok (.iload_n 1, 1) := by decide +kernel
theorem dX5_mark_76 : decode cX5_mark 76 = .ok (.invokevirtual 212, 3) := by decide +kernel
theorem dX5_mark_79 : decode cX5_mark 79 = .ok (.ireturn, 1) := by decide +kernel
theorem dX5_mark_80 : decode cX5_mark 80 = .ok (.aload_n 0, 1) := by decide +kernel
theorem dX5_mark_81 : decode cX5_mark 81 = .ok (.getfield 22, 3) := by decide +kernel
theorem dX5_mark_84 : decode cX5_mark 84 = .ok (.iload_n 1, 1) := by decide +kernel
theorem dX5_mark_85 : decode cX5_mark 85 = .ok (.iaload, 1) := by decide +kernel
theorem dX5_mark_86 : decode cX5_mark 86 = .ok (.aload_n 0, 1) := by decide +kernel
theorem dX5_mark_87 : decode cX5_mark 87 = .ok (.getfield 7, 3) := by decide +kernel
theorem dX5_mark_90 : decode cX5_mark 90 = .ok (.iconst 4, 1) := by decide +kernel
theorem dX5_mark_91 : decode cX5_mark 91 = .ok (.iaload, 1) := by decide +kernel
theorem dX5_mark_92 : decode cX5_mark 92 = .ok (.isub, 1) := by decide +kernel
theorem dX5_mark_93 : decode cX5_mark 93 = .ok (.invokestatic 169, 3) := by decide +kernel
theorem dX5_mark_96 : decode cX5_mark 96 = .ok (.aload_n 0, 1) := by decide +kernel
theorem dX5_mark_97 : decode cX5_mark 97 = .ok (.iload_n 1, 1) := by decide +kernel
theorem dX5_mark_98 : decode cX5_mark 98 = .ok (.iconst 4, 1) := by decide +kernel
theorem dX5_mark_99 : decode cX5_mark 99 = .ok (.invokevirtual 203, 3) := by decide +kernel
theorem dX5_mark_102 : decode cX5_mark 102 = .ok (.isub, 1) := by decide +kernel
theorem dX5_mark_103 : decode cX5_mark 103 = .ok (.ireturn, 1) := by decide +kernel
theorem dX5_mark_104 : decode cX5_mark 104 = .ok (.bipush 7, 2) := by decide +kernel
theorem dX5_mark_106 : decode cX5_mark 106 = .ok (.aload_n 0, 1) := by decide +kernel
theorem dX5_mark_107 : decode cX5_mark 107 = .ok (.getfield 7, 3) := by decide +kernel
theorem dX5_mark_110 : decode cX5_mark 110 = .ok (.bipush 7, 2) := by decide +kernel
theorem dX5_mark_112 : decode cX5_mark 112 = .ok (.iload_n 1, 1) := by decide +kernel
theorem dX5_mark_113 : decode cX5_mark 113 = .ok (.iadd, 1) := by decide +kernel
theorem dX5_mark_114 : decode cX5_mark 114 = .ok (.iaload, 1) := by decide +kernel
theorem dX5_mark_115 : decode cX5_mark 115 = .ok (.isub, 1) := by decide +kernel
theorem dX5_mark_116 : decode cX5_mark 116 = .ok (.invokestatic 169, 3) := by decide +kernel
theorem dX5_mark_119 : decode cX5_mark 119 = .ok (.ireturn, 1) := by decide +kernel
theorem dX5_mark_120 : decode cX5_mark 120 = .ok (.aload_n 0, 1) := by decide +kernel
theorem dX5_mark_121 : decode cX5_mark 121 = .ok (.iload_n 1, 1) := by decide +kernel
theorem dX5_mark_122 : decode cX5_mark 122 = .ok (.aload_n 0, 1) := by decide +kernel
theorem dX5_mark_123 : decode cX5_mark 123 = .ok (.getfield 7, 3) := by decide +kernel
theorem dX5_mark_126 : decode cX5_mark 126 = .ok (.bipush 6, 2) := by decide +kernel
theorem dX5_mark_128 : decode cX5_mark 128 = .ok (.iaload, 1) := by decide +kernel
theorem dX5_mark_129 : decode cX5_mark 129 = .ok (.invokevirtual 179, 3) := by decide +kernel
theorem dX5_mark_132 : decode cX5_mark 132 = .ok (.ireturn, 1) := by decide +kernel
theorem dX5_lines_0 : decode cX5_lines 0 = .ok (.iload_n 1, 1) := by decide +kernel
theorem dX5_lines_1 : decode cX5_lines 1 = .ok (.i2l, 1) := by decide +kernel
theorem dX5_lines_2 : decode cX5_lines 2 = .ok (.lconst 0, 1) := by decide +kernel
theorem dX5_lines_3 : decode cX5_lines 3 = .ok (.aload_n 0, 1) := by decide +kernel
theorem dX5_lines_4 : decode cX5_lines 4 = .ok (.getfield 160, 3) := by decide +kernel
theorem dX5_lines_7 : decode cX5_lines 7 = .ok (.iconst 1, 1) := by decide +kernel
theorem dX5_lines_8 : decode cX5_lines 8 = .ok (.isub, 1) := by decide +kernel
theorem dX5_lines_9 : decode cX5_lines 9 = .ok (.i2l, 1) := by decide +kernel
theorem dX5_lines_10 : decode cX5_lines 10 = .ok (.invokestatic 77, 3) := by decide +kernel
theorem dX5_lines_13 : decode cX5_lines 13 = .ok (.ifCond .eq 12, 3) := by decide +kernel
theorem dX5_lines_16 : decode cX5_lines 16 = .ok (.aload_n 0, 1) := by decide +kernel
theorem dX5_lines_17 : decode cX5_lines 17 = .ok (.getfield 13, 3) := by decide +kernel
theorem dX5_lines_20 : decode cX5_lines 20 = .ok (.iload_n 1, 1) := by decide +kernel
theorem dX5_lines_21 : decode cX5_lines 21 = .ok (.iaload, 1) := by decide +kernel
theorem dX5_lines_22 : decode cX5_lines 22 = .ok (.goto 4, 3) := by decide +kernel
theorem dX5_lines_25 : decode cX5_lines 25 = .ok (.iconst (-1), 1) := by decide +kernel
theorem dX5_lines_26 : decode cX5_lines 26 = .ok (.ireturn, 1) := by decide +kernel
theorem dX5_keepPast_0 : decode cX5_keepPast 0 = .ok (.iconst 0, 1) := by decide +kernel
theorem dX5_keepPast_1 : decode cX5_keepPast 1 = .ok (.istore_n 1, 1) := by decide +kernel
theorem dX5_keepPast_2 : decode cX5_keepPast 2 = .ok (.iload_n 1, 1) := by decide +kernel
theorem dX5_keepPast_3 : decode cX5_keepPast 3 = .ok (.bipush 12, 2) := by decide +kernel
theorem dX5_keepPast_5 : decode cX5_keepPast 5 = .ok (.if_icmp .ge 36, 3) := by decide +kernel
theorem dX5_keepPast_8 : decode cX5_keepPast 8 = .ok (.aload_n 0, 1) := by decide +kernel
theorem dX5_keepPast_9 : decode cX5_keepPast 9 = .ok (.getfield 7, 3) := by decide +kernel
theorem dX5_keepPast_12 : decode cX5_keepPast 12 = .ok (.bipush 13, 2) := by decide +kernel
theorem dX5_keepPast_14 : decode cX5_keepPast 14 = .ok (.bipush 12, 2) := by decide +kernel
theorem dX5_keepPast_16 : decode cX5_keepPast 16 = .ok (.aload_n 0, 1) := by decide +kernel
theorem dX5_keepPast_17 : decode cX5_keepPast 17 = .ok (.getfield 7, 3) := by decide +kernel
theorem dX5_keepPast_20 : decode cX5_keepPast 20 = .ok (.iconst 0, 1) := by decide +kernel
theorem dX5_keepPast_21 : decode cX5_keepPast 21 = .ok (.iaload, 1) := by decide +kernel
theorem dX5_keepPast_22 : decode cX5_keepPast 22 = .ok (.imul, 1) := by decide +kernel
theorem dX5_keepPast_23 : decode cX5_keepPast 23 = .ok (.iadd, 1) := by decide +kernel
theorem dX5_keepPast_24 : decode cX5_keepPast 24 = .ok (.iload_n 1, 1) := by decide +kernel
theorem dX5_keepPast_25 : decode cX5_keepPast 25 = .ok (.iadd, 1) := by decide +kernel
theorem dX5_keepPast_26 : decode cX5_keepPast 26 = .ok (.aload_n 0, 1) := by decide +kernel
theorem dX5_keepPast_27 : decode cX5_keepPast 27 = .ok (.getfield 7, 3) := by decide +kernel
theorem dX5_keepPast_30 : decode cX5_keepPast 30 = .ok (.iconst 1, 1) := by decide +kernel
theorem dX5_keepPast_31 : decode cX5_keepPast 31 = .ok (.iload_n 1, 1) := by decide +kernel
theorem dX5_keepPast_32 : decode cX5_keepPast 32 = .ok (.iadd, 1) := by decide +kernel
theorem dX5_keepPast_33 : decode cX5_keepPast 33 = .ok (.iaload, 1) := by decide +kernel
theorem dX5_keepPast_34 : decode cX5_keepPast 34 = .ok (.iastore, 1) := by decide +kernel
theorem dX5_keepPast_35 : decode cX5_keepPast 35 = .ok (.iinc 1 1, 3) := by decide +kernel
theorem dX5_keepPast_38 : decode cX5_keepPast 38 = .ok (.goto (-36), 3) := by decide +kernel
theorem dX5_keepPast_41 : decode cX5_keepPast 41 = .ok (.aload_n 0, 1) := by decide +kernel
theorem dX5_keepPast_42 : decode cX5_keepPast 42 = .ok (.getfield 7, 3) := by decide +kernel
theorem dX5_keepPast_45 : decode cX5_keepPast 45 = .ok (.iconst 0, 1) := by decide +kernel
theorem dX5_keepPast_46 : decode cX5_keepPast 46 = .ok (.dup2, 1) := by decide +kernel
theorem dX5_keepPast_47 : decode cX5_keepPast 47 = .ok (.iaload, 1) := by decide +kernel
theorem dX5_keepPast_48 : decode cX5_keepPast 48 = .ok (.iconst 1, 1) := by decide +kernel
theorem dX5_keepPast_49 : decode cX5_keepPast 49 = .ok (.iadd, 1) := by decide +kernel
theorem dX5_keepPast_50 : decode cX5_keepPast 50 = .ok (.iastore, 1) := by decide +kernel
theorem dX5_keepPast_51 : decode cX5_keepPast 51 = .ok (.return_, 1) := by decide +kernel
theorem dX5_lacking_0 : decode cX5_lacking 0 = .ok (.aload_n 0, 1) := by decide +kernel
theorem dX5_lacking_1 : decode cX5_lacking 1 = .ok (.getfield 13, 3) := by decide +kernel
theorem dX5_lacking_4 : decode cX5_lacking 4 = .ok (.iload_n 2, 1) := by decide +kernel
theorem dX5_lacking_5 : decode cX5_lacking 5 = .ok (.iaload, 1) := by decide +kernel
theorem dX5_lacking_6 : decode cX5_lacking 6 = .ok (.aload_n 0, 1) := by decide +kernel
theorem dX5_lacking_7 : decode cX5_lacking 7 = .ok (.iload_n 1, 1) := by decide +kernel
theorem dX5_lacking_8 : decode cX5_lacking 8 = .ok (.iload_n 3, 1) := by decide +kernel
theorem dX5_lacking_9 : decode cX5_lacking 9 = .ok (.iload 4, 2) := by decide +kernel
theorem dX5_lacking_11 : decode cX5_lacking 11 = .ok (.invokevirtual 189, 3) := by decide +kernel
theorem dX5_lacking_14 : decode cX5_lacking 14 = .ok (.isub, 1) := by decide +kernel
theorem dX5_lacking_15 : decode cX5_lacking 15 = .ok (.invokestatic 169, 3) := by decide +kernel
theorem dX5_lacking_18 : decode cX5_lacking 18 = .ok (.ireturn, 1) := by decide +kernel
theorem dX5_doCall_0 : decode cX5_doCall 0 = .ok (.aload_n 0, 1) := by decide +kernel
theorem dX5_doCall_1 : decode cX5_doCall 1 = .ok (.invokevirtual 215, 3) := by decide +kernel
theorem dX5_doCall_4 : decode cX5_doCall 4 = .ok (.aload_n 0, 1) := by decide +kernel
theorem dX5_doCall_5 : decode cX5_doCall 5 = .ok (.iload_n 1, 1) := by decide +kernel
theorem dX5_doCall_6 : decode cX5_doCall 6 = .ok (.aload_n 0, 1) := by decide +kernel
theorem dX5_doCall_7 : decode cX5_doCall 7 = .ok (.getfield 7, 3) := by decide +kernel
theorem dX5_doCall_10 : decode cX5_doCall 10 = .ok (.iconst 1, 1) := by decide +kernel
theorem dX5_doCall_11 : decode cX5_doCall 11 = .ok (.iaload, 1) := by decide +kernel
theorem dX5_doCall_12 : decode cX5_doCall 12 = .ok (.aload_n 0, 1) := by decide +kernel
theorem dX5_doCall_13 : decode cX5_doCall 13 = .ok (.getfield 7, 3) := by decide +kernel
theorem dX5_doCall_16 : decode cX5_doCall 16 = .ok (.iconst 4, 1) := by decide +kernel
theorem dX5_doCall_17 : decode cX5_doCall 17 = .ok (.iaload, 1) := by decide +kernel
theorem dX5_doCall_18 : decode cX5_doCall 18 = .ok (.aload_n 0, 1) := by decide +kernel
theorem dX5_doCall_19 : decode cX5_doCall 19 = .ok (.getfield 7, 3) := by decide +kernel
theorem dX5_doCall_22 : decode cX5_doCall 22 = .ok (.bipush 6, 2) := by decide +kernel
theorem dX5_doCall_24 : decode cX5_doCall 24 = .ok (.iaload, 1) := by decide +kernel
theorem dX5_doCall_25 : decode cX5_doCall 25 = .ok (.invokevirtual 218, 3) := by decide +kernel
theorem dX5_doCall_28 : decode cX5_doCall 28 = .ok (.istore_n 2, 1) := by decide +kernel
theorem dX5_doCall_29 : decode cX5_doCall 29 = .ok (.iload_n 2, 1) := by decide +kernel
theorem dX5_doCall_30 : decode cX5_doCall 30 = .ok (.aload_n 0, 1) := by decide +kernel
theorem dX5_doCall_31 : decode cX5_doCall 31 = .ok (.getfield 7, 3) := by decide +kernel
theorem dX5_doCall_34 : decode cX5_doCall 34 = .ok (.iconst 2, 1) := by decide +kernel
theorem dX5_doCall_35 : decode cX5_doCall 35 = .ok (.iaload, 1) := by decide +kernel
theorem dX5_doCall_36 : decode cX5_doCall 36 = .ok (.if_icmp .gt 7, 3) := by decide +kernel
theorem dX5_doCall_39 : decode cX5_doCall 39 = .ok (.iconst 1, 1) := by decide +kernel
theorem dX5_doCall_40 : decode cX5_doCall 40 = .ok (.goto 4, 3) := by decide +kernel
theorem dX5_doCall_43 : decode cX5_doCall 43 = .ok (.iconst 0, 1) := by decide +kernel
theorem dX5_doCall_44 : decode cX5_doCall 44 = .ok (.istore_n 3, 1) := by decide +kernel
theorem dX5_doCall_45 : decode cX5_doCall 45 = .ok (.aload_n 0, 1) := by decide +kernel
theorem dX5_doCall_46 : decode cX5_doCall 46 = .ok (.getfield 7, 3) := by decide +kernel
theorem dX5_doCall_49 : decode cX5_doCall 49 = .ok (.iconst 2, 1) := by decide +kernel
theorem dX5_doCall_50 : decode cX5_doCall 50 = .ok (.dup2, 1) := by decide +kernel
theorem dX5_doCall_51 : decode cX5_doCall 51 = .ok (.iaload, 1) := by decide +kernel
theorem dX5_doCall_52 : decode cX5_doCall 52 = .ok (.iload_n 3, 1) := by decide +kernel
theorem dX5_doCall_53 : decode cX5_doCall 53 = .ok (.ifCond .eq 7, 3) := by decide +kernel
theorem dX5_doCall_56 : decode cX5_doCall 56 = .ok (.iload_n 2, 1) := by decide +kernel
theorem dX5_doCall_57 : decode cX5_doCall 57 = .ok (.goto 4, 3) := by decide +kernel
theorem dX5_doCall_60 : decode cX5_doCall 60 = .ok (.iconst 0, 1) := by decide +kernel
theorem dX5_doCall_61 : decode cX5_doCall 61 = .ok (.isub, 1) := by decide +kernel
theorem dX5_doCall_62 : decode cX5_doCall 62 = .ok (.iastore, 1) := by decide +kernel
theorem dX5_doCall_63 : decode cX5_doCall 63 = .ok (.aload_n 0, 1) := by decide +kernel
theorem dX5_doCall_64 : decode cX5_doCall 64 = .ok (.getfield 7, 3) := by decide +kernel
theorem dX5_doCall_67 : decode cX5_doCall 67 = .ok (.iconst 3, 1) := by decide +kernel
theorem dX5_doCall_68 : decode cX5_doCall 68 = .ok (.dup2, 1) := by decide +kernel
theorem dX5_doCall_69 : decode cX5_doCall 69 = .ok (.iaload, 1) := by decide +kernel
theorem dX5_doCall_70 : decode cX5_doCall 70 = .ok (.iload_n 3, 1) := by decide +kernel
theorem dX5_doCall_71 : decode cX5_doCall 71 = .ok (.ifCond .eq 7, 3) := by decide +kernel
theorem dX5_doCall_74 : decode cX5_doCall 74 = .ok (.iload_n 2, 1) := by decide +kernel
theorem dX5_doCall_75 : decode cX5_doCall 75 = .ok (.goto 4, 3) := by decide +kernel
theorem dX5_doCall_78 : decode cX5_doCall 78 = .ok (.iconst 0, 1) := by decide +kernel
theorem dX5_doCall_79 : decode cX5_doCall 79 = .ok (.iadd, 1) := by decide +kernel
theorem dX5_doCall_80 : decode cX5_doCall 80 = .ok (.iastore, 1) := by decide +kernel
theorem dX5_doCall_81 : decode cX5_doCall 81 = .ok (.aload_n 0, 1) := by decide +kernel
theorem dX5_doCall_82 : decode cX5_doCall 82 = .ok (.getfield 7, 3) := by decide +kernel
theorem dX5_doCall_85 : decode cX5_doCall 85 = .ok (.iconst 4, 1) := by decide +kernel
theorem dX5_doCall_86 : decode cX5_doCall 86 = .ok (.dup2, 1) := by decide +kernel
theorem dX5_doCall_87 : decode cX5_doCall 87 = .ok (.iaload, 1) := by decide +kernel
theorem dX5_doCall_88 : decode cX5_doCall 88 = .ok (.iload_n 3, 1) := by decide +kernel
theorem dX5_doCall_89 : decode cX5_doCall 89 = .ok (.ifCond .ne 7, 3) := by decide +kernel
theorem dX5_doCall_92 : decode cX5_doCall 92 = .ok (.iconst (-1), 1) := by decide +kernel
theorem dX5_doCall_93 : decode cX5_doCall 93 = .ok (.goto 12, 3) := by decide +kernel
theorem dX5_doCall_96 : decode cX5_doCall 96 = .ok (.iload_n 2, 1) := by decide +kernel
theorem dX5_doCall_97 : decode cX5_doCall 97 = .ok (.ifCond .ne 7, 3) := by decide +kernel
theorem dX5_doCall_100 : decode cX5_doCall 100 = .ok (.iconst 2, 1) := by decide +kernel
theorem dX5_doCall_101 : decode cX5_doCall 101 = .ok (.goto 4, 3) := by decide +kernel
theorem dX5_doCall_104 : decode cX5_doCall 104 = .ok (.iconst 1, 1) := by decide +kernel
theorem dX5_doCall_105 : decode cX5_doCall 105 = .ok (.iadd, 1) := by decide +kernel
theorem dX5_doCall_106 : decode cX5_doCall 106 = .ok (.iastore, 1) := by decide +kernel
theorem dX5_doCall_107 : decode cX5_doCall 107 = .ok (.aload_n 0, 1) := by decide +kernel
theorem dX5_doCall_108 : decode cX5_doCall 108 = .ok (.getfield 7, 3) := by decide +kernel
theorem dX5_doCall_111 : decode cX5_doCall 111 = .ok (.iconst 5, 1) := by decide +kernel
theorem dX5_doCall_112 : decode cX5_doCall 112 = .ok (.dup2, 1) := by decide +kernel
theorem dX5_doCall_113 : decode cX5_doCall 113 = .ok (.iaload, 1) := by decide +kernel
theorem dX5_doCall_114 : decode cX5_doCall 114 = .ok (.iload_n 3, 1) := by decide +kernel
theorem dX5_doCall_115 : decode cX5_doCall 115 = .ok (.ifCond .eq 7, 3) := by decide +kernel
theorem dX5_doCall_118 : decode cX5_doCall 118 = .ok (.iconst 1, 1) := by decide +kernel
theorem dX5_doCall_119 : decode cX5_doCall 119 = .ok (.goto 4, 3) := by decide +kernel
theorem dX5_doCall_122 : decode cX5_doCall 122 = .ok (.iconst 0, 1) := by decide +kernel
theorem dX5_doCall_123 : decode cX5_doCall 123 = .ok (.iadd, 1) := by decide +kernel
theorem dX5_doCall_124 : decode cX5_doCall 124 = .ok (.iastore, 1) := by decide +kernel
theorem dX5_doCall_125 : decode cX5_doCall 125 = .ok (.aload_n 0, 1) := by decide +kernel
theorem dX5_doCall_126 : decode cX5_doCall 126 = .ok (.getfield 7, 3) := by decide +kernel
theorem dX5_doCall_129 : decode cX5_doCall 129 = .ok (.bipush 6, 2) := by decide +kernel
theorem dX5_doCall_131 : decode cX5_doCall 131 = .ok (.dup2, 1) := by decide +kernel
theorem dX5_doCall_132 : decode cX5_doCall 132 = .ok (.iaload, 1) := by decide +kernel
theorem dX5_doCall_133 : decode cX5_doCall 133 = .ok (.iconst 1, 1) := by decide +kernel
theorem dX5_doCall_134 : decode cX5_doCall 134 = .ok (.iload_n 1, 1) := by decide +kernel
theorem dX5_doCall_135 : decode cX5_doCall 135 = .ok (.ishl, 1) := by decide +kernel
theorem dX5_doCall_136 : decode cX5_doCall 136 = .ok (.ior, 1) := by decide +kernel
theorem dX5_doCall_137 : decode cX5_doCall 137 = .ok (.iastore, 1) := by decide +kernel
theorem dX5_doCall_138 : decode cX5_doCall 138 = .ok (.aload_n 0, 1) := by decide +kernel
theorem dX5_doCall_139 : decode cX5_doCall 139 = .ok (.getfield 7, 3) := by decide +kernel
theorem dX5_doCall_142 : decode cX5_doCall 142 = .ok (.iconst 1, 1) := by decide +kernel
theorem dX5_doCall_143 : decode cX5_doCall 143 = .ok (.dup2, 1) := by decide +kernel
theorem dX5_doCall_144 : decode cX5_doCall 144 = .ok (.iaload, 1) := by decide +kernel
theorem dX5_doCall_145 : decode cX5_doCall 145 = .ok (.iconst 1, 1) := by decide +kernel
theorem dX5_doCall_146 : decode cX5_doCall 146 = .ok (.iadd, 1) := by decide +kernel
theorem dX5_doCall_147 : decode cX5_doCall 147 = .ok (.iastore, 1) := by decide +kernel
theorem dX5_doCall_148 : decode cX5_doCall 148 = .ok (.iload_n 3, 1) := by decide +kernel
theorem dX5_doCall_149 : decode cX5_doCall 149 = .ok (.ifCond .eq 7, 3) := by decide +kernel
theorem dX5_doCall_152 : decode cX5_doCall 152 = .ok (.iconst 1, 1) := by decide +kernel
theorem dX5_doCall_153 : decode cX5_doCall 153 = .ok (.goto 4, 3) := by decide +kernel
theorem dX5_doCall_156 : decode cX5_doCall 156 = .ok (.iconst 0, 1) := by decide +kernel
theorem dX5_doCall_157 : decode cX5_doCall 157 = .ok (.ireturn, 1) := by decide +kernel
theorem dX5_isOver_0 : decode cX5_isOver 0 = .ok (.aload_n 0, 1) := by decide +kernel
theorem dX5_isOver_1 : decode cX5_isOver 1 = .ok (.getfield 7, 3) := by decide +kernel
theorem dX5_isOver_4 : decode cX5_isOver 4 = .ok (.iconst 1, 1) := by decide +kernel
theorem dX5_isOver_5 : decode cX5_isOver 5 = .ok (.iaload, 1) := by decide +kernel
theorem dX5_isOver_6 : decode cX5_isOver 6 = .ok (.aload_n 0, 1) := by decide +kernel
theorem dX5_isOver_7 : decode cX5_isOver 7 = .ok (.getfield 160, 3) := by decide +kernel
theorem dX5_isOver_10 : decode cX5_isOver 10 = .ok (.if_icmp .ne 7, 3) := by decide +kernel
theorem dX5_isOver_13 : decode cX5_isOver 13 = .ok (.iconst 1, 1) := by decide +kernel
theorem dX5_isOver_14 : decode cX5_isOver 14 = .ok (.goto 4, 3) := by decide +kernel
theorem dX5_isOver_17 : decode cX5_isOver 17 = .ok (.iconst 0, 1) := by decide +kernel
theorem dX5_isOver_18 : decode cX5_isOver 18 = .ok (.ireturn, 1) := by decide +kernel
theorem dX5_call_0 : decode cX5_call 0 = .ok (.aload_n 0, 1) := by decide +kernel
theorem dX5_call_1 : decode cX5_call 1 = .ok (.iload_n 1, 1) := by decide +kernel
theorem dX5_call_2 : decode cX5_call 2 = .ok (.invokevirtual 198, 3) := by decide +kernel
theorem dX5_call_5 : decode cX5_call 5 = .ok (.ifCond .ne 5, 3) := by decide +kernel
theorem dX5_call_8 : decode cX5_call 8 = .ok (.iconst (-1), 1) := by decide +kernel
theorem dX5_call_9 : decode cX5_call 9 = .ok (.ireturn, 1) := by decide +kernel
theorem dX5_call_10 : decode cX5_call 10 = .ok (.aload_n 0, 1) := by decide +kernel
theorem dX5_call_11 : decode cX5_call 11 = .ok (.invokevirtual 222, 3) := by decide +kernel
theorem dX5_call_14 : decode cX5_call 14 = .ok (.ifCond .ne 18, 3) := by decide +kernel
theorem dX5_call_17 : decode cX5_call 17 = .ok (.aload_n 0, 1) := by decide +kernel
theorem dX5_call_18 : decode cX5_call 18 = .ok (.iload_n 1, 1) := by decide +kernel
theorem dX5_call_19 : decode cX5_call 19 = .ok (.aload_n 0, 1) := by decide +kernel
theorem dX5_call_20 : decode cX5_call 20 = .ok (.getfield 7, 3) := by decide +kernel
theorem dX5_call_23 : decode cX5_call 23 = .ok (.bipush 6, 2) := by decide +kernel
theorem dX5_call_25 : decode cX5_call 25 = .ok (.iaload, 1) := by decide +kernel
theorem dX5_call_26 : decode cX5_call 26 = .ok (.invokevirtual 195, 3) := by decide +kernel
theorem dX5_call_29 : decode cX5_call 29 = .ok (.ifCond .ne 6, 3) := by decide +kernel
theorem dX5_call_32 : decode cX5_call 32 = .ok (.bipush (-4), 2) := by decide +kernel
theorem dX5_call_34 : decode cX5_call 34 = .ok (.ireturn, 1) := by decide +kernel
theorem dX5_call_35 : decode cX5_call 35 = .ok (.aload_n 0, 1) := by decide +kernel
theorem dX5_call_36 : decode cX5_call 36 = .ok (.getfield 7, 3) := by decide +kernel
theorem dX5_call_39 : decode cX5_call 39 = .ok (.iconst 0, 1) := by decide +kernel
theorem dX5_call_40 : decode cX5_call 40 = .ok (.iaload, 1) := by decide +kernel
theorem dX5_call_41 : decode cX5_call 41 = .ok (.bipush 40, 2) := by decide +kernel
theorem dX5_call_43 : decode cX5_call 43 = .ok (.if_icmp .ne 6, 3) := by decide +kernel
theorem dX5_call_46 : decode cX5_call 46 = .ok (.bipush (-2), 2) := by decide +kernel
theorem dX5_call_48 : decode cX5_call 48 = .ok (.ireturn, 1) := by decide +kernel
theorem dX5_call_49 : decode cX5_call 49 = .ok (.aload_n 0, 1) := by decide +kernel
theorem dX5_call_50 : decode cX5_call 50 = .ok (.aload_n 0, 1) := by decide +kernel
theorem dX5_call_51 : decode cX5_call 51 = .ok (.iload_n 1, 1) := by decide +kernel
theorem dX5_call_52 : decode cX5_call 52 = .ok (.aload_n 0, 1) := by decide +kernel
theorem dX5_call_53 : decode cX5_call 53 = .ok (.getfield 7, 3) := by decide +kernel
theorem dX5_call_56 : decode cX5_call 56 = .ok (.iconst 1, 1) := by decide +kernel
theorem dX5_call_57 : decode cX5_call 57 = .ok (.iaload, 1) := by decide +kernel
theorem dX5_call_58 : decode cX5_call 58 = .ok (.aload_n 0, 1) := by decide +kernel
theorem dX5_call_59 : decode cX5_call 59 = .ok (.getfield 7, 3) := by decide +kernel
theorem dX5_call_62 : decode cX5_call 62 = .ok (.iconst 4, 1) := by decide +kernel
theorem dX5_call_63 : decode cX5_call 63 = .ok (.iaload, 1) := by decide +kernel
theorem dX5_call_64 : decode cX5_call 64 = .ok (.aload_n 0, 1) := by decide +kernel
theorem dX5_call_65 : decode cX5_call 65 = .ok (.getfield 7, 3) := by decide +kernel
theorem dX5_call_68 : decode cX5_call 68 = .ok (.bipush 6, 2) := by decide +kernel
theorem dX5_call_70 : decode cX5_call 70 = .ok (.iaload, 1) := by decide +kernel
theorem dX5_call_71 : decode cX5_call 71 = .ok (.invokevirtual 218, 3) := by decide +kernel
theorem dX5_call_74 : decode cX5_call 74 = .ok (.putfield 72, 3) := by decide +kernel
theorem dX5_call_77 : decode cX5_call 77 = .ok (.aload_n 0, 1) := by decide +kernel
theorem dX5_call_78 : decode cX5_call 78 = .ok (.iload_n 1, 1) := by decide +kernel
theorem dX5_call_79 : decode cX5_call 79 = .ok (.invokevirtual 225, 3) := by decide +kernel
theorem dX5_call_82 : decode cX5_call 82 = .ok (.ireturn, 1) := by decide +kernel
theorem dX5_doCut_0 : decode cX5_doCut 0 = .ok (.aload_n 0, 1) := by decide +kernel
theorem dX5_doCut_1 : decode cX5_doCut 1 = .ok (.invokevirtual 215, 3) := by decide +kernel
theorem dX5_doCut_4 : decode cX5_doCut 4 = .ok (.aload_n 0, 1) := by decide +kernel
theorem dX5_doCut_5 : decode cX5_doCut 5 = .ok (.getfield 7, 3) := by decide +kernel
theorem dX5_doCut_8 : decode cX5_doCut 8 = .ok (.iconst 1, 1) := by decide +kernel
theorem dX5_doCut_9 : decode cX5_doCut 9 = .ok (.dup2, 1) := by decide +kernel
theorem dX5_doCut_10 : decode cX5_doCut 10 = .ok (.iaload, 1) := by decide +kernel
theorem dX5_doCut_11 : decode cX5_doCut 11 = .ok (.iconst 1, 1) := by decide +kernel
theorem dX5_doCut_12 : decode cX5_doCut 12 = .ok (.iadd, 1) := by decide +kernel
theorem dX5_doCut_13 : decode cX5_doCut 13 = .ok (.iastore, 1) := by decide +kernel
theorem dX5_doCut_14 : decode cX5_doCut 14 = .ok (.return_, 1) := by decide +kernel
theorem dX5_cut_0 : decode cX5_cut 0 = .ok (.aload_n 0, 1) := by decide +kernel
theorem dX5_cut_1 : decode cX5_cut 1 = .ok (.invokevirtual 222, 3) := by decide +kernel
theorem dX5_cut_4 : decode cX5_cut 4 = .ok (.ifCond .eq 6, 3) := by decide +kernel
theorem dX5_cut_7 : decode cX5_cut 7 = .ok (.bipush (-4), 2) := by decide +kernel
theorem dX5_cut_9 : decode cX5_cut 9 = .ok (.ireturn, 1) := by decide +kernel
theorem dX5_cut_10 : decode cX5_cut 10 = .ok (.aload_n 0, 1) := by decide +kernel
theorem dX5_cut_11 : decode cX5_cut 11 = .ok (.getfield 7, 3) := by decide +kernel
theorem dX5_cut_14 : decode cX5_cut 14 = .ok (.iconst 0, 1) := by decide +kernel
theorem dX5_cut_15 : decode cX5_cut 15 = .ok (.iaload, 1) := by decide +kernel
theorem dX5_cut_16 : decode cX5_cut 16 = .ok (.bipush 40, 2) := by decide +kernel
theorem dX5_cut_18 : decode cX5_cut 18 = .ok (.if_icmp .ne 6, 3) := by decide +kernel
theorem dX5_cut_21 : decode cX5_cut 21 = .ok (.bipush (-2), 2) := by decide +kernel
theorem dX5_cut_23 : decode cX5_cut 23 = .ok (.ireturn, 1) := by decide +kernel
theorem dX5_cut_24 : decode cX5_cut 24 = .ok (.aload_n 0, 1) := by decide +kernel
theorem dX5_cut_25 : decode cX5_cut 25 = .ok (.invokevirtual 228, 3) := by decide +kernel
theorem dX5_cut_28 : decode cX5_cut 28 = .ok (.aload_n 0, 1) := by decide +kernel
theorem dX5_cut_29 : decode cX5_cut 29 = .ok (.getfield 7, 3) := by decide +kernel
theorem dX5_cut_32 : decode cX5_cut 32 = .ok (.iconst 1, 1) := by decide +kernel
theorem dX5_cut_33 : decode cX5_cut 33 = .ok (.iaload, 1) := by decide +kernel
theorem dX5_cut_34 : decode cX5_cut 34 = .ok (.ireturn, 1) := by decide +kernel
theorem dX5_swapSeats_0 : decode cX5_swapSeats 0 = .ok (.aload_n 0, 1) := by decide +kernel
theorem dX5_swapSeats_1 : decode cX5_swapSeats 1 = .ok (.getfield 7, 3) := by decide +kernel
theorem dX5_swapSeats_4 : decode cX5_swapSeats 4 = .ok (.bipush 7, 2) := by decide +kernel
theorem dX5_swapSeats_6 : decode cX5_swapSeats 6 = .ok (.iload_n 1, 1) := by decide +kernel
theorem dX5_swapSeats_7 : decode cX5_swapSeats 7 = .ok (.iadd, 1) := by decide +kernel
theorem dX5_swapSeats_8 : decode cX5_swapSeats 8 = .ok (.iaload, 1) := by decide +kernel
theorem dX5_swapSeats_9 : decode cX5_swapSeats 9 = .ok (.istore_n 3, 1) := by decide +kernel
theorem dX5_swapSeats_10 : decode cX5_swapSeats 10 = .ok (.aload_n 0, 1) := by decide +kernel
theorem dX5_swapSeats_11 : decode cX5_swapSeats 11 = .ok (.getfield 7, 3) := by decide +kernel
theorem dX5_swapSeats_14 : decode cX5_swapSeats 14 = .ok (.bipush 7, 2) := by decide +kernel
theorem dX5_swapSeats_16 : decode cX5_swapSeats 16 = .ok (.iload_n 1, 1) := by decide +kernel
theorem dX5_swapSeats_17 : decode cX5_swapSeats 17 = .ok (.iadd, 1) := by decide +kernel
theorem dX5_swapSeats_18 : decode cX5_swapSeats 18 = .ok (.aload_n 0, 1) := by decide +kernel
theorem dX5_swapSeats_19 : decode cX5_swapSeats 19 = .ok (.getfield 7, 3) := by decide +kernel
theorem dX5_swapSeats_22 : decode cX5_swapSeats 22 = .ok (.bipush 7, 2) := by decide +kernel
theorem dX5_swapSeats_24 : decode cX5_swapSeats 24 = .ok (.iload_n 2, 1) := by decide +kernel
theorem dX5_swapSeats_25 : decode cX5_swapSeats 25 = .ok (.iadd, 1) := by decide +kernel
theorem dX5_swapSeats_26 : decode cX5_swapSeats 26 = .ok (.iaload, 1) := by decide +kernel
theorem dX5_swapSeats_27 : decode cX5_swapSeats 27 = .ok (.iastore, 1) := by decide +kernel
theorem dX5_swapSeats_28 : decode cX5_swapSeats 28 = .ok (.aload_n 0, 1) := by decide +kernel
theorem dX5_swapSeats_29 : decode cX5_swapSeats 29 = .ok (.getfield 7, 3) := by decide +kernel
theorem dX5_swapSeats_32 : decode cX5_swapSeats 32 = .ok (.bipush 7, 2) := by decide +kernel
theorem dX5_swapSeats_34 : decode cX5_swapSeats 34 = .ok (.iload_n 2, 1) := by decide +kernel
theorem dX5_swapSeats_35 : decode cX5_swapSeats 35 = .ok (.iadd, 1) := by decide +kernel
theorem dX5_swapSeats_36 : decode cX5_swapSeats 36 = .ok (.iload_n 3, 1) := by decide +kernel
theorem dX5_swapSeats_37 : decode cX5_swapSeats 37 = .ok (.iastore, 1) := by decide +kernel
theorem dX5_swapSeats_38 : decode cX5_swapSeats 38 = .ok (.return_, 1) := by decide +kernel
theorem dX5_canBits_0 : decode cX5_canBits 0 = .ok (.iconst 0, 1) := by decide +kernel
theorem dX5_canBits_1 : decode cX5_canBits 1 = .ok (.istore_n 2, 1) := by decide +kernel
theorem dX5_canBits_2 : decode cX5_canBits 2 = .ok (.iconst 0, 1) := by decide +kernel
theorem dX5_canBits_3 : decode cX5_canBits 3 = .ok (.istore_n 3, 1) := by decide +kernel
theorem dX5_canBits_4 : decode cX5_canBits 4 = .ok (.iload_n 3, 1) := by decide +kernel
theorem dX5_canBits_5 : decode cX5_canBits 5 = .ok (.aload_n 0, 1) := by decide +kernel
theorem dX5_canBits_6 : decode cX5_canBits 6 = .ok (.getfield 163, 3) := by decide +kernel
theorem dX5_canBits_9 : decode cX5_canBits 9 = .ok (.if_icmp .ge 28, 3) := by decide +kernel
theorem dX5_canBits_12 : decode cX5_canBits 12 = .ok (.iload_n 2, 1) := by decide +kernel
theorem dX5_canBits_13 : decode cX5_canBits 13 = .ok (.aload_n 0, 1) := by decide +kernel
theorem dX5_canBits_14 : decode cX5_canBits 14 = .ok (.iload_n 3, 1) := by decide +kernel
theorem dX5_canBits_15 : decode cX5_canBits 15 = .ok (.iload_n 1, 1) := by decide +kernel
theorem dX5_canBits_16 : decode cX5_canBits 16 = .ok (.invokevirtual 195, 3) := by decide +kernel
theorem dX5_canBits_19 : decode cX5_canBits 19 = .ok (.ifCond .eq 9, 3) := by decide +kernel
theorem dX5_canBits_22 : decode cX5_canBits 22 = .ok (.iconst 1, 1) := by decide +kernel
theorem dX5_canBits_23 : decode cX5_canBits 23 = .ok (.iload_n 3, 1) := by decide +kernel
theorem dX5_canBits_24 : decode cX5_canBits 24 = .ok (.ishl, 1) := by decide +kernel
theorem dX5_canBits_25 : decode cX5_canBits 25 = .ok (.goto 4, 3) := by decide +kernel
theorem dX5_canBits_28 : decode cX5_canBits 28 = .ok (.iconst 0, 1) := by decide +kernel
theorem dX5_canBits_29 : decode cX5_canBits 29 = .ok (.ior, 1) := by decide +kernel
theorem dX5_canBits_30 : decode cX5_canBits 30 = .ok (.istore_n 2, 1) := by decide +kernel
theorem dX5_canBits_31 : decode cX5_canBits 31 = .ok (.iinc 3 1, 3) := by decide +kernel
theorem dX5_canBits_34 : decode cX5_canBits 34 = .ok (.goto (-30), 3) := by decide +kernel
theorem dX5_canBits_37 : decode cX5_canBits 37 = .ok (.iload_n 2, 1) := by decide +kernel
theorem dX5_canBits_38 : decode cX5_canBits 38 = .ok (.ireturn, 1) := by decide +kernel
theorem dX5_change_0 : decode cX5_change 0 = .ok (.aload_n 0, 1) := by decide +kernel
theorem dX5_change_1 : decode cX5_change 1 = .ok (.iload_n 1, 1) := by decide +kernel
theorem dX5_change_2 : decode cX5_change 2 = .ok (.invokevirtual 198, 3) := by decide +kernel
theorem dX5_change_5 : decode cX5_change 5 = .ok (.ifCond .eq 16, 3) := by decide +kernel
theorem dX5_change_8 : decode cX5_change 8 = .ok (.aload_n 0, 1) := by decide +kernel
theorem dX5_change_9 : decode cX5_change 9 = .ok (.iload_n 2, 1) := by decide +kernel
theorem dX5_change_10 : decode cX5_change 10 = .ok (.invokevirtual 198, 3) := by decide +kernel
theorem dX5_change_13 : decode cX5_change 13 = .ok (.ifCond .eq 8, 3) := by decide +kernel
theorem dX5_change_16 : decode cX5_change 16 = .ok (.iload_n 1, 1) := by decide +kernel
theorem dX5_change_17 : decode cX5_change 17 = .ok (.iload_n 2, 1) := by decide +kernel
theorem dX5_change_18 : decode cX5_change 18 = .ok (.if_icmp .ne 5, 3) := by decide +kernel
theorem dX5_change_21 : decode cX5_change 21 = .ok (.iconst (-1), 1) := by decide +kernel
theorem dX5_change_22 : decode cX5_change 22 = .ok (.ireturn, 1) := by decide +kernel
theorem dX5_change_23 : decode cX5_change 23 = .ok (.aload_n 0, 1) := by decide +kernel
theorem dX5_change_24 : decode cX5_change 24 = .ok (.getfield 7, 3) := by decide +kernel
theorem dX5_change_27 : decode cX5_change 27 = .ok (.iconst 0, 1) := by decide +kernel
theorem dX5_change_28 : decode cX5_change 28 = .ok (.iaload, 1) := by decide +kernel
theorem dX5_change_29 : decode cX5_change 29 = .ok (.bipush 40, 2) := by decide +kernel
theorem dX5_change_31 : decode cX5_change 31 = .ok (.if_icmp .ne 6, 3) := by decide +kernel
theorem dX5_change_34 : decode cX5_change 34 = .ok (.bipush (-2), 2) := by decide +kernel
theorem dX5_change_36 : decode cX5_change 36 = .ok (.ireturn, 1) := by decide +kernel
theorem dX5_change_37 : decode cX5_change 37 = .ok (.aload_n 0, 1) := by decide +kernel
theorem dX5_change_38 : decode cX5_change 38 = .ok (.invokevirtual 215, 3) := by decide +kernel
theorem dX5_change_41 : decode cX5_change 41 = .ok (.aload_n 0, 1) := by decide +kernel
theorem dX5_change_42 : decode cX5_change 42 = .ok (.iload_n 1, 1) := by decide +kernel
theorem dX5_change_43 : decode cX5_change 43 = .ok (.iload_n 2, 1) := by decide +kernel
theorem dX5_change_44 : decode cX5_change 44 = .ok (.invokevirtual 231, 3) := by decide +kernel
theorem dX5_change_47 : decode cX5_change 47 = .ok (.aload_n 0, 1) := by decide +kernel
theorem dX5_change_48 : decode cX5_change 48 = .ok (.aload_n 0, 1) := by decide +kernel
theorem dX5_change_49 : decode cX5_change 49 = .ok (.getfield 7, 3) := by decide +kernel
theorem dX5_change_52 : decode cX5_change 52 = .ok (.bipush 6, 2) := by decide +kernel
theorem dX5_change_54 : decode cX5_change 54 = .ok (.iaload, 1) := by decide +kernel
theorem dX5_change_55 : decode cX5_change 55 = .ok (.invokevirtual 234, 3) := by decide +kernel
theorem dX5_change_58 : decode cX5_change 58 = .ok (.invokestatic 237, 3) := by decide +kernel
theorem dX5_change_61 : decode cX5_change 61 = .ok (.ireturn, 1) := by decide +kernel
theorem dX5_undo_0 : decode cX5_undo 0 = .ok (.iload_n 1, 1) := by decide +kernel
theorem dX5_undo_1 : decode cX5_undo 1 = .ok (.i2l, 1) := by decide +kernel
theorem dX5_undo_2 : decode cX5_undo 2 = .ok (.lconst 0, 1) := by decide +kernel
theorem dX5_undo_3 : decode cX5_undo 3 = .ok (.aload_n 0, 1) := by decide +kernel
theorem dX5_undo_4 : decode cX5_undo 4 = .ok (.getfield 7, 3) := by decide +kernel
theorem dX5_undo_7 : decode cX5_undo 7 = .ok (.iconst 0, 1) := by decide +kernel
theorem dX5_undo_8 : decode cX5_undo 8 = .ok (.iaload, 1) := by decide +kernel
theorem dX5_undo_9 : decode cX5_undo 9 = .ok (.i2l, 1) := by decide +kernel
theorem dX5_undo_10 : decode cX5_undo 10 = .ok (.invokestatic 77, 3) := by decide +kernel
theorem dX5_undo_13 : decode cX5_undo 13 = .ok (.ifCond .ne 5, 3) := by decide +kernel
theorem dX5_undo_16 : decode cX5_undo 16 = .ok (.iconst (-1), 1) := by decide +kernel
theorem dX5_undo_17 : decode cX5_undo 17 = .ok (.ireturn, 1) := by decide +kernel
theorem dX5_undo_18 : decode cX5_undo 18 = .ok (.aload_n 0, 1) := by decide +kernel
theorem dX5_undo_19 : decode cX5_undo 19 = .ok (.getfield 7, 3) := by decide +kernel
theorem dX5_undo_22 : decode cX5_undo 22 = .ok (.iconst 0, 1) := by decide +kernel
theorem dX5_undo_23 : decode cX5_undo 23 = .ok (.iaload, 1) := by decide +kernel
theorem dX5_undo_24 : decode cX5_undo 24 = .ok (.iload_n 1, 1) := by decide +kernel
theorem dX5_undo_25 : decode cX5_undo 25 = .ok (.isub, 1) := by decide +kernel
theorem dX5_undo_26 : decode cX5_undo 26 = .ok (.istore_n 2, 1) := by decide +kernel
theorem dX5_undo_27 : decode cX5_undo 27 = .ok (.iconst 0, 1) := by decide +kernel
theorem dX5_undo_28 : decode cX5_undo 28 = .ok (.istore_n 3, 1) := by decide +kernel
theorem dX5_undo_29 : decode cX5_undo 29 = .ok (.iload_n 3, 1) := by decide +kernel
theorem dX5_undo_30 : decode cX5_undo 30 = .ok (.bipush 12, 2) := by decide +kernel
theorem dX5_undo_32 : decode cX5_undo 32 = .ok (.if_icmp .ge 35, 3) := by decide +kernel
theorem dX5_undo_35 : decode cX5_undo 35 = .ok (.iload_n 2, 1) := by decide +kernel
theorem dX5_undo_36 : decode cX5_undo 36 = .ok (.ifCond .le 31, 3) := by decide +kernel
theorem dX5_undo_39 : decode cX5_undo 39 = .ok (.aload_n 0, 1) := by decide +kernel
theorem dX5_undo_40 : decode cX5_undo 40 = .ok (.getfield 7, 3) := by decide +kernel
theorem dX5_undo_43 : decode cX5_undo 43 = .ok (.iconst 1, 1) := by decide +kernel
theorem dX5_undo_44 : decode cX5_undo 44 = .ok (.iload_n 3, 1) := by decide +kernel
theorem dX5_undo_45 : decode cX5_undo 45 = .ok (.iadd, 1) := by decide +kernel
theorem dX5_undo_46 : decode cX5_undo 46 = .ok (.aload_n 0, 1) := by decide +kernel
theorem dX5_undo_47 : decode cX5_undo 47 = .ok (.getfield 7, 3) := by decide +kernel
theorem dX5_undo_50 : decode cX5_undo 50 = .ok (.bipush 13, 2) := by decide +kernel
theorem dX5_undo_52 : decode cX5_undo 52 = .ok (.bipush 12, 2) := by decide +kernel
theorem dX5_undo_54 : decode cX5_undo 54 = .ok (.iload_n 1, 1) := by decide +kernel
theorem dX5_undo_55 : decode cX5_undo 55 = .ok (.imul, 1) := by decide +kernel
theorem dX5_undo_56 : decode cX5_undo 56 = .ok (.iadd, 1) := by decide +kernel
theorem dX5_undo_57 : decode cX5_undo 57 = .ok (.iload_n 3, 1) := by decide +kernel
theorem dX5_undo_58 : decode cX5_undo 58 = .ok (.iadd, 1) := by decide +kernel
theorem dX5_undo_59 : decode cX5_undo 59 = .ok (.iaload, 1) := by decide +kernel
theorem dX5_undo_60 : decode cX5_undo 60 = .ok (.iastore, 1) := by decide +kernel
theorem dX5_undo_61 : decode cX5_undo 61 = .ok (.iinc 3 1, 3) := by decide +kernel
theorem dX5_undo_64 : decode cX5_undo 64 = .ok (.goto (-35), 3) := by decide +kernel
theorem dX5_undo_67 : decode cX5_undo 67 = .ok (.aload_n 0, 1) := by decide +kernel
theorem dX5_undo_68 : decode cX5_undo 68 = .ok (.getfield 7, 3) := by decide +kernel
theorem dX5_undo_71 : decode cX5_undo 71 = .ok (.iconst 0, 1) := by decide +kernel
theorem dX5_undo_72 : decode cX5_undo 72 = .ok (.iload_n 1, 1) := by decide +kernel
theorem dX5_undo_73 : decode cX5_undo 73 = .ok (.iastore, 1) := by decide +kernel
theorem dX5_undo_74 : decode cX5_undo 74 = .ok (.iload_n 2, 1) := by decide +kernel
theorem dX5_undo_75 : decode cX5_undo 75 = .ok (.ireturn, 1) := by decide +kernel
theorem dX5_copyHouse_0 : decode cX5_copyHouse 0 = .ok (.iconst 0, 1) := by decide +kernel
theorem dX5_copyHouse_1 : decode cX5_copyHouse 1 = .ok (.istore_n 3, 1) := by decide +kernel
theorem dX5_copyHouse_2 : decode cX5_copyHouse 2 = .ok (.iload_n 3, 1) := by decide +kernel
theorem dX5_copyHouse_3 : decode cX5_copyHouse 3 = .ok (.sipush 493, 3) := by decide +kernel
theorem dX5_copyHouse_6 : decode cX5_copyHouse 6 = .ok (.if_icmp .ge 25, 3) := by decide +kernel
theorem dX5_copyHouse_9 : decode cX5_copyHouse 9 = .ok (.aload_n 0, 1) := by decide +kernel
theorem dX5_copyHouse_10 : decode cX5_copyHouse 10 = .ok (.getfield 7, 3) := by decide +kernel
theorem dX5_copyHouse_13 : decode cX5_copyHouse 13 = .ok (.iload_n 2, 1) := by decide +kernel
theorem dX5_copyHouse_14 : decode cX5_copyHouse 14 = .ok (.iload_n 3, 1) := by decide +kernel
theorem dX5_copyHouse_15 : decode cX5_copyHouse 15 = .ok (.iadd, 1) := by decide +kernel
theorem dX5_copyHouse_16 : decode cX5_copyHouse 16 = .ok (.aload_n 0, 1) := by decide +kernel
theorem dX5_copyHouse_17 : decode cX5_copyHouse 17 = .ok (.getfield 7, 3) := by decide +kernel
theorem dX5_copyHouse_20 : decode cX5_copyHouse 20 = .ok (.iload_n 1, 1) := by decide +kernel
theorem dX5_copyHouse_21 : decode cX5_copyHouse 21 = .ok (.iload_n 3, 1) := by decide +kernel
theorem dX5_copyHouse_22 : decode cX5_copyHouse 22 = .ok (.iadd, 1) := by decide +kernel
theorem dX5_copyHouse_23 : decode cX5_copyHouse 23 = .ok (.iaload, 1) := by decide +kernel
theorem dX5_copyHouse_24 : decode cX5_copyHouse 24 = .ok (.iastore, 1) := by decide +kernel
theorem dX5_copyHouse_25 : decode cX5_copyHouse 25 = .ok (.iinc 3 1, 3) := by decide +kernel
theorem dX5_copyHouse_28 : decode cX5_copyHouse 28 = .ok (.goto (-26), 3) := by decide +kernel
theorem dX5_copyHouse_31 : decode cX5_copyHouse 31 = .ok (.return_, 1) := by decide +kernel
theorem dX5_keep_0 : decode cX5_keep 0 = .ok (.iload_n 1, 1) := by decide +kernel
theorem dX5_keep_1 : decode cX5_keep 1 = .ok (.i2l, 1) := by decide +kernel
theorem dX5_keep_2 : decode cX5_keep 2 = .ok (.lconst 0, 1) := by decide +kernel
theorem dX5_keep_3 : decode cX5_keep 3 = .ok (.ldc2_w 240, 3) := by decide +kernel
theorem dX5_keep_6 : decode cX5_keep 6 = .ok (.invokestatic 77, 3) := by decide +kernel
theorem dX5_keep_9 : decode cX5_keep 9 = .ok (.ifCond .ne 5, 3) := by decide +kernel
theorem dX5_keep_12 : decode cX5_keep 12 = .ok (.iconst (-1), 1) := by decide +kernel
theorem dX5_keep_13 : decode cX5_keep 13 = .ok (.ireturn, 1) := by decide +kernel
theorem dX5_keep_14 : decode cX5_keep 14 = .ok (.aload_n 0, 1) := by decide +kernel
theorem dX5_keep_15 : decode cX5_keep 15 = .ok (.getfield 163, 3) := by decide +kernel
theorem dX5_keep_18 : decode cX5_keep 18 = .ok (.ifCond .ne 6, 3) := by decide +kernel
theorem dX5_keep_21 : decode cX5_keep 21 = .ok (.bipush (-4), 2) := by decide +kernel
theorem dX5_keep_23 : decode cX5_keep 23 = .ok (.ireturn, 1) := by decide +kernel
theorem dX5_keep_24 : decode cX5_keep 24 = .ok (.aload_n 0, 1) := by decide +kernel
theorem dX5_keep_25 : decode cX5_keep 25 = .ok (.iconst 0, 1) := by decide +kernel
theorem dX5_keep_26 : decode cX5_keep 26 = .ok (.sipush 493, 3) := by decide +kernel
theorem dX5_keep_29 : decode cX5_keep 29 = .ok (.iconst 1, 1) := by decide +kernel
theorem dX5_keep_30 : decode cX5_keep 30 = .ok (.iload_n 1, 1) := by decide +kernel
theorem dX5_keep_31 : decode cX5_keep 31 = .ok (.iadd, 1) := by decide +kernel
theorem dX5_keep_32 : decode cX5_keep 32 = .ok (.imul, 1) := by decide +kernel
theorem dX5_keep_33 : decode cX5_keep 33 = .ok (.invokevirtual 242, 3) := by decide +kernel
theorem dX5_keep_36 : decode cX5_keep 36 = .ok (.aload_n 0, 1) := by decide +kernel
theorem dX5_keep_37 : decode cX5_keep 37 = .ok (.getfield 7, 3) := by decide +kernel
theorem dX5_keep_40 : decode cX5_keep 40 = .ok (.iconst 0, 1) := by decide +kernel
theorem dX5_keep_41 : decode cX5_keep 41 = .ok (.iaload, 1) := by decide +kernel
theorem dX5_keep_42 : decode cX5_keep 42 = .ok (.ireturn, 1) := by decide +kernel
theorem dX5_on_0 : decode cX5_on 0 = .ok (.iload_n 1, 1) := by decide +kernel
theorem dX5_on_1 : decode cX5_on 1 = .ok (.i2l, 1) := by decide +kernel
theorem dX5_on_2 : decode cX5_on 2 = .ok (.lconst 0, 1) := by decide +kernel
theorem dX5_on_3 : decode cX5_on 3 = .ok (.ldc2_w 240, 3) := by decide +kernel
theorem dX5_on_6 : decode cX5_on 6 = .ok (.invokestatic 77, 3) := by decide +kernel
theorem dX5_on_9 : decode cX5_on 9 = .ok (.ifCond .ne 5, 3) := by decide +kernel
theorem dX5_on_12 : decode cX5_on 12 = .ok (.iconst (-1), 1) := by decide +kernel
theorem dX5_on_13 : decode cX5_on 13 = .ok (.ireturn, 1) := by decide +kernel
theorem dX5_on_14 : decode cX5_on 14 = .ok (.aload_n 0, 1) := by decide +kernel
theorem dX5_on_15 : decode cX5_on 15 = .ok (.getfield 7, 3) := by decide +kernel
theorem dX5_on_18 : decode cX5_on 18 = .ok (.sipush 493, 3) := by decide +kernel
theorem dX5_on_21 : decode cX5_on 21 = .ok (.iconst 1, 1) := by decide +kernel
theorem dX5_on_22 : decode cX5_on 22 = .ok (.iload_n 1, 1) := by decide +kernel
theorem dX5_on_23 : decode cX5_on 23 = .ok (.iadd, 1) := by decide +kernel
theorem dX5_on_24 : decode cX5_on 24 = .ok (.imul, 1) := by decide +kernel
theorem dX5_on_25 : decode cX5_on 25 = .ok (.iconst 0, 1) := by decide +kernel
theorem dX5_on_26 : decode cX5_on 26 = .ok (.iadd, 1) := by decide +kernel
theorem dX5_on_27 : decode cX5_on 27 = .ok (.iaload, 1) := by decide +kernel
theorem dX5_on_28 : decode cX5_on 28 = .ok (.ifCond .ge 9, 3) := by decide +kernel
theorem dX5_on_31 : decode cX5_on 31 = .ok (.aload_n 0, 1) := by decide +kernel
theorem dX5_on_32 : decode cX5_on 32 = .ok (.iconst 1, 1) := by decide +kernel
theorem dX5_on_33 : decode cX5_on 33 = .ok (.invokevirtual 87, 3) := by decide +kernel
theorem dX5_on_36 : decode cX5_on 36 = .ok (.ireturn, 1) := by decide +kernel
theorem dX5_on_37 : decode cX5_on 37 = .ok (.aload_n 0, 1) := by decide +kernel
theorem dX5_on_38 : decode cX5_on 38 = .ok (.sipush 493, 3) := by decide +kernel
theorem dX5_on_41 : decode cX5_on 41 = .ok (.iconst 1, 1) := by decide +kernel
theorem dX5_on_42 : decode cX5_on 42 = .ok (.iload_n 1, 1) := by decide +kernel
theorem dX5_on_43 : decode cX5_on 43 = .ok (.iadd, 1) := by decide +kernel
theorem dX5_on_44 : decode cX5_on 44 = .ok (.imul, 1) := by decide +kernel
theorem dX5_on_45 : decode cX5_on 45 = .ok (.iconst 0, 1) := by decide +kernel
theorem dX5_on_46 : decode cX5_on 46 = .ok (.invokevirtual 242, 3) := by decide +kernel
theorem dX5_on_49 : decode cX5_on 49 = .ok (.aload_n 0, 1) := by decide +kernel
theorem dX5_on_50 : decode cX5_on 50 = .ok (.getfield 7, 3) := by decide +kernel
theorem dX5_on_53 : decode cX5_on 53 = .ok (.iconst 0, 1) := by decide +kernel
theorem dX5_on_54 : decode cX5_on 54 = .ok (.iaload, 1) := by decide +kernel
theorem dX5_on_55 : decode cX5_on 55 = .ok (.ireturn, 1) := by decide +kernel
theorem dX5_beginPlans_0 : decode cX5_beginPlans 0 = .ok (.aload_n 0, 1) := by decide +kernel
theorem dX5_beginPlans_1 : decode cX5_beginPlans 1 = .ok (.getfield 50, 3) := by decide +kernel
theorem dX5_beginPlans_4 : decode cX5_beginPlans 4 = .ok (.iconst 0, 1) := by decide +kernel
theorem dX5_beginPlans_5 : decode cX5_beginPlans 5 = .ok (.iload_n 1, 1) := by decide +kernel
theorem dX5_beginPlans_6 : decode cX5_beginPlans 6 = .ok (.iastore, 1) := by decide +kernel
theorem dX5_beginPlans_7 : decode cX5_beginPlans 7 = .ok (.aload_n 0, 1) := by decide +kernel
theorem dX5_beginPlans_8 : decode cX5_beginPlans 8 = .ok (.getfield 53, 3) := by decide +kernel
theorem dX5_beginPlans_11 : decode cX5_beginPlans 11 = .ok (.iconst 0, 1) := by decide +kernel
theorem dX5_beginPlans_12 : decode cX5_beginPlans 12 = .ok (.aload_n 0, 1) := by decide +kernel
theorem dX5_beginPlans_13 : decode cX5_beginPlans 13 = .ok (.getfield 7, 3) := by decide +kernel
theorem dX5_beginPlans_16 : decode cX5_beginPlans 16 = .ok (.iconst 4, 1) := by decide +kernel
theorem dX5_beginPlans_17 : decode cX5_beginPlans 17 = .ok (.iaload, 1) := by decide +kernel
theorem dX5_beginPlans_18 : decode cX5_beginPlans 18 = .ok (.iastore, 1) := by decide +kernel
theorem dX5_beginPlans_19 : decode cX5_beginPlans 19 = .ok (.aload_n 0, 1) := by decide +kernel
theorem dX5_beginPlans_20 : decode cX5_beginPlans 20 = .ok (.getfield 56, 3) := by decide +kernel
theorem dX5_beginPlans_23 : decode cX5_beginPlans 23 = .ok (.iconst 0, 1) := by decide +kernel
theorem dX5_beginPlans_24 : decode cX5_beginPlans 24 = .ok (.iconst 0, 1) := by decide +kernel
theorem dX5_beginPlans_25 : decode cX5_beginPlans 25 = .ok (.iastore, 1) := by decide +kernel
theorem dX5_beginPlans_26 : decode cX5_beginPlans 26 = .ok (.aload_n 0, 1) := by decide +kernel
theorem dX5_beginPlans_27 : decode cX5_beginPlans 27 = .ok (.getfield 59, 3) := by decide +kernel
theorem dX5_beginPlans_30 : decode cX5_beginPlans 30 = .ok (.iconst 0, 1) := by decide +kernel
theorem dX5_beginPlans_31 : decode cX5_beginPlans 31 = .ok (.aload_n 0, 1) := by decide +kernel
theorem dX5_beginPlans_32 : decode cX5_beginPlans 32 = .ok (.getfield 7, 3) := by decide +kernel
theorem dX5_beginPlans_35 : decode cX5_beginPlans 35 = .ok (.bipush 6, 2) := by decide +kernel
theorem dX5_beginPlans_37 : decode cX5_beginPlans 37 = .ok (.iaload, 1) := by decide +kernel
theorem dX5_beginPlans_38 : decode cX5_beginPlans 38 = .ok (.iastore, 1) := by decide +kernel
theorem dX5_beginPlans_39 : decode cX5_beginPlans 39 = .ok (.aload_n 0, 1) := by decide +kernel
theorem dX5_beginPlans_40 : decode cX5_beginPlans 40 = .ok (.aload_n 0, 1) := by decide +kernel
theorem dX5_beginPlans_41 : decode cX5_beginPlans 41 = .ok (.getfield 160, 3) := by decide +kernel
theorem dX5_beginPlans_44 : decode cX5_beginPlans 44 = .ok (.aload_n 0, 1) := by decide +kernel
theorem dX5_beginPlans_45 : decode cX5_beginPlans 45 = .ok (.getfield 7, 3) := by decide +kernel
theorem dX5_beginPlans_48 : decode cX5_beginPlans 48 = .ok (.iconst 1, 1) := by decide +kernel
theorem dX5_beginPlans_49 : decode cX5_beginPlans 49 = .ok (.iaload, 1) := by decide +kernel
theorem dX5_beginPlans_50 : decode cX5_beginPlans 50 = .ok (.isub, 1) := by decide +kernel
theorem dX5_beginPlans_51 : decode cX5_beginPlans 51 = .ok (.putfield 245, 3) := by decide +kernel
theorem dX5_beginPlans_54 : decode cX5_beginPlans 54 = .ok (.aload_n 0, 1) := by decide +kernel
theorem dX5_beginPlans_55 : decode cX5_beginPlans 55 = .ok (.getfield 62, 3) := by decide +kernel
theorem dX5_beginPlans_58 : decode cX5_beginPlans 58 = .ok (.iconst 0, 1) := by decide +kernel
theorem dX5_beginPlans_59 : decode cX5_beginPlans 59 = .ok (.iconst (-1), 1) := by decide +kernel
theorem dX5_beginPlans_60 : decode cX5_beginPlans 60 = .ok (.iastore, 1) := by decide +kernel
theorem dX5_beginPlans_61 : decode cX5_beginPlans 61 = .ok (.aload_n 0, 1) := by decide +kernel
theorem dX5_beginPlans_62 : decode cX5_beginPlans 62 = .ok (.iconst 0, 1) := by decide +kernel
theorem dX5_beginPlans_63 : decode cX5_beginPlans 63 = .ok (.putfield 248, 3) := by decide +kernel
theorem dX5_beginPlans_66 : decode cX5_beginPlans 66 = .ok (.return_, 1) := by decide +kernel
theorem dX5_choose_0 : decode cX5_choose 0 = .ok (.iload_n 2, 1) := by decide +kernel
theorem dX5_choose_1 : decode cX5_choose 1 = .ok (.iconst 1, 1) := by decide +kernel
theorem dX5_choose_2 : decode cX5_choose 2 = .ok (.isub, 1) := by decide +kernel
theorem dX5_choose_3 : decode cX5_choose 3 = .ok (.istore_n 3, 1) := by decide +kernel
theorem dX5_choose_4 : decode cX5_choose 4 = .ok (.iload_n 3, 1) := by decide +kernel
theorem dX5_choose_5 : decode cX5_choose 5 = .ok (.ifCond .ge 7, 3) := by decide +kernel
theorem dX5_choose_8 : decode cX5_choose 8 = .ok (.iconst 0, 1) := by decide +kernel
theorem dX5_choose_9 : decode cX5_choose 9 = .ok (.goto 28, 3) := by decide +kernel
theorem dX5_choose_12 : decode cX5_choose 12 = .ok (.aload_n 0, 1) := by decide +kernel
theorem dX5_choose_13 : decode cX5_choose 13 = .ok (.iload_n 3, 1) := by decide +kernel
theorem dX5_choose_14 : decode cX5_choose 14 = .ok (.aload_n 0, 1) := by decide +kernel
theorem dX5_choose_15 : decode cX5_choose 15 = .ok (.getfield 7, 3) := by decide +kernel
theorem dX5_choose_18 : decode cX5_choose 18 = .ok (.iconst 1, 1) := by decide +kernel
theorem dX5_choose_19 : decode cX5_choose 19 = .ok (.iaload, 1) := by decide +kernel
theorem dX5_choose_20 : decode cX5_choose 20 = .ok (.iload_n 1, 1) := by decide +kernel
theorem dX5_choose_21 : decode cX5_choose 21 = .ok (.iadd, 1) := by decide +kernel
theorem dX5_choose_22 : decode cX5_choose 22 = .ok (.aload_n 0, 1) := by decide +kernel
theorem dX5_choose_23 : decode cX5_choose 23 = .ok (.getfield 53, 3) := by decide +kernel
theorem dX5_choose_26 : decode cX5_choose 26 = .ok (.iload_n 1, 1) := by decide +kernel
theorem dX5_choose_27 : decode cX5_choose 27 = .ok (.iaload, 1) := by decide +kernel
theorem dX5_choose_28 : decode cX5_choose 28 = .ok (.aload_n 0, 1) := by decide +kernel
theorem dX5_choose_29 : decode cX5_choose 29 = .ok (.getfield 59, 3) := by decide +kernel
theorem dX5_choose_32 : decode cX5_choose 32 = .ok (.iload_n 1, 1) := by decide +kernel
theorem dX5_choose_33 : decode cX5_choose 33 = .ok (.iaload, 1) := by decide +kernel
theorem dX5_choose_34 : decode cX5_choose 34 = .ok (.invokevirtual 218, 3) := by decide +kernel
theorem dX5_choose_37 : decode cX5_choose 37 = .ok (.istore 4, 2) := by decide +kernel
theorem dX5_choose_39 : decode cX5_choose 39 = .ok (.iload_n 3, 1) := by decide +kernel
theorem dX5_choose_40 : decode cX5_choose 40 = .ok (.ifCond .lt 18, 3) := by decide +kernel
theorem dX5_choose_43 : decode cX5_choose 43 = .ok (.iload 4, 2) := by decide +kernel
theorem dX5_choose_45 : decode cX5_choose 45 = .ok (.aload_n 0, 1) := by decide +kernel
theorem dX5_choose_46 : decode cX5_choose 46 = .ok (.getfield 50, 3) := by decide +kernel
theorem dX5_choose_49 : decode cX5_choose 49 = .ok (.iload_n 1, 1) := by decide +kernel
theorem dX5_choose_50 : decode cX5_choose 50 = .ok (.iaload, 1) := by decide +kernel
theorem dX5_choose_51 : decode cX5_choose 51 = .ok (.if_icmp .gt 7, 3) := by decide +kernel
theorem dX5_choose_54 : decode cX5_choose 54 = .ok (.iconst 1, 1) := by decide +kernel
theorem dX5_choose_55 : decode cX5_choose 55 = .ok (.goto 4, 3) := by decide +kernel
theorem dX5_choose_58 : decode cX5_choose 58 = .ok (.iconst 0, 1) := by decide +kernel
theorem dX5_choose_59 : decode cX5_choose 59 = .ok (.istore 5, 2) := by decide +kernel
theorem dX5_choose_61 : decode cX5_choose 61 = .ok (.aload_n 0, 1) := by decide +kernel
theorem dX5_choose_62 : decode cX5_choose 62 = .ok (.getfield 62, 3) := by decide +kernel
theorem dX5_choose_65 : decode cX5_choose 65 = .ok (.iload_n 1, 1) := by decide +kernel
theorem dX5_choose_66 : decode cX5_choose 66 = .ok (.iload_n 2, 1) := by decide +kernel
theorem dX5_choose_67 : decode cX5_choose 67 = .ok (.iastore, 1) := by decide +kernel
theorem dX5_choose_68 : decode cX5_choose 68 = .ok (.aload_n 0, 1) := by decide +kernel
theorem dX5_choose_69 : decode cX5_choose 69 = .ok (.getfield 50, 3) := by decide +kernel
theorem dX5_choose_72 : decode cX5_choose 72 = .ok (.iload_n 1, 1) := by decide +kernel
theorem dX5_choose_73 : decode cX5_choose 73 = .ok (.iconst 1, 1) := by decide +kernel
theorem dX5_choose_74 : decode cX5_choose 74 = .ok (.iadd, 1) := by decide +kernel
theorem dX5_choose_75 : decode cX5_choose 75 = .ok (.aload_n 0, 1) := by decide +kernel
theorem dX5_choose_76 : decode cX5_choose 76 = .ok (.getfield 50, 3) := by decide +kernel
theorem dX5_choose_79 : decode cX5_choose 79 = .ok (.iload_n 1, 1) := by decide +kernel
theorem dX5_choose_80 : decode cX5_choose 80 = .ok (.iaload, 1) := by decide +kernel
theorem dX5_choose_81 : decode cX5_choose 81 = .ok (.iload 5, 2) := by decide +kernel
theorem dX5_choose_83 : decode cX5_choose 83 = .ok (.ifCond .eq 8, 3) := by decide +kernel
theorem dX5_choose_86 : decode cX5_choose 86 = .ok (.iload 4, 2) := by decide +kernel
theorem dX5_choose_88 : decode cX5_choose 88 = .ok (.goto 4, 3) := by decide +kernel
theorem dX5_choose_91 : decode cX5_choose 91 = .ok (.iconst 0, 1) := by decide +kernel
theorem dX5_choose_92 : decode cX5_choose 92 = .ok (.isub, 1) := by decide +kernel
theorem dX5_choose_93 : decode cX5_choose 93 = .ok (.iastore, 1) := by decide +kernel
theorem dX5_choose_94 : decode cX5_choose 94 = .ok (.aload_n 0, 1) := by decide +kernel
theorem dX5_choose_95 : decode cX5_choose 95 = .ok (.getfield 53, 3) := by decide +kernel
theorem dX5_choose_98 : decode cX5_choose 98 = .ok (.iload_n 1, 1) := by decide +kernel
theorem dX5_choose_99 : decode cX5_choose 99 = .ok (.iconst 1, 1) := by decide +kernel
theorem dX5_choose_100 : decode cX5_choose 100 = .ok (.iadd, 1) := by decide +kernel
theorem dX5_choose_101 : decode cX5_choose 101 = .ok (.aload_n 0, 1) := by decide +kernel
theorem dX5_choose_102 : decode cX5_choose 102 = .ok (.getfield 53, 3) := by decide +kernel
theorem dX5_choose_105 : decode cX5_choose 105 = .ok (.iload_n 1, 1) := by decide +kernel
theorem dX5_choose_106 : decode cX5_choose 106 = .ok (.iaload, 1) := by decide +kernel
theorem dX5_choose_107 : decode cX5_choose 107 = .ok (.iload_n 3, 1) := by decide +kernel
theorem dX5_choose_108 : decode cX5_choose 108 = .ok (.ifCond .ge 7, 3) := by decide +kernel
theorem dX5_choose_111 : decode cX5_choose 111 = .ok (.iconst 0, 1) := by decide +kernel
theorem dX5_choose_112 : decode cX5_choose 112 = .ok (.goto 22, 3) := by decide +kernel
theorem dX5_choose_115 : decode cX5_choose 115 = .ok (.iload 5, 2) := by decide +kernel
theorem dX5_choose_117 : decode cX5_choose 117 = .ok (.ifCond .ne 7, 3) := by decide +kernel
theorem dX5_choose_120 : decode cX5_choose 120 = .ok (.iconst (-1), 1) := by decide +kernel
theorem dX5_choose_121 : decode cX5_choose 121 = .ok (.goto 13, 3) := by decide +kernel
theorem dX5_choose_124 : decode cX5_choose 124 = .ok (.iload 4, 2) := by decide +kernel
theorem dX5_choose_126 : decode cX5_choose 126 = .ok (.ifCond .ne 7, 3) := by decide +kernel
theorem dX5_choose_129 : decode cX5_choose 129 = .ok (.iconst 2, 1) := by decide +kernel
theorem dX5_choose_130 : decode cX5_choose 130 = .ok (.goto 4, 3) := by decide +kernel
theorem dX5_choose_133 : decode cX5_choose 133 = .ok (.iconst 1, 1) := by decide +kernel
theorem dX5_choose_134 : decode cX5_choose 134 = .ok (.iadd, 1) := by decide +kernel
theorem dX5_choose_135 : decode cX5_choose 135 = .ok (.iastore, 1) := by decide +kernel
theorem dX5_choose_136 : decode cX5_choose 136 = .ok (.aload_n 0, 1) := by decide +kernel
theorem dX5_choose_137 : decode cX5_choose 137 = .ok (.getfield 56, 3) := by decide +kernel
theorem dX5_choose_140 : decode cX5_choose 140 = .ok (.iload_n 1, 1) := by decide +kernel
theorem dX5_choose_141 : decode cX5_choose 141 = .ok (.iconst 1, 1) := by decide +kernel
theorem dX5_choose_142 : decode cX5_choose 142 = .ok (.iadd, 1) := by decide +kernel
theorem dX5_choose_143 : decode cX5_choose 143 = .ok (.aload_n 0, 1) := by decide +kernel
theorem dX5_choose_144 : decode cX5_choose 144 = .ok (.getfield 56, 3) := by decide +kernel
theorem dX5_choose_147 : decode cX5_choose 147 = .ok (.iload_n 1, 1) := by decide +kernel
theorem dX5_choose_148 : decode cX5_choose 148 = .ok (.iaload, 1) := by decide +kernel
theorem dX5_choose_149 : decode cX5_choose 149 = .ok (.iload 5, 2) := by decide +kernel
theorem dX5_choose_151 : decode cX5_choose 151 = .ok (.ifCond .eq 7, 3) := by decide +kernel
theorem dX5_choose_154 : decode cX5_choose 154 = .ok (.iconst 1, 1) := by decide +kernel
theorem dX5_choose_155 : decode cX5_choose 155 = .ok (.goto 4, 3) := by decide +kernel
theorem dX5_choose_158 : decode cX5_choose 158 = .ok (.iconst 0, 1) := by decide +kernel
theorem dX5_choose_159 : decode cX5_choose 159 = .ok (.iadd, 1) := by decide +kernel
theorem dX5_choose_160 : decode cX5_choose 160 = .ok (.iastore, 1) := by decide +kernel
theorem dX5_choose_161 : decode cX5_choose 161 = .ok (.aload_n 0, 1) := by decide +kernel
theorem dX5_choose_162 : decode cX5_choose 162 = .ok (.getfield 59, 3) := by decide +kernel
theorem dX5_choose_165 : decode cX5_choose 165 = .ok (.iload_n 1, 1) := by decide +kernel
theorem dX5_choose_166 : decode cX5_choose 166 = .ok (.iconst 1, 1) := by decide +kernel
theorem dX5_choose_167 : decode cX5_choose 167 = .ok (.iadd, 1) := by decide +kernel
theorem dX5_choose_168 : decode cX5_choose 168 = .ok (.aload_n 0, 1) := by decide +kernel
theorem dX5_choose_169 : decode cX5_choose 169 = .ok (.getfield 59, 3) := by decide +kernel
theorem dX5_choose_172 : decode cX5_choose 172 = .ok (.iload_n 1, 1) := by decide +kernel
theorem dX5_choose_173 : decode cX5_choose 173 = .ok (.iaload, 1) := by decide +kernel
theorem dX5_choose_174 : decode cX5_choose 174 = .ok (.iload_n 3, 1) := by decide +kernel
theorem dX5_choose_175 : decode cX5_choose 175 = .ok (.ifCond .ge 7, 3) := by decide +kernel
theorem dX5_choose_178 : decode cX5_choose 178 = .ok (.iconst 0, 1) := by decide +kernel
theorem dX5_choose_179 : decode cX5_choose 179 = .ok (.goto 6, 3) := by decide +kernel
theorem dX5_choose_182 : decode cX5_choose 182 = .ok (.iconst 1, 1) := by decide +kernel
theorem dX5_choose_183 : decode cX5_choose 183 = .ok (.iload_n 3, 1) := by decide +kernel
theorem dX5_choose_184 : decode cX5_choose 184 = .ok (.ishl, 1) := by decide +kernel
theorem dX5_choose_185 : decode cX5_choose 185 = .ok (.ior, 1) := by decide +kernel
theorem dX5_choose_186 : decode cX5_choose 186 = .ok (.iastore, 1) := by decide +kernel
theorem dX5_choose_187 : decode cX5_choose 187 = .ok (.return_, 1) := by decide +kernel
theorem dX5_nextChoice_0 : decode cX5_nextChoice 0 = .ok (.iload_n 2, 1) := by decide +kernel
theorem dX5_nextChoice_1 : decode cX5_nextChoice 1 = .ok (.istore_n 3, 1) := by decide +kernel
theorem dX5_nextChoice_2 : decode cX5_nextChoice 2 = .ok (.iload_n 3, 1) := by decide +kernel
theorem dX5_nextChoice_3 : decode cX5_nextChoice 3 = .ok (.ifCond .le 33, 3) := by decide +kernel
theorem dX5_nextChoice_6 : decode cX5_nextChoice 6 = .ok (.iload_n 3, 1) := by decide +kernel
theorem dX5_nextChoice_7 : decode cX5_nextChoice 7 = .ok (.aload_n 0, 1) := by decide +kernel
theorem dX5_nextChoice_8 : decode cX5_nextChoice 8 = .ok (.getfield 163, 3) := by decide +kernel
theorem dX5_nextChoice_11 : decode cX5_nextChoice 11 = .ok (.if_icmp .gt 25, 3) := by decide +kernel
theorem dX5_nextChoice_14 : decode cX5_nextChoice 14 = .ok (.aload_n 0, 1) := by decide +kernel
theorem dX5_nextChoice_15 : decode cX5_nextChoice 15 = .ok (.iload_n 3, 1) := by decide +kernel
theorem dX5_nextChoice_16 : decode cX5_nextChoice 16 = .ok (.iconst 1, 1) := by decide +kernel
theorem dX5_nextChoice_17 : decode cX5_nextChoice 17 = .ok (.isub, 1) := by decide +kernel
theorem dX5_nextChoice_18 : decode cX5_nextChoice 18 = .ok (.aload_n 0, 1) := by decide +kernel
theorem dX5_nextChoice_19 : decode cX5_nextChoice 19 = .ok (.getfield 59, 3) := by decide +kernel
theorem dX5_nextChoice_22 : decode cX5_nextChoice 22 = .ok (.iload_n 1, 1) := by decide +kernel
theorem dX5_nextChoice_23 : decode cX5_nextChoice 23 = .ok (.iaload, 1) := by decide +kernel
theorem dX5_nextChoice_24 : decode cX5_nextChoice 24 = .ok (.invokevirtual 195, 3) := by decide +kernel
theorem dX5_nextChoice_27 : decode cX5_nextChoice 27 = .ok (.ifCond .ne 9, 3) := by decide +kernel
theorem dX5_nextChoice_30 : decode cX5_nextChoice 30 = .ok (.iinc 3 1, 3) := by decide +kernel
theorem dX5_nextChoice_33 : decode cX5_nextChoice 33 = .ok (.goto (-31), 3) := by decide +kernel
theorem dX5_nextChoice_36 : decode cX5_nextChoice 36 = .ok (.iload_n 3, 1) := by decide +kernel
theorem dX5_nextChoice_37 : decode cX5_nextChoice 37 = .ok (.ireturn, 1) := by decide +kernel
theorem dX5_nextPlan_0 : decode cX5_nextPlan 0 = .ok (.aload_n 0, 1) := by decide +kernel
theorem dX5_nextPlan_1 : decode cX5_nextPlan 1 = .ok (.getfield 248, 3) := by decide +kernel
theorem dX5_nextPlan_4 : decode cX5_nextPlan 4 = .ok (.ifCond .eq 12, 3) := by decide +kernel
theorem dX5_nextPlan_7 : decode cX5_nextPlan 7 = .ok (.aload_n 0, 1) := by decide +kernel
theorem dX5_nextPlan_8 : decode cX5_nextPlan 8 = .ok (.getfield 245, 3) := by decide +kernel
theorem dX5_nextPlan_11 : decode cX5_nextPlan 11 = .ok (.iconst 1, 1) := by decide +kernel
theorem dX5_nextPlan_12 : decode cX5_nextPlan 12 = .ok (.isub, 1) := by decide +kernel
theorem dX5_nextPlan_13 : decode cX5_nextPlan 13 = .ok (.goto 4, 3) := by decide +kernel
theorem dX5_nextPlan_16 : decode cX5_nextPlan 16 = .ok (.iconst 0, 1) := by decide +kernel
theorem dX5_nextPlan_17 : decode cX5_nextPlan 17 = .ok (.istore_n 1, 1) := by decide +kernel
theorem dX5_nextPlan_18 : decode cX5_nextPlan 18 = .ok (.aload_n 0, 1) := by decide +kernel
theorem dX5_nextPlan_19 : decode cX5_nextPlan 19 = .ok (.getfield 245, 3) := by decide +kernel
theorem dX5_nextPlan_22 : decode cX5_nextPlan 22 = .ok (.ifCond .ne 17, 3) := by decide +kernel
theorem dX5_nextPlan_25 : decode cX5_nextPlan 25 = .ok (.aload_n 0, 1) := by decide +kernel
theorem dX5_nextPlan_26 : decode cX5_nextPlan 26 = .ok (.getfield 248, 3) := by decide +kernel
theorem dX5_nextPlan_29 : decode cX5_nextPlan 29 = .ok (.ifCond .ne 10, 3) := by decide +kernel
theorem dX5_nextPlan_32 : decode cX5_nextPlan 32 = .ok (.aload_n 0, 1) := by decide +kernel
theorem dX5_nextPlan_33 : decode cX5_nextPlan 33 = .ok (.iconst 1, 1) := by decide +kernel
theorem dX5_nextPlan_34 : decode cX5_nextPlan 34 = .ok (.putfield 248, 3) := by decide +kernel
theorem dX5_nextPlan_37 : decode cX5_nextPlan 37 = .ok (.iconst 1, 1) := by decide +kernel
theorem dX5_nextPlan_38 : decode cX5_nextPlan 38 = .ok (.ireturn, 1) := by decide +kernel
theorem dX5_nextPlan_39 : decode cX5_nextPlan 39 = .ok (.aload_n 0, 1) := by decide +kernel
theorem dX5_nextPlan_40 : decode cX5_nextPlan 40 = .ok (.iconst 1, 1) := by decide +kernel
theorem dX5_nextPlan_41 : decode cX5_nextPlan 41 = .ok (.putfield 248, 3) := by decide +kernel
theorem dX5_nextPlan_44 : decode cX5_nextPlan 44 = .ok (.iload_n 1, 1) := by decide +kernel
theorem dX5_nextPlan_45 : decode cX5_nextPlan 45 = .ok (.ifCond .lt 60, 3) := by decide +kernel
theorem dX5_nextPlan_48 : decode cX5_nextPlan 48 = .ok (.aload_n 0, 1) := by decide +kernel
theorem dX5_nextPlan_49 : decode cX5_nextPlan 49 = .ok (.iload_n 1, 1) := by decide +kernel
theorem dX5_nextPlan_50 : decode cX5_nextPlan 50 = .ok (.aload_n 0, 1) := by decide +kernel
theorem dX5_nextPlan_51 : decode cX5_nextPlan 51 = .ok (.getfield 62, 3) := by decide +kernel
theorem dX5_nextPlan_54 : decode cX5_nextPlan 54 = .ok (.iload_n 1, 1) := by decide +kernel
theorem dX5_nextPlan_55 : decode cX5_nextPlan 55 = .ok (.iaload, 1) := by decide +kernel
theorem dX5_nextPlan_56 : decode cX5_nextPlan 56 = .ok (.iconst 1, 1) := by decide +kernel
theorem dX5_nextPlan_57 : decode cX5_nextPlan 57 = .ok (.iadd, 1) := by decide +kernel
theorem dX5_nextPlan_58 : decode cX5_nextPlan 58 = .ok (.invokevirtual 252, 3) := by decide +kernel
theorem dX5_nextPlan_61 : decode cX5_nextPlan 61 = .ok (.istore_n 2, 1) := by decide +kernel
theorem dX5_nextPlan_62 : decode cX5_nextPlan 62 = .ok (.iload_n 2, 1) := by decide +kernel
theorem dX5_nextPlan_63 : decode cX5_nextPlan 63 = .ok (.aload_n 0, 1) := by decide +kernel
theorem dX5_nextPlan_64 : decode cX5_nextPlan 64 = .ok (.getfield 163, 3) := by decide +kernel
theorem dX5_nextPlan_67 : decode cX5_nextPlan 67 = .ok (.if_icmp .le 9, 3) := by decide +kernel
theorem dX5_nextPlan_70 : decode cX5_nextPlan 70 = .ok (.iinc 1 (-1), 3) := by decide +kernel
theorem dX5_nextPlan_73 : decode cX5_nextPlan 73 = .ok (.goto 29, 3) := by decide +kernel
theorem dX5_nextPlan_76 : decode cX5_nextPlan 76 = .ok (.aload_n 0, 1) := by decide +kernel
theorem dX5_nextPlan_77 : decode cX5_nextPlan 77 = .ok (.iload_n 1, 1) := by decide +kernel
theorem dX5_nextPlan_78 : decode cX5_nextPlan 78 = .ok (.iload_n 2, 1) := by decide +kernel
theorem dX5_nextPlan_79 : decode cX5_nextPlan 79 = .ok (.invokevirtual 255, 3) := by decide +kernel
theorem dX5_nextPlan_82 : decode cX5_nextPlan 82 = .ok (.iinc 1 1, 3) := by decide +kernel
theorem dX5_nextPlan_85 : decode cX5_nextPlan 85 = .ok (.iload_n 1, 1) := by decide +kernel
theorem dX5_nextPlan_86 : decode cX5_nextPlan 86 = .ok (.aload_n 0, 1) := by decide +kernel
theorem dX5_nextPlan_87 : decode cX5_nextPlan 87 = .ok (.getfield 245, 3) := by decide +kernel
theorem dX5_nextPlan_90 : decode cX5_nextPlan 90 = .ok (.if_icmp .ne 5, 3) := by decide +kernel
theorem dX5_nextPlan_93 : decode cX5_nextPlan 93 = .ok (.iconst 1, 1) := by decide +kernel
theorem dX5_nextPlan_94 : decode cX5_nextPlan 94 = .ok (.ireturn, 1) := by decide +kernel
theorem dX5_nextPlan_95 : decode cX5_nextPlan 95 = .ok (.aload_n 0, 1) := by decide +kernel
theorem dX5_nextPlan_96 : decode cX5_nextPlan 96 = .ok (.getfield 62, 3) := by decide +kernel
theorem dX5_nextPlan_99 : decode cX5_nextPlan 99 = .ok (.iload_n 1, 1) := by decide +kernel
theorem dX5_nextPlan_100 : decode cX5_nextPlan 100 = .ok (.iconst (-1), 1) := by decide +kernel
theorem dX5_nextPlan_101 : decode cX5_nextPlan 101 = .ok (.iastore, 1) := by decide +kernel
theorem dX5_nextPlan_102 : decode cX5_nextPlan 102 = .ok (.goto (-58), 3) := by decide +kernel
theorem dX5_nextPlan_105 : decode cX5_nextPlan 105 = .ok (.iconst 0, 1) := by decide +kernel
theorem dX5_nextPlan_106 : decode cX5_nextPlan 106 = .ok (.ireturn, 1) := by decide +kernel
theorem dX5_can_0 : decode cX5_can 0 = .ok (.aload_n 0, 1) := by decide +kernel
theorem dX5_can_1 : decode cX5_can 1 = .ok (.aload_n 0, 1) := by decide +kernel
theorem dX5_can_2 : decode cX5_can 2 = .ok (.getfield 7, 3) := by decide +kernel
theorem dX5_can_5 : decode cX5_can 5 = .ok (.bipush 6, 2) := by decide +kernel
theorem dX5_can_7 : decode cX5_can 7 = .ok (.iaload, 1) := by decide +kernel
theorem dX5_can_8 : decode cX5_can 8 = .ok (.invokevirtual 234, 3) := by decide +kernel
theorem dX5_can_11 : decode cX5_can 11 = .ok (.ireturn, 1) := by decide +kernel
theorem dX5_noPlan_0 : decode cX5_noPlan 0 = .ok (.aload_n 0, 1) := by decide +kernel
theorem dX5_noPlan_1 : decode cX5_noPlan 1 = .ok (.getfield 163, 3) := by decide +kernel
theorem dX5_noPlan_4 : decode cX5_noPlan 4 = .ok (.ifCond .ne 6, 3) := by decide +kernel
theorem dX5_noPlan_7 : decode cX5_noPlan 7 = .ok (.bipush (-4), 2) := by decide +kernel
theorem dX5_noPlan_9 : decode cX5_noPlan 9 = .ok (.ireturn, 1) := by decide +kernel
theorem dX5_noPlan_10 : decode cX5_noPlan 10 = .ok (.aload_n 0, 1) := by decide +kernel
theorem dX5_noPlan_11 : decode cX5_noPlan 11 = .ok (.getfield 25, 3) := by decide +kernel
theorem dX5_noPlan_14 : decode cX5_noPlan 14 = .ok (.iload_n 1, 1) := by decide +kernel
theorem dX5_noPlan_15 : decode cX5_noPlan 15 = .ok (.iaload, 1) := by decide +kernel
theorem dX5_noPlan_16 : decode cX5_noPlan 16 = .ok (.ifCond .ge 9, 3) := by decide +kernel
theorem dX5_noPlan_19 : decode cX5_noPlan 19 = .ok (.aload_n 0, 1) := by decide +kernel
theorem dX5_noPlan_20 : decode cX5_noPlan 20 = .ok (.iconst 1, 1) := by decide +kernel
theorem dX5_noPlan_21 : decode cX5_noPlan 21 = .ok (.invokevirtual 87, 3) := by decide +kernel
theorem dX5_noPlan_24 : decode cX5_noPlan 24 = .ok (.ireturn, 1) := by decide +kernel
theorem dX5_noPlan_25 : decode cX5_noPlan 25 = .ok (.aload_n 0, 1) := by decide +kernel
theorem dX5_noPlan_26 : decode cX5_noPlan 26 = .ok (.getfield 25, 3) := by decide +kernel
theorem dX5_noPlan_29 : decode cX5_noPlan 29 = .ok (.iload_n 1, 1) := by decide +kernel
theorem dX5_noPlan_30 : decode cX5_noPlan 30 = .ok (.iaload, 1) := by decide +kernel
theorem dX5_noPlan_31 : decode cX5_noPlan 31 = .ok (.aload_n 0, 1) := by decide +kernel
theorem dX5_noPlan_32 : decode cX5_noPlan 32 = .ok (.getfield 160, 3) := by decide +kernel
theorem dX5_noPlan_35 : decode cX5_noPlan 35 = .ok (.aload_n 0, 1) := by decide +kernel
theorem dX5_noPlan_36 : decode cX5_noPlan 36 = .ok (.getfield 7, 3) := by decide +kernel
theorem dX5_noPlan_39 : decode cX5_noPlan 39 = .ok (.iconst 1, 1) := by decide +kernel
theorem dX5_noPlan_40 : decode cX5_noPlan 40 = .ok (.iaload, 1) := by decide +kernel
theorem dX5_noPlan_41 : decode cX5_noPlan 41 = .ok (.isub, 1) := by decide +kernel
theorem dX5_noPlan_42 : decode cX5_noPlan 42 = .ok (.if_icmp .le 9, 3) := by decide +kernel
theorem dX5_noPlan_45 : decode cX5_noPlan 45 = .ok (.aload_n 0, 1) := by decide +kernel
theorem dX5_noPlan_46 : decode cX5_noPlan 46 = .ok (.iconst 5, 1) := by decide +kernel
theorem dX5_noPlan_47 : decode cX5_noPlan 47 = .ok (.invokevirtual 87, 3) := by decide +kernel
theorem dX5_noPlan_50 : decode cX5_noPlan 50 = .ok (.ireturn, 1) := by decide +kernel
theorem dX5_noPlan_51 : decode cX5_noPlan 51 = .ok (.aload_n 0, 1) := by decide +kernel
theorem dX5_noPlan_52 : decode cX5_noPlan 52 = .ok (.aload_n 0, 1) := by decide +kernel
theorem dX5_noPlan_53 : decode cX5_noPlan 53 = .ok (.getfield 7, 3) := by decide +kernel
theorem dX5_noPlan_56 : decode cX5_noPlan 56 = .ok (.iconst 2, 1) := by decide +kernel
theorem dX5_noPlan_57 : decode cX5_noPlan 57 = .ok (.iaload, 1) := by decide +kernel
theorem dX5_noPlan_58 : decode cX5_noPlan 58 = .ok (.invokevirtual 258, 3) := by decide +kernel
theorem dX5_noPlan_61 : decode cX5_noPlan 61 = .ok (.iconst 0, 1) := by decide +kernel
theorem dX5_noPlan_62 : decode cX5_noPlan 62 = .ok (.istore_n 2, 1) := by decide +kernel
theorem dX5_noPlan_63 : decode cX5_noPlan 63 = .ok (.iload_n 2, 1) := by decide +kernel
theorem dX5_noPlan_64 : decode cX5_noPlan 64 = .ok (.aload_n 0, 1) := by decide +kernel
theorem dX5_noPlan_65 : decode cX5_noPlan 65 = .ok (.getfield 25, 3) := by decide +kernel
theorem dX5_noPlan_68 : decode cX5_noPlan 68 = .ok (.iload_n 1, 1) := by decide +kernel
theorem dX5_noPlan_69 : decode cX5_noPlan 69 = .ok (.iaload, 1) := by decide +kernel
theorem dX5_noPlan_70 : decode cX5_noPlan 70 = .ok (.if_icmp .ge 73, 3) := by decide +kernel
theorem dX5_noPlan_73 : decode cX5_noPlan 73 = .ok (.aload_n 0, 1) := by decide +kernel
theorem dX5_noPlan_74 : decode cX5_noPlan 74 = .ok (.getfield 28, 3) := by decide +kernel
theorem dX5_noPlan_77 : decode cX5_noPlan 77 = .ok (.bipush 40, 2) := by decide +kernel
theorem dX5_noPlan_79 : decode cX5_noPlan 79 = .ok (.iload_n 1, 1) := by decide +kernel
theorem dX5_noPlan_80 : decode cX5_noPlan 80 = .ok (.imul, 1) := by decide +kernel
theorem dX5_noPlan_81 : decode cX5_noPlan 81 = .ok (.iload_n 2, 1) := by decide +kernel
theorem dX5_noPlan_82 : decode cX5_noPlan 82 = .ok (.iadd, 1) := by decide +kernel
theorem dX5_noPlan_83 : decode cX5_noPlan 83 = .ok (.iaload, 1) := by decide +kernel
theorem dX5_noPlan_84 : decode cX5_noPlan 84 = .ok (.istore_n 3, 1) := by decide +kernel
theorem dX5_noPlan_85 : decode cX5_noPlan 85 = .ok (.iload_n 3, 1) := by decide +kernel
theorem dX5_noPlan_86 : decode cX5_noPlan 86 = .ok (.bipush (-9), 2) := by decide +kernel
theorem dX5_noPlan_88 : decode cX5_noPlan 88 = .ok (.if_icmp .eq 31, 3) := by decide +kernel
theorem dX5_noPlan_91 : decode cX5_noPlan 91 = .ok (.aload_n 0, 1) := by decide +kernel
theorem dX5_noPlan_92 : decode cX5_noPlan 92 = .ok (.iload_n 3, 1) := by decide +kernel
theorem dX5_noPlan_93 : decode cX5_noPlan 93 = .ok (.invokevirtual 198, 3) := by decide +kernel
theorem dX5_noPlan_96 : decode cX5_noPlan 96 = .ok (.ifCond .eq 17, 3) := by decide +kernel
theorem dX5_noPlan_99 : decode cX5_noPlan 99 = .ok (.aload_n 0, 1) := by decide +kernel
theorem dX5_noPlan_100 : decode cX5_noPlan 100 = .ok (.iload_n 3, 1) := by decide +kernel
theorem dX5_noPlan_101 : decode cX5_noPlan 101 = .ok (.aload_n 0, 1) := by decide +kernel
theorem dX5_noPlan_102 : decode cX5_noPlan 102 = .ok (.getfield 59, 3) := by decide +kernel
theorem dX5_noPlan_105 : decode cX5_noPlan 105 = .ok (.iload_n 2, 1) := by decide +kernel
theorem dX5_noPlan_106 : decode cX5_noPlan 106 = .ok (.iaload, 1) := by decide +kernel
theorem dX5_noPlan_107 : decode cX5_noPlan 107 = .ok (.invokevirtual 195, 3) := by decide +kernel
theorem dX5_noPlan_110 : decode cX5_noPlan 110 = .ok (.ifCond .ne 9, 3) := by decide +kernel
theorem dX5_noPlan_113 : decode cX5_noPlan 113 = .ok (.aload_n 0, 1) := by decide +kernel
theorem dX5_noPlan_114 : decode cX5_noPlan 114 = .ok (.iconst 3, 1) := by decide +kernel
theorem dX5_noPlan_115 : decode cX5_noPlan 115 = .ok (.invokevirtual 87, 3) := by decide +kernel
theorem dX5_noPlan_118 : decode cX5_noPlan 118 = .ok (.ireturn, 1) := by decide +kernel
theorem dX5_noPlan_119 : decode cX5_noPlan 119 = .ok (.aload_n 0, 1) := by decide +kernel
theorem dX5_noPlan_120 : decode cX5_noPlan 120 = .ok (.iload_n 2, 1) := by decide +kernel
theorem dX5_noPlan_121 : decode cX5_noPlan 121 = .ok (.iload_n 3, 1) := by decide +kernel
theorem dX5_noPlan_122 : decode cX5_noPlan 122 = .ok (.bipush (-9), 2) := by decide +kernel
theorem dX5_noPlan_124 : decode cX5_noPlan 124 = .ok (.if_icmp .ne 7, 3) := by decide +kernel
theorem dX5_noPlan_127 : decode cX5_noPlan 127 = .ok (.iconst 0, 1) := by decide +kernel
theorem dX5_noPlan_128 : decode cX5_noPlan 128 = .ok (.goto 6, 3) := by decide +kernel
theorem dX5_noPlan_131 : decode cX5_noPlan 131 = .ok (.iload_n 3, 1) := by decide +kernel
theorem dX5_noPlan_132 : decode cX5_noPlan 132 = .ok (.iconst 1, 1) := by decide +kernel
theorem dX5_noPlan_133 : decode cX5_noPlan 133 = .ok (.iadd, 1) := by decide +kernel
theorem dX5_noPlan_134 : decode cX5_noPlan 134 = .ok (.invokevirtual 255, 3) := by decide +kernel
theorem dX5_noPlan_137 : decode cX5_noPlan 137 = .ok (.iinc 2 1, 3) := by decide +kernel
theorem dX5_noPlan_140 : decode cX5_noPlan 140 = .ok (.goto (-77), 3) := by decide +kernel
theorem dX5_noPlan_143 : decode cX5_noPlan 143 = .ok (.iconst 0, 1) := by decide +kernel
theorem dX5_noPlan_144 : decode cX5_noPlan 144 = .ok (.ireturn, 1) := by decide +kernel
theorem dX5_play_0 : decode cX5_play 0 = .ok (.iload_n 1, 1) := by decide +kernel
theorem dX5_play_1 : decode cX5_play 1 = .ok (.invokestatic 83, 3) := by decide +kernel
theorem dX5_play_4 : decode cX5_play 4 = .ok (.ifCond .ne 5, 3) := by decide +kernel
theorem dX5_play_7 : decode cX5_play 7 = .ok (.iconst (-1), 1) := by decide +kernel
theorem dX5_play_8 : decode cX5_play 8 = .ok (.ireturn, 1) := by decide +kernel
theorem dX5_play_9 : decode cX5_play 9 = .ok (.aload_n 0, 1) := by decide +kernel
theorem dX5_play_10 : decode cX5_play 10 = .ok (.iload_n 1, 1) := by decide +kernel
theorem dX5_play_11 : decode cX5_play 11 = .ok (.invokevirtual 262, 3) := by decide +kernel
theorem dX5_play_14 : decode cX5_play 14 = .ok (.istore_n 2, 1) := by decide +kernel
theorem dX5_play_15 : decode cX5_play 15 = .ok (.iload_n 2, 1) := by decide +kernel
theorem dX5_play_16 : decode cX5_play 16 = .ok (.ifCond .eq 5, 3) := by decide +kernel
theorem dX5_play_19 : decode cX5_play 19 = .ok (.iload_n 2, 1) := by decide +kernel
theorem dX5_play_20 : decode cX5_play 20 = .ok (.ireturn, 1) := by decide +kernel
theorem dX5_play_21 : decode cX5_play 21 = .ok (.aload_n 0, 1) := by decide +kernel
theorem dX5_play_22 : decode cX5_play 22 = .ok (.aload_n 0, 1) := by decide +kernel
theorem dX5_play_23 : decode cX5_play 23 = .ok (.getfield 53, 3) := by decide +kernel
theorem dX5_play_26 : decode cX5_play 26 = .ok (.aload_n 0, 1) := by decide +kernel
theorem dX5_play_27 : decode cX5_play 27 = .ok (.getfield 25, 3) := by decide +kernel
theorem dX5_play_30 : decode cX5_play 30 = .ok (.iload_n 1, 1) := by decide +kernel
theorem dX5_play_31 : decode cX5_play 31 = .ok (.iaload, 1) := by decide +kernel
theorem dX5_play_32 : decode cX5_play 32 = .ok (.iaload, 1) := by decide +kernel
theorem dX5_play_33 : decode cX5_play 33 = .ok (.putfield 72, 3) := by decide +kernel
theorem dX5_play_36 : decode cX5_play 36 = .ok (.aload_n 0, 1) := by decide +kernel
theorem dX5_play_37 : decode cX5_play 37 = .ok (.getfield 56, 3) := by decide +kernel
theorem dX5_play_40 : decode cX5_play 40 = .ok (.aload_n 0, 1) := by decide +kernel
theorem dX5_play_41 : decode cX5_play 41 = .ok (.getfield 25, 3) := by decide +kernel
theorem dX5_play_44 : decode cX5_play 44 = .ok (.iload_n 1, 1) := by decide +kernel
theorem dX5_play_45 : decode cX5_play 45 = .ok (.iaload, 1) := by decide +kernel
theorem dX5_play_46 : decode cX5_play 46 = .ok (.iaload, 1) := by decide +kernel
theorem dX5_play_47 : decode cX5_play 47 = .ok (.ireturn, 1) := by decide +kernel
theorem dX5_best_0 : decode cX5_best 0 = .ok (.iload_n 1, 1) := by decide +kernel
theorem dX5_best_1 : decode cX5_best 1 = .ok (.invokestatic 83, 3) := by decide +kernel
theorem dX5_best_4 : decode cX5_best 4 = .ok (.ifCond .ne 5, 3) := by decide +kernel
theorem dX5_best_7 : decode cX5_best 7 = .ok (.iconst (-1), 1) := by decide +kernel
theorem dX5_best_8 : decode cX5_best 8 = .ok (.ireturn, 1) := by decide +kernel
theorem dX5_best_9 : decode cX5_best 9 = .ok (.aload_n 0, 1) := by decide +kernel
theorem dX5_best_10 : decode cX5_best 10 = .ok (.getfield 163, 3) := by decide +kernel
theorem dX5_best_13 : decode cX5_best 13 = .ok (.ifCond .ne 6, 3) := by decide +kernel
theorem dX5_best_16 : decode cX5_best 16 = .ok (.bipush (-4), 2) := by decide +kernel
theorem dX5_best_18 : decode cX5_best 18 = .ok (.ireturn, 1) := by decide +kernel
theorem dX5_best_19 : decode cX5_best 19 = .ok (.iconst (-1), 1) := by decide +kernel
theorem dX5_best_20 : decode cX5_best 20 = .ok (.istore_n 2, 1) := by decide +kernel
theorem dX5_best_21 : decode cX5_best 21 = .ok (.sipush 999, 3) := by decide +kernel
theorem dX5_best_24 : decode cX5_best 24 = .ok (.istore_n 3, 1) := by decide +kernel
theorem dX5_best_25 : decode cX5_best 25 = .ok (.aload_n 0, 1) := by decide +kernel
theorem dX5_best_26 : decode cX5_best 26 = .ok (.aload_n 0, 1) := by decide +kernel
theorem dX5_best_27 : decode cX5_best 27 = .ok (.getfield 7, 3) := by decide +kernel
theorem dX5_best_30 : decode cX5_best 30 = .ok (.iconst 2, 1) := by decide +kernel
theorem dX5_best_31 : decode cX5_best 31 = .ok (.iaload, 1) := by decide +kernel
theorem dX5_best_32 : decode cX5_best 32 = .ok (.invokevirtual 258, 3) := by decide +kernel
theorem dX5_best_35 : decode cX5_best 35 = .ok (.aload_n 0, 1) := by decide +kernel
theorem dX5_best_36 : decode cX5_best 36 = .ok (.invokevirtual 265, 3) := by decide +kernel
theorem dX5_best_39 : decode cX5_best 39 = .ok (.ifCond .eq 122, 3) := by decide +kernel
theorem dX5_best_42 : decode cX5_best 42 = .ok (.aload_n 0, 1) := by decide +kernel
theorem dX5_best_43 : decode cX5_best 43 = .ok (.getfield 56, 3) := by decide +kernel
theorem dX5_best_46 : decode cX5_best 46 = .ok (.aload_n 0, 1) := by decide +kernel
theorem dX5_best_47 : decode cX5_best 47 = .ok (.getfield 245, 3) := by decide +kernel
theorem dX5_best_50 : decode cX5_best 50 = .ok (.iaload, 1) := by decide +kernel
theorem dX5_best_51 : decode cX5_best 51 = .ok (.istore 4, 2) := by decide +kernel
theorem dX5_best_53 : decode cX5_best 53 = .ok (.aload_n 0, 1) := by decide +kernel
theorem dX5_best_54 : decode cX5_best 54 = .ok (.getfield 7, 3) := by decide +kernel
theorem dX5_best_57 : decode cX5_best 57 = .ok (.iconst 2, 1) := by decide +kernel
theorem dX5_best_58 : decode cX5_best 58 = .ok (.iaload, 1) := by decide +kernel
theorem dX5_best_59 : decode cX5_best 59 = .ok (.aload_n 0, 1) := by decide +kernel
theorem dX5_best_60 : decode cX5_best 60 = .ok (.getfield 50, 3) := by decide +kernel
theorem dX5_best_63 : decode cX5_best 63 = .ok (.aload_n 0, 1) := by decide +kernel
theorem dX5_best_64 : decode cX5_best 64 = .ok (.getfield 245, 3) := by decide +kernel
theorem dX5_best_67 : decode cX5_best 67 = .ok (.iaload, 1) := by decide +kernel
theorem dX5_best_68 : decode cX5_best 68 = .ok (.isub, 1) := by decide +kernel
theorem dX5_best_69 : decode cX5_best 69 = .ok (.istore 5, 2) := by decide +kernel
theorem dX5_best_71 : decode cX5_best 71 = .ok (.iload 4, 2) := by decide +kernel
theorem dX5_best_73 : decode cX5_best 73 = .ok (.iload_n 2, 1) := by decide +kernel
theorem dX5_best_74 : decode cX5_best 74 = .ok (.if_icmp .gt 15, 3) := by decide +kernel
theorem dX5_best_77 : decode cX5_best 77 = .ok (.iload 4, 2) := by decide +kernel
theorem dX5_best_79 : decode cX5_best 79 = .ok (.iload_n 2, 1) := by decide +kernel
theorem dX5_best_80 : decode cX5_best 80 = .ok (.if_icmp .ne 78, 3) := by decide +kernel
theorem dX5_best_83 : decode cX5_best 83 = .ok (.iload 5, 2) := by decide +kernel
theorem dX5_best_85 : decode cX5_best 85 = .ok (.iload_n 3, 1) := by decide +kernel
theorem dX5_best_86 : decode cX5_best 86 = .ok (.if_icmp .ge 72, 3) := by decide +kernel
theorem dX5_best_89 : decode cX5_best 89 = .ok (.iload 4, 2) := by decide +kernel
theorem dX5_best_91 : decode cX5_best 91 = .ok (.istore_n 2, 1) := by decide +kernel
theorem dX5_best_92 : decode cX5_best 92 = .ok (.iload 5, 2) := by decide +kernel
theorem dX5_best_94 : decode cX5_best 94 = .ok (.istore_n 3, 1) := by decide +kernel
theorem dX5_best_95 : decode cX5_best 95 = .ok (.aload_n 0, 1) := by decide +kernel
theorem dX5_best_96 : decode cX5_best 96 = .ok (.iload_n 1, 1) := by decide +kernel
theorem dX5_best_97 : decode cX5_best 97 = .ok (.aload_n 0, 1) := by decide +kernel
theorem dX5_best_98 : decode cX5_best 98 = .ok (.getfield 245, 3) := by decide +kernel
theorem dX5_best_101 : decode cX5_best 101 = .ok (.invokevirtual 91, 3) := by decide +kernel
theorem dX5_best_104 : decode cX5_best 104 = .ok (.iconst 0, 1) := by decide +kernel
theorem dX5_best_105 : decode cX5_best 105 = .ok (.istore 6, 2) := by decide +kernel
theorem dX5_best_107 : decode cX5_best 107 = .ok (.iload 6, 2) := by decide +kernel
theorem dX5_best_109 : decode cX5_best 109 = .ok (.aload_n 0, 1) := by decide +kernel
theorem dX5_best_110 : decode cX5_best 110 = .ok (.getfield 245, 3) := by decide +kernel
theorem dX5_best_113 : decode cX5_best 113 = .ok (.if_icmp .ge 45, 3) := by decide +kernel
theorem dX5_best_116 : decode cX5_best 116 = .ok (.aload_n 0, 1) := by decide +kernel
theorem dX5_best_117 : decode cX5_best 117 = .ok (.getfield 28, 3) := by decide +kernel
theorem dX5_best_120 : decode cX5_best 120 = .ok (.bipush 40, 2) := by decide +kernel
theorem dX5_best_122 : decode cX5_best 122 = .ok (.iload_n 1, 1) := by decide +kernel
theorem dX5_best_123 : decode cX5_best 123 = .ok (.imul, 1) := by decide +kernel
theorem dX5_best_124 : decode cX5_best 124 = .ok (.iload 6, 2) := by decide +kernel
theorem dX5_best_126 : decode cX5_best 126 = .ok (.iadd, 1) := by decide +kernel
theorem dX5_best_127 : decode cX5_best 127 = .ok (.aload_n 0, 1) := by decide +kernel
theorem dX5_best_128 : decode cX5_best 128 = .ok (.getfield 62, 3) := by decide +kernel
theorem dX5_best_131 : decode cX5_best 131 = .ok (.iload 6, 2) := by decide +kernel
theorem dX5_best_133 : decode cX5_best 133 = .ok (.iaload, 1) := by decide +kernel
theorem dX5_best_134 : decode cX5_best 134 = .ok (.ifCond .ne 8, 3) := by decide +kernel
theorem dX5_best_137 : decode cX5_best 137 = .ok (.bipush (-9), 2) := by decide +kernel
theorem dX5_best_139 : decode cX5_best 139 = .ok (.goto 12, 3) := by decide +kernel
theorem dX5_best_142 : decode cX5_best 142 = .ok (.aload_n 0, 1) := by decide +kernel
theorem dX5_best_143 : decode cX5_best 143 = .ok (.getfield 62, 3) := by decide +kernel
theorem dX5_best_146 : decode cX5_best 146 = .ok (.iload 6, 2) := by decide +kernel
theorem dX5_best_148 : decode cX5_best 148 = .ok (.iaload, 1) := by decide +kernel
theorem dX5_best_149 : decode cX5_best 149 = .ok (.iconst 1, 1) := by decide +kernel
theorem dX5_best_150 : decode cX5_best 150 = .ok (.isub, 1) := by decide +kernel
theorem dX5_best_151 : decode cX5_best 151 = .ok (.iastore, 1) := by decide +kernel
theorem dX5_best_152 : decode cX5_best 152 = .ok (.iinc 6 1, 3) := by decide +kernel
theorem dX5_best_155 : decode cX5_best 155 = .ok (.goto (-48), 3) := by decide +kernel
theorem dX5_best_158 : decode cX5_best 158 = .ok (.goto (-123), 3) := by decide +kernel
theorem dX5_best_161 : decode cX5_best 161 = .ok (.aload_n 0, 1) := by decide +kernel
theorem dX5_best_162 : decode cX5_best 162 = .ok (.iload_n 3, 1) := by decide +kernel
theorem dX5_best_163 : decode cX5_best 163 = .ok (.putfield 72, 3) := by decide +kernel
theorem dX5_best_166 : decode cX5_best 166 = .ok (.iload_n 2, 1) := by decide +kernel
theorem dX5_best_167 : decode cX5_best 167 = .ok (.ireturn, 1) := by decide +kernel
theorem dX5_least_0 : decode cX5_least 0 = .ok (.aload_n 0, 1) := by decide +kernel
theorem dX5_least_1 : decode cX5_least 1 = .ok (.getfield 163, 3) := by decide +kernel
theorem dX5_least_4 : decode cX5_least 4 = .ok (.ifCond .ne 6, 3) := by decide +kernel
theorem dX5_least_7 : decode cX5_least 7 = .ok (.bipush (-4), 2) := by decide +kernel
theorem dX5_least_9 : decode cX5_least 9 = .ok (.ireturn, 1) := by decide +kernel
theorem dX5_least_10 : decode cX5_least 10 = .ok (.sipush 999, 3) := by decide +kernel
theorem dX5_least_13 : decode cX5_least 13 = .ok (.istore_n 1, 1) := by decide +kernel
theorem dX5_least_14 : decode cX5_least 14 = .ok (.bipush (-9), 2) := by decide +kernel
theorem dX5_least_16 : decode cX5_least 16 = .ok (.istore_n 2, 1) := by decide +kernel
theorem dX5_least_17 : decode cX5_least 17 = .ok (.aload_n 0, 1) := by decide +kernel
theorem dX5_least_18 : decode cX5_least 18 = .ok (.sipush 999, 3) := by decide +kernel
theorem dX5_least_21 : decode cX5_least 21 = .ok (.invokevirtual 258, 3) := by decide +kernel
theorem dX5_least_24 : decode cX5_least 24 = .ok (.aload_n 0, 1) := by decide +kernel
theorem dX5_least_25 : decode cX5_least 25 = .ok (.invokevirtual 265, 3) := by decide +kernel
theorem dX5_least_28 : decode cX5_least 28 = .ok (.ifCond .eq 64, 3) := by decide +kernel
theorem dX5_least_31 : decode cX5_least 31 = .ok (.sipush 999, 3) := by decide +kernel
theorem dX5_least_34 : decode cX5_least 34 = .ok (.aload_n 0, 1) := by decide +kernel
theorem dX5_least_35 : decode cX5_least 35 = .ok (.getfield 50, 3) := by decide +kernel
theorem dX5_least_38 : decode cX5_least 38 = .ok (.aload_n 0, 1) := by decide +kernel
theorem dX5_least_39 : decode cX5_least 39 = .ok (.getfield 245, 3) := by decide +kernel
theorem dX5_least_42 : decode cX5_least 42 = .ok (.iaload, 1) := by decide +kernel
theorem dX5_least_43 : decode cX5_least 43 = .ok (.isub, 1) := by decide +kernel
theorem dX5_least_44 : decode cX5_least 44 = .ok (.istore_n 3, 1) := by decide +kernel
theorem dX5_least_45 : decode cX5_least 45 = .ok (.aload_n 0, 1) := by decide +kernel
theorem dX5_least_46 : decode cX5_least 46 = .ok (.getfield 56, 3) := by decide +kernel
theorem dX5_least_49 : decode cX5_least 49 = .ok (.aload_n 0, 1) := by decide +kernel
theorem dX5_least_50 : decode cX5_least 50 = .ok (.getfield 245, 3) := by decide +kernel
theorem dX5_least_53 : decode cX5_least 53 = .ok (.iaload, 1) := by decide +kernel
theorem dX5_least_54 : decode cX5_least 54 = .ok (.aload_n 0, 1) := by decide +kernel
theorem dX5_least_55 : decode cX5_least 55 = .ok (.getfield 245, 3) := by decide +kernel
theorem dX5_least_58 : decode cX5_least 58 = .ok (.if_icmp .ne 31, 3) := by decide +kernel
theorem dX5_least_61 : decode cX5_least 61 = .ok (.iload_n 3, 1) := by decide +kernel
theorem dX5_least_62 : decode cX5_least 62 = .ok (.iload_n 1, 1) := by decide +kernel
theorem dX5_least_63 : decode cX5_least 63 = .ok (.if_icmp .ge 26, 3) := by decide +kernel
theorem dX5_least_66 : decode cX5_least 66 = .ok (.iload_n 3, 1) := by decide +kernel
theorem dX5_least_67 : decode cX5_least 67 = .ok (.istore_n 1, 1) := by decide +kernel
theorem dX5_least_68 : decode cX5_least 68 = .ok (.aload_n 0, 1) := by decide +kernel
theorem dX5_least_69 : decode cX5_least 69 = .ok (.getfield 245, 3) := by decide +kernel
theorem dX5_least_72 : decode cX5_least 72 = .ok (.ifCond .ne 8, 3) := by decide +kernel
theorem dX5_least_75 : decode cX5_least 75 = .ok (.bipush (-9), 2) := by decide +kernel
theorem dX5_least_77 : decode cX5_least 77 = .ok (.goto 11, 3) := by decide +kernel
theorem dX5_least_80 : decode cX5_least 80 = .ok (.aload_n 0, 1) := by decide +kernel
theorem dX5_least_81 : decode cX5_least 81 = .ok (.getfield 62, 3) := by decide +kernel
theorem dX5_least_84 : decode cX5_least 84 = .ok (.iconst 0, 1) := by decide +kernel
theorem dX5_least_85 : decode cX5_least 85 = .ok (.iaload, 1) := by decide +kernel
theorem dX5_least_86 : decode cX5_least 86 = .ok (.iconst 1, 1) := by decide +kernel
theorem dX5_least_87 : decode cX5_least 87 = .ok (.isub, 1) := by decide +kernel
theorem dX5_least_88 : decode cX5_least 88 = .ok (.istore_n 2, 1) := by decide +kernel
theorem dX5_least_89 : decode cX5_least 89 = .ok (.goto (-65), 3) := by decide +kernel
theorem dX5_least_92 : decode cX5_least 92 = .ok (.iload_n 1, 1) := by decide +kernel
theorem dX5_least_93 : decode cX5_least 93 = .ok (.sipush 999, 3) := by decide +kernel
theorem dX5_least_96 : decode cX5_least 96 = .ok (.if_icmp .ne 6, 3) := by decide +kernel
theorem dX5_least_99 : decode cX5_least 99 = .ok (.bipush (-9), 2) := by decide +kernel
theorem dX5_least_101 : decode cX5_least 101 = .ok (.ireturn, 1) := by decide +kernel
theorem dX5_least_102 : decode cX5_least 102 = .ok (.aload_n 0, 1) := by decide +kernel
theorem dX5_least_103 : decode cX5_least 103 = .ok (.iload_n 2, 1) := by decide +kernel
theorem dX5_least_104 : decode cX5_least 104 = .ok (.putfield 72, 3) := by decide +kernel
theorem dX5_least_107 : decode cX5_least 107 = .ok (.iload_n 1, 1) := by decide +kernel
theorem dX5_least_108 : decode cX5_least 108 = .ok (.ireturn, 1) := by decide +kernel
theorem dX5_ways_0 : decode cX5_ways 0 = .ok (.iload_n 1, 1) := by decide +kernel
theorem dX5_ways_1 : decode cX5_ways 1 = .ok (.i2l, 1) := by decide +kernel
theorem dX5_ways_2 : decode cX5_ways 2 = .ok (.lconst 0, 1) := by decide +kernel
theorem dX5_ways_3 : decode cX5_ways 3 = .ok (.ldc2_w 268, 3) := by decide +kernel
theorem dX5_ways_6 : decode cX5_ways 6 = .ok (.invokestatic 77, 3) := by decide +kernel
theorem dX5_ways_9 : decode cX5_ways 9 = .ok (.ifCond .ne 5, 3) := by decide +kernel
theorem dX5_ways_12 : decode cX5_ways 12 = .ok (.iconst (-1), 1) := by decide +kernel
theorem dX5_ways_13 : decode cX5_ways 13 = .ok (.ireturn, 1) := by decide +kernel
theorem dX5_ways_14 : decode cX5_ways 14 = .ok (.aload_n 0, 1) := by decide +kernel
theorem dX5_ways_15 : decode cX5_ways 15 = .ok (.getfield 163, 3) := by decide +kernel
theorem dX5_ways_18 : decode cX5_ways 18 = .ok (.ifCond .ne 6, 3) := by decide +kernel
theorem dX5_ways_21 : decode cX5_ways 21 = .ok (.bipush (-4), 2) := by decide +kernel
theorem dX5_ways_23 : decode cX5_ways 23 = .ok (.ireturn, 1) := by decide +kernel
theorem dX5_ways_24 : decode cX5_ways 24 = .ok (.aload_n 0, 1) := by decide +kernel
theorem dX5_ways_25 : decode cX5_ways 25 = .ok (.lconst 0, 1) := by decide +kernel
theorem dX5_ways_26 : decode cX5_ways 26 = .ok (.putfield 270, 3) := by decide +kernel
theorem dX5_ways_29 : decode cX5_ways 29 = .ok (.aload_n 0, 1) := by decide +kernel
theorem dX5_ways_30 : decode cX5_ways 30 = .ok (.lconst 1, 1) := by decide +kernel
theorem dX5_ways_31 : decode cX5_ways 31 = .ok (.putfield 37, 3) := by decide +kernel
theorem dX5_ways_34 : decode cX5_ways 34 = .ok (.bipush 63, 2) := by decide +kernel
theorem dX5_ways_36 : decode cX5_ways 36 = .ok (.istore_n 2, 1) := by decide +kernel
theorem dX5_ways_37 : decode cX5_ways 37 = .ok (.aload_n 0, 1) := by decide +kernel
theorem dX5_ways_38 : decode cX5_ways 38 = .ok (.aload_n 0, 1) := by decide +kernel
theorem dX5_ways_39 : decode cX5_ways 39 = .ok (.getfield 7, 3) := by decide +kernel
theorem dX5_ways_42 : decode cX5_ways 42 = .ok (.iconst 2, 1) := by decide +kernel
theorem dX5_ways_43 : decode cX5_ways 43 = .ok (.iaload, 1) := by decide +kernel
theorem dX5_ways_44 : decode cX5_ways 44 = .ok (.invokevirtual 258, 3) := by decide +kernel
theorem dX5_ways_47 : decode cX5_ways 47 = .ok (.aload_n 0, 1) := by decide +kernel
theorem dX5_ways_48 : decode cX5_ways 48 = .ok (.invokevirtual 265, 3) := by decide +kernel
theorem dX5_ways_51 : decode cX5_ways 51 = .ok (.ifCond .eq 51, 3) := by decide +kernel
theorem dX5_ways_54 : decode cX5_ways 54 = .ok (.aload_n 0, 1) := by decide +kernel
theorem dX5_ways_55 : decode cX5_ways 55 = .ok (.getfield 56, 3) := by decide +kernel
theorem dX5_ways_58 : decode cX5_ways 58 = .ok (.aload_n 0, 1) := by decide +kernel
theorem dX5_ways_59 : decode cX5_ways 59 = .ok (.getfield 245, 3) := by decide +kernel
theorem dX5_ways_62 : decode cX5_ways 62 = .ok (.iaload, 1) := by decide +kernel
theorem dX5_ways_63 : decode cX5_ways 63 = .ok (.iload_n 1, 1) := by decide +kernel
theorem dX5_ways_64 : decode cX5_ways 64 = .ok (.if_icmp .lt (-17), 3) := by decide +kernel
theorem dX5_ways_67 : decode cX5_ways 67 = .ok (.aload_n 0, 1) := by decide +kernel
theorem dX5_ways_68 : decode cX5_ways 68 = .ok (.dup, 1) := by decide +kernel
theorem dX5_ways_69 : decode cX5_ways 69 = .ok (.getfield 270, 3) := by decide +kernel
theorem dX5_ways_72 : decode cX5_ways 72 = .ok (.lconst 1, 1) := by decide +kernel
theorem dX5_ways_73 : decode cX5_ways 73 = .ok (.ladd, 1) := by decide +kernel
theorem dX5_ways_74 : decode cX5_ways 74 = .ok (.putfield 270, 3) := by decide +kernel
theorem dX5_ways_77 : decode cX5_ways 77 = .ok (.iload_n 2, 1) := by decide +kernel
theorem dX5_ways_78 : decode cX5_ways 78 = .ok (.aload_n 0, 1) := by decide +kernel
theorem dX5_ways_79 : decode cX5_ways 79 = .ok (.getfield 59, 3) := by decide +kernel
theorem dX5_ways_82 : decode cX5_ways 82 = .ok (.aload_n 0, 1) := by decide +kernel
theorem dX5_ways_83 : decode cX5_ways 83 = .ok (.getfield 245, 3) := by decide +kernel
theorem dX5_ways_86 : decode cX5_ways 86 = .ok (.iaload, 1) := by decide +kernel
theorem dX5_ways_87 : decode cX5_ways 87 = .ok (.aload_n 0, 1) := by decide +kernel
theorem dX5_ways_88 : decode cX5_ways 88 = .ok (.getfield 7, 3) := by decide +kernel
theorem dX5_ways_91 : decode cX5_ways 91 = .ok (.bipush 6, 2) := by decide +kernel
theorem dX5_ways_93 : decode cX5_ways 93 = .ok (.iaload, 1) := by decide +kernel
theorem dX5_ways_94 : decode cX5_ways 94 = .ok (.iconst (-1), 1) := by decide +kernel
theorem dX5_ways_95 : decode cX5_ways 95 = .ok (.ixor, 1) := by decide +kernel
theorem dX5_ways_96 : decode cX5_ways 96 = .ok (.iand, 1) := by decide +kernel
theorem dX5_ways_97 : decode cX5_ways 97 = .ok (.iand, 1) := by decide +kernel
theorem dX5_ways_98 : decode cX5_ways 98 = .ok (.istore_n 2, 1) := by decide +kernel
theorem dX5_ways_99 : decode cX5_ways 99 = .ok (.goto (-52), 3) := by decide +kernel
theorem dX5_ways_102 : decode cX5_ways 102 = .ok (.aload_n 0, 1) := by decide +kernel
theorem dX5_ways_103 : decode cX5_ways 103 = .ok (.aload_n 0, 1) := by decide +kernel
theorem dX5_ways_104 : decode cX5_ways 104 = .ok (.getfield 270, 3) := by decide +kernel
theorem dX5_ways_107 : decode cX5_ways 107 = .ok (.lconst 0, 1) := by decide +kernel
theorem dX5_ways_108 : decode cX5_ways 108 = .ok (.lcmp, 1) := by decide +kernel
theorem dX5_ways_109 : decode cX5_ways 109 = .ok (.ifCond .ne 7, 3) := by decide +kernel
theorem dX5_ways_112 : decode cX5_ways 112 = .ok (.iconst 0, 1) := by decide +kernel
theorem dX5_ways_113 : decode cX5_ways 113 = .ok (.goto 4, 3) := by decide +kernel
theorem dX5_ways_116 : decode cX5_ways 116 = .ok (.iload_n 2, 1) := by decide +kernel
theorem dX5_ways_117 : decode cX5_ways 117 = .ok (.putfield 72, 3) := by decide +kernel
theorem dX5_ways_120 : decode cX5_ways 120 = .ok (.iconst 1, 1) := by decide +kernel
theorem dX5_ways_121 : decode cX5_ways 121 = .ok (.ireturn, 1) := by decide +kernel
theorem dX5_mostCarried_0 : decode cX5_mostCarried 0 = .ok (.iconst 0, 1) := by decide +kernel
theorem dX5_mostCarried_1 : decode cX5_mostCarried 1 = .ok (.istore_n 1, 1) := by decide +kernel
theorem dX5_mostCarried_2 : decode cX5_mostCarried 2 = .ok (.aload_n 0, 1) := by decide +kernel
theorem dX5_mostCarried_3 : decode cX5_mostCarried 3 = .ok (.aload_n 0, 1) := by decide +kernel
theorem dX5_mostCarried_4 : decode cX5_mostCarried 4 = .ok (.getfield 7, 3) := by decide +kernel
theorem dX5_mostCarried_7 : decode cX5_mostCarried 7 = .ok (.iconst 2, 1) := by decide +kernel
theorem dX5_mostCarried_8 : decode cX5_mostCarried 8 = .ok (.iaload, 1) := by decide +kernel
theorem dX5_mostCarried_9 : decode cX5_mostCarried 9 = .ok (.invokevirtual 258, 3) := by decide +kernel
theorem dX5_mostCarried_12 : decode cX5_mostCarried 12 = .ok (.aload_n 0, 1) := by decide +kernel
theorem dX5_mostCarried_13 : decode cX5_mostCarried 13 = .ok (.invokevirtual 265, 3) := by decide +kernel
theorem dX5_mostCarried_16 : decode cX5_mostCarried 16 = .ok (.ifCond .eq 33, 3) := by decide +kernel
theorem dX5_mostCarried_19 : decode cX5_mostCarried 19 = .ok (.aload_n 0, 1) := by decide +kernel
theorem dX5_mostCarried_20 : decode cX5_mostCarried 20 = .ok (.getfield 56, 3) := by decide +kernel
theorem dX5_mostCarried_23 : decode cX5_mostCarried 23 = .ok (.aload_n 0, 1) := by decide +kernel
theorem dX5_mostCarried_24 : decode cX5_mostCarried 24 = .ok (.getfield 245, 3) := by decide +kernel
theorem dX5_mostCarried_27 : decode cX5_mostCarried 27 = .ok (.iaload, 1) := by decide +kernel
theorem dX5_mostCarried_28 : decode cX5_mostCarried 28 = .ok (.iload_n 1, 1) := by decide +kernel
theorem dX5_mostCarried_29 : decode cX5_mostCarried 29 = .ok (.if_icmp .le 15, 3) := by decide +kernel
theorem dX5_mostCarried_32 : decode cX5_mostCarried 32 = .ok (.aload_n 0, 1) := by decide +kernel
theorem dX5_mostCarried_33 : decode cX5_mostCarried 33 = .ok (.getfield 56, 3) := by decide +kernel
theorem dX5_mostCarried_36 : decode cX5_mostCarried 36 = .ok (.aload_n 0, 1) := by decide +kernel
theorem dX5_mostCarried_37 : decode cX5_mostCarried 37 = .ok (.getfield 245, 3) := by decide +kernel
end
section
theorem dX5_mostCarried_40 : decode cX5_mostCarried 40 = .ok (.iaload, 1) := by decide +kernel
theorem dX5_mostCarried_41 : decode cX5_mostCarried 41 = .ok (.goto 4, 3) := by decide +kernel
theorem dX5_mostCarried_44 : decode cX5_mostCarried 44 = .ok (.iload_n 1, 1) := by decide +kernel
theorem dX5_mostCarried_45 : decode cX5_mostCarried 45 = .ok (.istore_n 1, 1) := by decide +kernel
theorem dX5_mostCarried_46 : decode cX5_mostCarried 46 = .ok (.goto (-34), 3) := by decide +kernel
theorem dX5_mostCarried_49 : decode cX5_mostCarried 49 = .ok (.iload_n 1, 1) := by decide +kernel
theorem dX5_mostCarried_50 : decode cX5_mostCarried 50 = .ok (.ireturn, 1) := by decide +kernel
theorem dX5_seats_0 : decode cX5_seats 0 = .ok (.aload_n 0, 1) := by decide +kernel
theorem dX5_seats_1 : decode cX5_seats 1 = .ok (.getfield 163, 3) := by decide +kernel
theorem dX5_seats_4 : decode cX5_seats 4 = .ok (.ifCond .ne 6, 3) := by decide +kernel
theorem dX5_seats_7 : decode cX5_seats 7 = .ok (.bipush (-4), 2) := by decide +kernel
theorem dX5_seats_9 : decode cX5_seats 9 = .ok (.ireturn, 1) := by decide +kernel
theorem dX5_seats_10 : decode cX5_seats 10 = .ok (.aload_n 0, 1) := by decide +kernel
theorem dX5_seats_11 : decode cX5_seats 11 = .ok (.invokevirtual 273, 3) := by decide +kernel
theorem dX5_seats_14 : decode cX5_seats 14 = .ok (.istore_n 1, 1) := by decide +kernel
theorem dX5_seats_15 : decode cX5_seats 15 = .ok (.bipush (-9), 2) := by decide +kernel
theorem dX5_seats_17 : decode cX5_seats 17 = .ok (.istore_n 2, 1) := by decide +kernel
theorem dX5_seats_18 : decode cX5_seats 18 = .ok (.iconst 0, 1) := by decide +kernel
theorem dX5_seats_19 : decode cX5_seats 19 = .ok (.istore_n 3, 1) := by decide +kernel
theorem dX5_seats_20 : decode cX5_seats 20 = .ok (.iload_n 3, 1) := by decide +kernel
theorem dX5_seats_21 : decode cX5_seats 21 = .ok (.aload_n 0, 1) := by decide +kernel
theorem dX5_seats_22 : decode cX5_seats 22 = .ok (.getfield 163, 3) := by decide +kernel
theorem dX5_seats_25 : decode cX5_seats 25 = .ok (.if_icmp .ge 80, 3) := by decide +kernel
theorem dX5_seats_28 : decode cX5_seats 28 = .ok (.iload_n 3, 1) := by decide +kernel
theorem dX5_seats_29 : decode cX5_seats 29 = .ok (.iconst 1, 1) := by decide +kernel
theorem dX5_seats_30 : decode cX5_seats 30 = .ok (.iadd, 1) := by decide +kernel
theorem dX5_seats_31 : decode cX5_seats 31 = .ok (.istore 4, 2) := by decide +kernel
theorem dX5_seats_33 : decode cX5_seats 33 = .ok (.iload 4, 2) := by decide +kernel
theorem dX5_seats_35 : decode cX5_seats 35 = .ok (.aload_n 0, 1) := by decide +kernel
theorem dX5_seats_36 : decode cX5_seats 36 = .ok (.getfield 163, 3) := by decide +kernel
theorem dX5_seats_39 : decode cX5_seats 39 = .ok (.if_icmp .ge 60, 3) := by decide +kernel
theorem dX5_seats_42 : decode cX5_seats 42 = .ok (.aload_n 0, 1) := by decide +kernel
theorem dX5_seats_43 : decode cX5_seats 43 = .ok (.iload_n 3, 1) := by decide +kernel
theorem dX5_seats_44 : decode cX5_seats 44 = .ok (.iload 4, 2) := by decide +kernel
theorem dX5_seats_46 : decode cX5_seats 46 = .ok (.invokevirtual 231, 3) := by decide +kernel
theorem dX5_seats_49 : decode cX5_seats 49 = .ok (.aload_n 0, 1) := by decide +kernel
theorem dX5_seats_50 : decode cX5_seats 50 = .ok (.invokevirtual 273, 3) := by decide +kernel
theorem dX5_seats_53 : decode cX5_seats 53 = .ok (.istore 5, 2) := by decide +kernel
theorem dX5_seats_55 : decode cX5_seats 55 = .ok (.aload_n 0, 1) := by decide +kernel
theorem dX5_seats_56 : decode cX5_seats 56 = .ok (.iload_n 3, 1) := by decide +kernel
theorem dX5_seats_57 : decode cX5_seats 57 = .ok (.iload 4, 2) := by decide +kernel
theorem dX5_seats_59 : decode cX5_seats 59 = .ok (.invokevirtual 231, 3) := by decide +kernel
theorem dX5_seats_62 : decode cX5_seats 62 = .ok (.iload 5, 2) := by decide +kernel
theorem dX5_seats_64 : decode cX5_seats 64 = .ok (.iload_n 1, 1) := by decide +kernel
theorem dX5_seats_65 : decode cX5_seats 65 = .ok (.if_icmp .le 13, 3) := by decide +kernel
theorem dX5_seats_68 : decode cX5_seats 68 = .ok (.bipush 10, 2) := by decide +kernel
theorem dX5_seats_70 : decode cX5_seats 70 = .ok (.iload_n 3, 1) := by decide +kernel
theorem dX5_seats_71 : decode cX5_seats 71 = .ok (.imul, 1) := by decide +kernel
theorem dX5_seats_72 : decode cX5_seats 72 = .ok (.iload 4, 2) := by decide +kernel
theorem dX5_seats_74 : decode cX5_seats 74 = .ok (.iadd, 1) := by decide +kernel
theorem dX5_seats_75 : decode cX5_seats 75 = .ok (.goto 4, 3) := by decide +kernel
theorem dX5_seats_78 : decode cX5_seats 78 = .ok (.iload_n 2, 1) := by decide +kernel
theorem dX5_seats_79 : decode cX5_seats 79 = .ok (.istore_n 2, 1) := by decide +kernel
theorem dX5_seats_80 : decode cX5_seats 80 = .ok (.iload 5, 2) := by decide +kernel
theorem dX5_seats_82 : decode cX5_seats 82 = .ok (.iload_n 1, 1) := by decide +kernel
theorem dX5_seats_83 : decode cX5_seats 83 = .ok (.if_icmp .le 8, 3) := by decide +kernel
theorem dX5_seats_86 : decode cX5_seats 86 = .ok (.iload 5, 2) := by decide +kernel
theorem dX5_seats_88 : decode cX5_seats 88 = .ok (.goto 4, 3) := by decide +kernel
theorem dX5_seats_91 : decode cX5_seats 91 = .ok (.iload_n 1, 1) := by decide +kernel
theorem dX5_seats_92 : decode cX5_seats 92 = .ok (.istore_n 1, 1) := by decide +kernel
theorem dX5_seats_93 : decode cX5_seats 93 = .ok (.iinc 4 1, 3) := by decide +kernel
theorem dX5_seats_96 : decode cX5_seats 96 = .ok (.goto (-63), 3) := by decide +kernel
theorem dX5_seats_99 : decode cX5_seats 99 = .ok (.iinc 3 1, 3) := by decide +kernel
theorem dX5_seats_102 : decode cX5_seats 102 = .ok (.goto (-82), 3) := by decide +kernel
theorem dX5_seats_105 : decode cX5_seats 105 = .ok (.aload_n 0, 1) := by decide +kernel
theorem dX5_seats_106 : decode cX5_seats 106 = .ok (.iload_n 2, 1) := by decide +kernel
theorem dX5_seats_107 : decode cX5_seats 107 = .ok (.bipush (-9), 2) := by decide +kernel
theorem dX5_seats_109 : decode cX5_seats 109 = .ok (.if_icmp .ne 10, 3) := by decide +kernel
theorem dX5_seats_112 : decode cX5_seats 112 = .ok (.aload_n 0, 1) := by decide +kernel
theorem dX5_seats_113 : decode cX5_seats 113 = .ok (.getfield 72, 3) := by decide +kernel
theorem dX5_seats_116 : decode cX5_seats 116 = .ok (.goto 4, 3) := by decide +kernel
theorem dX5_seats_119 : decode cX5_seats 119 = .ok (.iload_n 1, 1) := by decide +kernel
theorem dX5_seats_120 : decode cX5_seats 120 = .ok (.putfield 72, 3) := by decide +kernel
theorem dX5_seats_123 : decode cX5_seats 123 = .ok (.iload_n 2, 1) := by decide +kernel
theorem dX5_seats_124 : decode cX5_seats 124 = .ok (.ireturn, 1) := by decide +kernel
theorem dX5_seatsOf_0 : decode cX5_seatsOf 0 = .ok (.iconst 0, 1) := by decide +kernel
theorem dX5_seatsOf_1 : decode cX5_seatsOf 1 = .ok (.istore_n 2, 1) := by decide +kernel
theorem dX5_seatsOf_2 : decode cX5_seatsOf 2 = .ok (.iconst 0, 1) := by decide +kernel
theorem dX5_seatsOf_3 : decode cX5_seatsOf 3 = .ok (.istore_n 3, 1) := by decide +kernel
theorem dX5_seatsOf_4 : decode cX5_seatsOf 4 = .ok (.iload_n 3, 1) := by decide +kernel
theorem dX5_seatsOf_5 : decode cX5_seatsOf 5 = .ok (.aload_n 0, 1) := by decide +kernel
theorem dX5_seatsOf_6 : decode cX5_seatsOf 6 = .ok (.getfield 163, 3) := by decide +kernel
theorem dX5_seatsOf_9 : decode cX5_seatsOf 9 = .ok (.if_icmp .ge 35, 3) := by decide +kernel
theorem dX5_seatsOf_12 : decode cX5_seatsOf 12 = .ok (.iload_n 2, 1) := by decide +kernel
theorem dX5_seatsOf_13 : decode cX5_seatsOf 13 = .ok (.iload_n 1, 1) := by decide +kernel
theorem dX5_seatsOf_14 : decode cX5_seatsOf 14 = .ok (.iload_n 3, 1) := by decide +kernel
theorem dX5_seatsOf_15 : decode cX5_seatsOf 15 = .ok (.invokestatic 147, 3) := by decide +kernel
theorem dX5_seatsOf_18 : decode cX5_seatsOf 18 = .ok (.ifCond .eq 17, 3) := by decide +kernel
theorem dX5_seatsOf_21 : decode cX5_seatsOf 21 = .ok (.iconst 1, 1) := by decide +kernel
theorem dX5_seatsOf_22 : decode cX5_seatsOf 22 = .ok (.aload_n 0, 1) := by decide +kernel
theorem dX5_seatsOf_23 : decode cX5_seatsOf 23 = .ok (.getfield 7, 3) := by decide +kernel
theorem dX5_seatsOf_26 : decode cX5_seatsOf 26 = .ok (.bipush 7, 2) := by decide +kernel
theorem dX5_seatsOf_28 : decode cX5_seatsOf 28 = .ok (.iload_n 3, 1) := by decide +kernel
theorem dX5_seatsOf_29 : decode cX5_seatsOf 29 = .ok (.iadd, 1) := by decide +kernel
theorem dX5_seatsOf_30 : decode cX5_seatsOf 30 = .ok (.iaload, 1) := by decide +kernel
theorem dX5_seatsOf_31 : decode cX5_seatsOf 31 = .ok (.ishl, 1) := by decide +kernel
theorem dX5_seatsOf_32 : decode cX5_seatsOf 32 = .ok (.goto 4, 3) := by decide +kernel
theorem dX5_seatsOf_35 : decode cX5_seatsOf 35 = .ok (.iconst 0, 1) := by decide +kernel
theorem dX5_seatsOf_36 : decode cX5_seatsOf 36 = .ok (.ior, 1) := by decide +kernel
theorem dX5_seatsOf_37 : decode cX5_seatsOf 37 = .ok (.istore_n 2, 1) := by decide +kernel
theorem dX5_seatsOf_38 : decode cX5_seatsOf 38 = .ok (.iinc 3 1, 3) := by decide +kernel
theorem dX5_seatsOf_41 : decode cX5_seatsOf 41 = .ok (.goto (-37), 3) := by decide +kernel
theorem dX5_seatsOf_44 : decode cX5_seatsOf 44 = .ok (.iload_n 2, 1) := by decide +kernel
theorem dX5_seatsOf_45 : decode cX5_seatsOf 45 = .ok (.ireturn, 1) := by decide +kernel
theorem dX5_beside_0 : decode cX5_beside 0 = .ok (.aload_n 0, 1) := by decide +kernel
theorem dX5_beside_1 : decode cX5_beside 1 = .ok (.getfield 163, 3) := by decide +kernel
theorem dX5_beside_4 : decode cX5_beside 4 = .ok (.ifCond .ne 6, 3) := by decide +kernel
theorem dX5_beside_7 : decode cX5_beside 7 = .ok (.bipush (-4), 2) := by decide +kernel
theorem dX5_beside_9 : decode cX5_beside 9 = .ok (.ireturn, 1) := by decide +kernel
theorem dX5_beside_10 : decode cX5_beside 10 = .ok (.aload_n 0, 1) := by decide +kernel
theorem dX5_beside_11 : decode cX5_beside 11 = .ok (.bipush 63, 2) := by decide +kernel
theorem dX5_beside_13 : decode cX5_beside 13 = .ok (.invokevirtual 276, 3) := by decide +kernel
theorem dX5_beside_16 : decode cX5_beside 16 = .ok (.istore_n 1, 1) := by decide +kernel
theorem dX5_beside_17 : decode cX5_beside 17 = .ok (.iconst 0, 1) := by decide +kernel
theorem dX5_beside_18 : decode cX5_beside 18 = .ok (.istore_n 2, 1) := by decide +kernel
theorem dX5_beside_19 : decode cX5_beside 19 = .ok (.iconst 0, 1) := by decide +kernel
theorem dX5_beside_20 : decode cX5_beside 20 = .ok (.istore_n 3, 1) := by decide +kernel
theorem dX5_beside_21 : decode cX5_beside 21 = .ok (.iconst 0, 1) := by decide +kernel
theorem dX5_beside_22 : decode cX5_beside 22 = .ok (.istore 4, 2) := by decide +kernel
theorem dX5_beside_24 : decode cX5_beside 24 = .ok (.iload 4, 2) := by decide +kernel
theorem dX5_beside_26 : decode cX5_beside 26 = .ok (.bipush 10, 2) := by decide +kernel
theorem dX5_beside_28 : decode cX5_beside 28 = .ok (.if_icmp .ge 37, 3) := by decide +kernel
theorem dX5_beside_31 : decode cX5_beside 31 = .ok (.iload_n 1, 1) := by decide +kernel
theorem dX5_beside_32 : decode cX5_beside 32 = .ok (.iload 4, 2) := by decide +kernel
theorem dX5_beside_34 : decode cX5_beside 34 = .ok (.invokestatic 147, 3) := by decide +kernel
theorem dX5_beside_37 : decode cX5_beside 37 = .ok (.ifCond .eq 9, 3) := by decide +kernel
theorem dX5_beside_40 : decode cX5_beside 40 = .ok (.iload_n 3, 1) := by decide +kernel
theorem dX5_beside_41 : decode cX5_beside 41 = .ok (.iconst 1, 1) := by decide +kernel
theorem dX5_beside_42 : decode cX5_beside 42 = .ok (.iadd, 1) := by decide +kernel
theorem dX5_beside_43 : decode cX5_beside 43 = .ok (.goto 4, 3) := by decide +kernel
theorem dX5_beside_46 : decode cX5_beside 46 = .ok (.iconst 0, 1) := by decide +kernel
theorem dX5_beside_47 : decode cX5_beside 47 = .ok (.istore_n 3, 1) := by decide +kernel
theorem dX5_beside_48 : decode cX5_beside 48 = .ok (.iload_n 3, 1) := by decide +kernel
theorem dX5_beside_49 : decode cX5_beside 49 = .ok (.iload_n 2, 1) := by decide +kernel
theorem dX5_beside_50 : decode cX5_beside 50 = .ok (.if_icmp .le 7, 3) := by decide +kernel
theorem dX5_beside_53 : decode cX5_beside 53 = .ok (.iload_n 3, 1) := by decide +kernel
theorem dX5_beside_54 : decode cX5_beside 54 = .ok (.goto 4, 3) := by decide +kernel
theorem dX5_beside_57 : decode cX5_beside 57 = .ok (.iload_n 2, 1) := by decide +kernel
theorem dX5_beside_58 : decode cX5_beside 58 = .ok (.istore_n 2, 1) := by decide +kernel
theorem dX5_beside_59 : decode cX5_beside 59 = .ok (.iinc 4 1, 3) := by decide +kernel
theorem dX5_beside_62 : decode cX5_beside 62 = .ok (.goto (-38), 3) := by decide +kernel
theorem dX5_beside_65 : decode cX5_beside 65 = .ok (.aload_n 0, 1) := by decide +kernel
theorem dX5_beside_66 : decode cX5_beside 66 = .ok (.iload_n 2, 1) := by decide +kernel
theorem dX5_beside_67 : decode cX5_beside 67 = .ok (.putfield 72, 3) := by decide +kernel
theorem dX5_beside_70 : decode cX5_beside 70 = .ok (.iload_n 1, 1) := by decide +kernel
theorem dX5_beside_71 : decode cX5_beside 71 = .ok (.iload_n 1, 1) := by decide +kernel
theorem dX5_beside_72 : decode cX5_beside 72 = .ok (.iconst 1, 1) := by decide +kernel
theorem dX5_beside_73 : decode cX5_beside 73 = .ok (.ishr, 1) := by decide +kernel
theorem dX5_beside_74 : decode cX5_beside 74 = .ok (.iand, 1) := by decide +kernel
theorem dX5_beside_75 : decode cX5_beside 75 = .ok (.invokestatic 237, 3) := by decide +kernel
theorem dX5_beside_78 : decode cX5_beside 78 = .ok (.ireturn, 1) := by decide +kernel
theorem dX5_apart_0 : decode cX5_apart 0 = .ok (.aload_n 0, 1) := by decide +kernel
theorem dX5_apart_1 : decode cX5_apart 1 = .ok (.getfield 163, 3) := by decide +kernel
theorem dX5_apart_4 : decode cX5_apart 4 = .ok (.ifCond .ne 6, 3) := by decide +kernel
theorem dX5_apart_7 : decode cX5_apart 7 = .ok (.bipush (-4), 2) := by decide +kernel
theorem dX5_apart_9 : decode cX5_apart 9 = .ok (.ireturn, 1) := by decide +kernel
theorem dX5_apart_10 : decode cX5_apart 10 = .ok (.iconst 1, 1) := by decide +kernel
theorem dX5_apart_11 : decode cX5_apart 11 = .ok (.aload_n 0, 1) := by decide +kernel
theorem dX5_apart_12 : decode cX5_apart 12 = .ok (.getfield 163, 3) := by decide +kernel
theorem dX5_apart_15 : decode cX5_apart 15 = .ok (.ishl, 1) := by decide +kernel
theorem dX5_apart_16 : decode cX5_apart 16 = .ok (.iconst 1, 1) := by decide +kernel
theorem dX5_apart_17 : decode cX5_apart 17 = .ok (.isub, 1) := by decide +kernel
theorem dX5_apart_18 : decode cX5_apart 18 = .ok (.istore_n 1, 1) := by decide +kernel
theorem dX5_apart_19 : decode cX5_apart 19 = .ok (.sipush 999, 3) := by decide +kernel
theorem dX5_apart_22 : decode cX5_apart 22 = .ok (.istore_n 2, 1) := by decide +kernel
theorem dX5_apart_23 : decode cX5_apart 23 = .ok (.iconst 0, 1) := by decide +kernel
theorem dX5_apart_24 : decode cX5_apart 24 = .ok (.istore_n 3, 1) := by decide +kernel
theorem dX5_apart_25 : decode cX5_apart 25 = .ok (.iload_n 3, 1) := by decide +kernel
theorem dX5_apart_26 : decode cX5_apart 26 = .ok (.iload_n 1, 1) := by decide +kernel
theorem dX5_apart_27 : decode cX5_apart 27 = .ok (.if_icmp .gt 76, 3) := by decide +kernel
theorem dX5_apart_30 : decode cX5_apart 30 = .ok (.aload_n 0, 1) := by decide +kernel
theorem dX5_apart_31 : decode cX5_apart 31 = .ok (.iload_n 1, 1) := by decide +kernel
theorem dX5_apart_32 : decode cX5_apart 32 = .ok (.iload_n 3, 1) := by decide +kernel
theorem dX5_apart_33 : decode cX5_apart 33 = .ok (.iconst (-1), 1) := by decide +kernel
theorem dX5_apart_34 : decode cX5_apart 34 = .ok (.ixor, 1) := by decide +kernel
theorem dX5_apart_35 : decode cX5_apart 35 = .ok (.iand, 1) := by decide +kernel
theorem dX5_apart_36 : decode cX5_apart 36 = .ok (.invokevirtual 276, 3) := by decide +kernel
theorem dX5_apart_39 : decode cX5_apart 39 = .ok (.istore 4, 2) := by decide +kernel
theorem dX5_apart_41 : decode cX5_apart 41 = .ok (.iload 4, 2) := by decide +kernel
theorem dX5_apart_43 : decode cX5_apart 43 = .ok (.iload 4, 2) := by decide +kernel
theorem dX5_apart_45 : decode cX5_apart 45 = .ok (.iconst 1, 1) := by decide +kernel
theorem dX5_apart_46 : decode cX5_apart 46 = .ok (.ishr, 1) := by decide +kernel
theorem dX5_apart_47 : decode cX5_apart 47 = .ok (.iand, 1) := by decide +kernel
theorem dX5_apart_48 : decode cX5_apart 48 = .ok (.ifCond .ne 15, 3) := by decide +kernel
theorem dX5_apart_51 : decode cX5_apart 51 = .ok (.iload_n 3, 1) := by decide +kernel
theorem dX5_apart_52 : decode cX5_apart 52 = .ok (.invokestatic 237, 3) := by decide +kernel
theorem dX5_apart_55 : decode cX5_apart 55 = .ok (.iload_n 2, 1) := by decide +kernel
theorem dX5_apart_56 : decode cX5_apart 56 = .ok (.if_icmp .ge 7, 3) := by decide +kernel
theorem dX5_apart_59 : decode cX5_apart 59 = .ok (.iconst 1, 1) := by decide +kernel
theorem dX5_apart_60 : decode cX5_apart 60 = .ok (.goto 4, 3) := by decide +kernel
theorem dX5_apart_63 : decode cX5_apart 63 = .ok (.iconst 0, 1) := by decide +kernel
theorem dX5_apart_64 : decode cX5_apart 64 = .ok (.istore 5, 2) := by decide +kernel
theorem dX5_apart_66 : decode cX5_apart 66 = .ok (.aload_n 0, 1) := by decide +kernel
theorem dX5_apart_67 : decode cX5_apart 67 = .ok (.iload 5, 2) := by decide +kernel
theorem dX5_apart_69 : decode cX5_apart 69 = .ok (.ifCond .eq 7, 3) := by decide +kernel
theorem dX5_apart_72 : decode cX5_apart 72 = .ok (.iload_n 3, 1) := by decide +kernel
theorem dX5_apart_73 : decode cX5_apart 73 = .ok (.goto 7, 3) := by decide +kernel
theorem dX5_apart_76 : decode cX5_apart 76 = .ok (.aload_n 0, 1) := by decide +kernel
theorem dX5_apart_77 : decode cX5_apart 77 = .ok (.getfield 72, 3) := by decide +kernel
theorem dX5_apart_80 : decode cX5_apart 80 = .ok (.putfield 72, 3) := by decide +kernel
theorem dX5_apart_83 : decode cX5_apart 83 = .ok (.iload 5, 2) := by decide +kernel
theorem dX5_apart_85 : decode cX5_apart 85 = .ok (.ifCond .eq 10, 3) := by decide +kernel
theorem dX5_apart_88 : decode cX5_apart 88 = .ok (.iload_n 3, 1) := by decide +kernel
theorem dX5_apart_89 : decode cX5_apart 89 = .ok (.invokestatic 237, 3) := by decide +kernel
theorem dX5_apart_92 : decode cX5_apart 92 = .ok (.goto 4, 3) := by decide +kernel
theorem dX5_apart_95 : decode cX5_apart 95 = .ok (.iload_n 2, 1) := by decide +kernel
theorem dX5_apart_96 : decode cX5_apart 96 = .ok (.istore_n 2, 1) := by decide +kernel
theorem dX5_apart_97 : decode cX5_apart 97 = .ok (.iinc 3 1, 3) := by decide +kernel
theorem dX5_apart_100 : decode cX5_apart 100 = .ok (.goto (-75), 3) := by decide +kernel
theorem dX5_apart_103 : decode cX5_apart 103 = .ok (.iload_n 2, 1) := by decide +kernel
theorem dX5_apart_104 : decode cX5_apart 104 = .ok (.ireturn, 1) := by decide +kernel
theorem dX5_noNotices_0 : decode cX5_noNotices 0 = .ok (.aload_n 0, 1) := by decide +kernel
theorem dX5_noNotices_1 : decode cX5_noNotices 1 = .ok (.getfield 25, 3) := by decide +kernel
theorem dX5_noNotices_4 : decode cX5_noNotices 4 = .ok (.iload_n 1, 1) := by decide +kernel
theorem dX5_noNotices_5 : decode cX5_noNotices 5 = .ok (.iaload, 1) := by decide +kernel
theorem dX5_noNotices_6 : decode cX5_noNotices 6 = .ok (.ifCond .ge 9, 3) := by decide +kernel
theorem dX5_noNotices_9 : decode cX5_noNotices 9 = .ok (.aload_n 0, 1) := by decide +kernel
theorem dX5_noNotices_10 : decode cX5_noNotices 10 = .ok (.iconst 1, 1) := by decide +kernel
theorem dX5_noNotices_11 : decode cX5_noNotices 11 = .ok (.invokevirtual 87, 3) := by decide +kernel
theorem dX5_noNotices_14 : decode cX5_noNotices 14 = .ok (.ireturn, 1) := by decide +kernel
theorem dX5_noNotices_15 : decode cX5_noNotices 15 = .ok (.aload_n 0, 1) := by decide +kernel
theorem dX5_noNotices_16 : decode cX5_noNotices 16 = .ok (.getfield 25, 3) := by decide +kernel
theorem dX5_noNotices_19 : decode cX5_noNotices 19 = .ok (.iload_n 1, 1) := by decide +kernel
theorem dX5_noNotices_20 : decode cX5_noNotices 20 = .ok (.iaload, 1) := by decide +kernel
theorem dX5_noNotices_21 : decode cX5_noNotices 21 = .ok (.iconst 3, 1) := by decide +kernel
theorem dX5_noNotices_22 : decode cX5_noNotices 22 = .ok (.irem, 1) := by decide +kernel
theorem dX5_noNotices_23 : decode cX5_noNotices 23 = .ok (.ifCond .eq 9, 3) := by decide +kernel
theorem dX5_noNotices_26 : decode cX5_noNotices 26 = .ok (.aload_n 0, 1) := by decide +kernel
theorem dX5_noNotices_27 : decode cX5_noNotices 27 = .ok (.iconst 5, 1) := by decide +kernel
theorem dX5_noNotices_28 : decode cX5_noNotices 28 = .ok (.invokevirtual 87, 3) := by decide +kernel
theorem dX5_noNotices_31 : decode cX5_noNotices 31 = .ok (.ireturn, 1) := by decide +kernel
theorem dX5_noNotices_32 : decode cX5_noNotices 32 = .ok (.iconst 1, 1) := by decide +kernel
theorem dX5_noNotices_33 : decode cX5_noNotices 33 = .ok (.istore_n 2, 1) := by decide +kernel
theorem dX5_noNotices_34 : decode cX5_noNotices 34 = .ok (.bipush 40, 2) := by decide +kernel
theorem dX5_noNotices_36 : decode cX5_noNotices 36 = .ok (.iload_n 1, 1) := by decide +kernel
theorem dX5_noNotices_37 : decode cX5_noNotices 37 = .ok (.imul, 1) := by decide +kernel
theorem dX5_noNotices_38 : decode cX5_noNotices 38 = .ok (.istore_n 3, 1) := by decide +kernel
theorem dX5_noNotices_39 : decode cX5_noNotices 39 = .ok (.iload_n 3, 1) := by decide +kernel
theorem dX5_noNotices_40 : decode cX5_noNotices 40 = .ok (.bipush 40, 2) := by decide +kernel
theorem dX5_noNotices_42 : decode cX5_noNotices 42 = .ok (.iload_n 1, 1) := by decide +kernel
theorem dX5_noNotices_43 : decode cX5_noNotices 43 = .ok (.imul, 1) := by decide +kernel
theorem dX5_noNotices_44 : decode cX5_noNotices 44 = .ok (.aload_n 0, 1) := by decide +kernel
theorem dX5_noNotices_45 : decode cX5_noNotices 45 = .ok (.getfield 25, 3) := by decide +kernel
theorem dX5_noNotices_48 : decode cX5_noNotices 48 = .ok (.iload_n 1, 1) := by decide +kernel
theorem dX5_noNotices_49 : decode cX5_noNotices 49 = .ok (.iaload, 1) := by decide +kernel
theorem dX5_noNotices_50 : decode cX5_noNotices 50 = .ok (.iadd, 1) := by decide +kernel
theorem dX5_noNotices_51 : decode cX5_noNotices 51 = .ok (.if_icmp .ge 74, 3) := by decide +kernel
theorem dX5_noNotices_54 : decode cX5_noNotices 54 = .ok (.iload_n 2, 1) := by decide +kernel
theorem dX5_noNotices_55 : decode cX5_noNotices 55 = .ok (.ifCond .eq 62, 3) := by decide +kernel
theorem dX5_noNotices_58 : decode cX5_noNotices 58 = .ok (.aload_n 0, 1) := by decide +kernel
theorem dX5_noNotices_59 : decode cX5_noNotices 59 = .ok (.getfield 28, 3) := by decide +kernel
theorem dX5_noNotices_62 : decode cX5_noNotices 62 = .ok (.iload_n 3, 1) := by decide +kernel
theorem dX5_noNotices_63 : decode cX5_noNotices 63 = .ok (.iaload, 1) := by decide +kernel
theorem dX5_noNotices_64 : decode cX5_noNotices 64 = .ok (.i2l, 1) := by decide +kernel
theorem dX5_noNotices_65 : decode cX5_noNotices 65 = .ok (.lconst 1, 1) := by decide +kernel
theorem dX5_noNotices_66 : decode cX5_noNotices 66 = .ok (.ldc2_w 279, 3) := by decide +kernel
theorem dX5_noNotices_69 : decode cX5_noNotices 69 = .ok (.invokestatic 77, 3) := by decide +kernel
theorem dX5_noNotices_72 : decode cX5_noNotices 72 = .ok (.ifCond .eq 45, 3) := by decide +kernel
theorem dX5_noNotices_75 : decode cX5_noNotices 75 = .ok (.aload_n 0, 1) := by decide +kernel
theorem dX5_noNotices_76 : decode cX5_noNotices 76 = .ok (.getfield 28, 3) := by decide +kernel
theorem dX5_noNotices_79 : decode cX5_noNotices 79 = .ok (.iload_n 3, 1) := by decide +kernel
theorem dX5_noNotices_80 : decode cX5_noNotices 80 = .ok (.iconst 1, 1) := by decide +kernel
theorem dX5_noNotices_81 : decode cX5_noNotices 81 = .ok (.iadd, 1) := by decide +kernel
theorem dX5_noNotices_82 : decode cX5_noNotices 82 = .ok (.iaload, 1) := by decide +kernel
theorem dX5_noNotices_83 : decode cX5_noNotices 83 = .ok (.i2l, 1) := by decide +kernel
theorem dX5_noNotices_84 : decode cX5_noNotices 84 = .ok (.ldc2_w 281, 3) := by decide +kernel
theorem dX5_noNotices_87 : decode cX5_noNotices 87 = .ok (.ldc2_w 283, 3) := by decide +kernel
theorem dX5_noNotices_90 : decode cX5_noNotices 90 = .ok (.invokestatic 77, 3) := by decide +kernel
theorem dX5_noNotices_93 : decode cX5_noNotices 93 = .ok (.ifCond .eq 24, 3) := by decide +kernel
theorem dX5_noNotices_96 : decode cX5_noNotices 96 = .ok (.aload_n 0, 1) := by decide +kernel
theorem dX5_noNotices_97 : decode cX5_noNotices 97 = .ok (.getfield 28, 3) := by decide +kernel
theorem dX5_noNotices_100 : decode cX5_noNotices 100 = .ok (.iload_n 3, 1) := by decide +kernel
theorem dX5_noNotices_101 : decode cX5_noNotices 101 = .ok (.iconst 2, 1) := by decide +kernel
theorem dX5_noNotices_102 : decode cX5_noNotices 102 = .ok (.iadd, 1) := by decide +kernel
theorem dX5_noNotices_103 : decode cX5_noNotices 103 = .ok (.iaload, 1) := by decide +kernel
theorem dX5_noNotices_104 : decode cX5_noNotices 104 = .ok (.i2l, 1) := by decide +kernel
theorem dX5_noNotices_105 : decode cX5_noNotices 105 = .ok (.lconst 0, 1) := by decide +kernel
theorem dX5_noNotices_106 : decode cX5_noNotices 106 = .ok (.lconst 1, 1) := by decide +kernel
theorem dX5_noNotices_107 : decode cX5_noNotices 107 = .ok (.invokestatic 77, 3) := by decide +kernel
theorem dX5_noNotices_110 : decode cX5_noNotices 110 = .ok (.ifCond .eq 7, 3) := by decide +kernel
theorem dX5_noNotices_113 : decode cX5_noNotices 113 = .ok (.iconst 1, 1) := by decide +kernel
theorem dX5_noNotices_114 : decode cX5_noNotices 114 = .ok (.goto 4, 3) := by decide +kernel
theorem dX5_noNotices_117 : decode cX5_noNotices 117 = .ok (.iconst 0, 1) := by decide +kernel
theorem dX5_noNotices_118 : decode cX5_noNotices 118 = .ok (.istore_n 2, 1) := by decide +kernel
theorem dX5_noNotices_119 : decode cX5_noNotices 119 = .ok (.iinc 3 3, 3) := by decide +kernel
theorem dX5_noNotices_122 : decode cX5_noNotices 122 = .ok (.goto (-83), 3) := by decide +kernel
theorem dX5_noNotices_125 : decode cX5_noNotices 125 = .ok (.iload_n 2, 1) := by decide +kernel
theorem dX5_noNotices_126 : decode cX5_noNotices 126 = .ok (.ifCond .eq 7, 3) := by decide +kernel
theorem dX5_noNotices_129 : decode cX5_noNotices 129 = .ok (.iconst 0, 1) := by decide +kernel
theorem dX5_noNotices_130 : decode cX5_noNotices 130 = .ok (.goto 8, 3) := by decide +kernel
theorem dX5_noNotices_133 : decode cX5_noNotices 133 = .ok (.aload_n 0, 1) := by decide +kernel
theorem dX5_noNotices_134 : decode cX5_noNotices 134 = .ok (.iconst 3, 1) := by decide +kernel
theorem dX5_noNotices_135 : decode cX5_noNotices 135 = .ok (.invokevirtual 87, 3) := by decide +kernel
theorem dX5_noNotices_138 : decode cX5_noNotices 138 = .ok (.ireturn, 1) := by decide +kernel
theorem dX5_isNoticed_0 : decode cX5_isNoticed 0 = .ok (.iconst 1, 1) := by decide +kernel
theorem dX5_isNoticed_1 : decode cX5_isNoticed 1 = .ok (.istore 6, 2) := by decide +kernel
theorem dX5_isNoticed_3 : decode cX5_isNoticed 3 = .ok (.bipush 40, 2) := by decide +kernel
theorem dX5_isNoticed_5 : decode cX5_isNoticed 5 = .ok (.iload_n 1, 1) := by decide +kernel
theorem dX5_isNoticed_6 : decode cX5_isNoticed 6 = .ok (.imul, 1) := by decide +kernel
theorem dX5_isNoticed_7 : decode cX5_isNoticed 7 = .ok (.istore 7, 2) := by decide +kernel
theorem dX5_isNoticed_9 : decode cX5_isNoticed 9 = .ok (.iload 7, 2) := by decide +kernel
theorem dX5_isNoticed_11 : decode cX5_isNoticed 11 = .ok (.bipush 40, 2) := by decide +kernel
theorem dX5_isNoticed_13 : decode cX5_isNoticed 13 = .ok (.iload_n 1, 1) := by decide +kernel
theorem dX5_isNoticed_14 : decode cX5_isNoticed 14 = .ok (.imul, 1) := by decide +kernel
theorem dX5_isNoticed_15 : decode cX5_isNoticed 15 = .ok (.aload_n 0, 1) := by decide +kernel
theorem dX5_isNoticed_16 : decode cX5_isNoticed 16 = .ok (.getfield 25, 3) := by decide +kernel
theorem dX5_isNoticed_19 : decode cX5_isNoticed 19 = .ok (.iload_n 1, 1) := by decide +kernel
theorem dX5_isNoticed_20 : decode cX5_isNoticed 20 = .ok (.iaload, 1) := by decide +kernel
theorem dX5_isNoticed_21 : decode cX5_isNoticed 21 = .ok (.iadd, 1) := by decide +kernel
theorem dX5_isNoticed_22 : decode cX5_isNoticed 22 = .ok (.if_icmp .ge 79, 3) := by decide +kernel
theorem dX5_isNoticed_25 : decode cX5_isNoticed 25 = .ok (.iload_n 2, 1) := by decide +kernel
theorem dX5_isNoticed_26 : decode cX5_isNoticed 26 = .ok (.iload_n 3, 1) := by decide +kernel
theorem dX5_isNoticed_27 : decode cX5_isNoticed 27 = .ok (.iload 4, 2) := by decide +kernel
theorem dX5_isNoticed_29 : decode cX5_isNoticed 29 = .ok (.aload_n 0, 1) := by decide +kernel
theorem dX5_isNoticed_30 : decode cX5_isNoticed 30 = .ok (.getfield 28, 3) := by decide +kernel
theorem dX5_isNoticed_33 : decode cX5_isNoticed 33 = .ok (.iload 7, 2) := by decide +kernel
theorem dX5_isNoticed_35 : decode cX5_isNoticed 35 = .ok (.iconst 1, 1) := by decide +kernel
theorem dX5_isNoticed_36 : decode cX5_isNoticed 36 = .ok (.iadd, 1) := by decide +kernel
theorem dX5_isNoticed_37 : decode cX5_isNoticed 37 = .ok (.iaload, 1) := by decide +kernel
theorem dX5_isNoticed_38 : decode cX5_isNoticed 38 = .ok (.iload 5, 2) := by decide +kernel
theorem dX5_isNoticed_40 : decode cX5_isNoticed 40 = .ok (.invokestatic 182, 3) := by decide +kernel
theorem dX5_isNoticed_43 : decode cX5_isNoticed 43 = .ok (.aload_n 0, 1) := by decide +kernel
theorem dX5_isNoticed_44 : decode cX5_isNoticed 44 = .ok (.getfield 28, 3) := by decide +kernel
theorem dX5_isNoticed_47 : decode cX5_isNoticed 47 = .ok (.iload 7, 2) := by decide +kernel
theorem dX5_isNoticed_49 : decode cX5_isNoticed 49 = .ok (.iaload, 1) := by decide +kernel
theorem dX5_isNoticed_50 : decode cX5_isNoticed 50 = .ok (.if_icmp .lt 7, 3) := by decide +kernel
theorem dX5_isNoticed_53 : decode cX5_isNoticed 53 = .ok (.iconst 1, 1) := by decide +kernel
theorem dX5_isNoticed_54 : decode cX5_isNoticed 54 = .ok (.goto 4, 3) := by decide +kernel
theorem dX5_isNoticed_57 : decode cX5_isNoticed 57 = .ok (.iconst 0, 1) := by decide +kernel
theorem dX5_isNoticed_58 : decode cX5_isNoticed 58 = .ok (.istore 8, 2) := by decide +kernel
theorem dX5_isNoticed_60 : decode cX5_isNoticed 60 = .ok (.iload 6, 2) := by decide +kernel
theorem dX5_isNoticed_62 : decode cX5_isNoticed 62 = .ok (.ifCond .eq 30, 3) := by decide +kernel
theorem dX5_isNoticed_65 : decode cX5_isNoticed 65 = .ok (.iload 8, 2) := by decide +kernel
theorem dX5_isNoticed_67 : decode cX5_isNoticed 67 = .ok (.aload_n 0, 1) := by decide +kernel
theorem dX5_isNoticed_68 : decode cX5_isNoticed 68 = .ok (.getfield 28, 3) := by decide +kernel
theorem dX5_isNoticed_71 : decode cX5_isNoticed 71 = .ok (.iload 7, 2) := by decide +kernel
theorem dX5_isNoticed_73 : decode cX5_isNoticed 73 = .ok (.iconst 2, 1) := by decide +kernel
theorem dX5_isNoticed_74 : decode cX5_isNoticed 74 = .ok (.iadd, 1) := by decide +kernel
theorem dX5_isNoticed_75 : decode cX5_isNoticed 75 = .ok (.iaload, 1) := by decide +kernel
theorem dX5_isNoticed_76 : decode cX5_isNoticed 76 = .ok (.iconst 1, 1) := by decide +kernel
theorem dX5_isNoticed_77 : decode cX5_isNoticed 77 = .ok (.if_icmp .ne 7, 3) := by decide +kernel
theorem dX5_isNoticed_80 : decode cX5_isNoticed 80 = .ok (.iconst 1, 1) := by decide +kernel
theorem dX5_isNoticed_81 : decode cX5_isNoticed 81 = .ok (.goto 4, 3) := by decide +kernel
theorem dX5_isNoticed_84 : decode cX5_isNoticed 84 = .ok (.iconst 0, 1) := by decide +kernel
theorem dX5_isNoticed_85 : decode cX5_isNoticed 85 = .ok (.if_icmp .ne 7, 3) := by decide +kernel
theorem dX5_isNoticed_88 : decode cX5_isNoticed 88 = .ok (.iconst 1, 1) := by decide +kernel
theorem dX5_isNoticed_89 : decode cX5_isNoticed 89 = .ok (.goto 4, 3) := by decide +kernel
theorem dX5_isNoticed_92 : decode cX5_isNoticed 92 = .ok (.iconst 0, 1) := by decide +kernel
theorem dX5_isNoticed_93 : decode cX5_isNoticed 93 = .ok (.istore 6, 2) := by decide +kernel
theorem dX5_isNoticed_95 : decode cX5_isNoticed 95 = .ok (.iinc 7 3, 3) := by decide +kernel
theorem dX5_isNoticed_98 : decode cX5_isNoticed 98 = .ok (.goto (-89), 3) := by decide +kernel
theorem dX5_isNoticed_101 : decode cX5_isNoticed 101 = .ok (.iload 6, 2) := by decide +kernel
theorem dX5_isNoticed_103 : decode cX5_isNoticed 103 = .ok (.ireturn, 1) := by decide +kernel
theorem dX5_frights_0 : decode cX5_frights 0 = .ok (.aload_n 0, 1) := by decide +kernel
theorem dX5_frights_1 : decode cX5_frights 1 = .ok (.iload_n 1, 1) := by decide +kernel
theorem dX5_frights_2 : decode cX5_frights 2 = .ok (.invokevirtual 198, 3) := by decide +kernel
theorem dX5_frights_5 : decode cX5_frights 5 = .ok (.ifCond .eq 10, 3) := by decide +kernel
theorem dX5_frights_8 : decode cX5_frights 8 = .ok (.iload_n 2, 1) := by decide +kernel
theorem dX5_frights_9 : decode cX5_frights 9 = .ok (.invokestatic 83, 3) := by decide +kernel
theorem dX5_frights_12 : decode cX5_frights 12 = .ok (.ifCond .ne 5, 3) := by decide +kernel
theorem dX5_frights_15 : decode cX5_frights 15 = .ok (.iconst (-1), 1) := by decide +kernel
theorem dX5_frights_16 : decode cX5_frights 16 = .ok (.ireturn, 1) := by decide +kernel
theorem dX5_frights_17 : decode cX5_frights 17 = .ok (.aload_n 0, 1) := by decide +kernel
theorem dX5_frights_18 : decode cX5_frights 18 = .ok (.iload_n 2, 1) := by decide +kernel
theorem dX5_frights_19 : decode cX5_frights 19 = .ok (.invokevirtual 285, 3) := by decide +kernel
theorem dX5_frights_22 : decode cX5_frights 22 = .ok (.istore_n 3, 1) := by decide +kernel
theorem dX5_frights_23 : decode cX5_frights 23 = .ok (.iload_n 3, 1) := by decide +kernel
theorem dX5_frights_24 : decode cX5_frights 24 = .ok (.ifCond .eq 5, 3) := by decide +kernel
theorem dX5_frights_27 : decode cX5_frights 27 = .ok (.iload_n 3, 1) := by decide +kernel
theorem dX5_frights_28 : decode cX5_frights 28 = .ok (.ireturn, 1) := by decide +kernel
theorem dX5_frights_29 : decode cX5_frights 29 = .ok (.aload_n 0, 1) := by decide +kernel
theorem dX5_frights_30 : decode cX5_frights 30 = .ok (.iload_n 1, 1) := by decide +kernel
theorem dX5_frights_31 : decode cX5_frights 31 = .ok (.aload_n 0, 1) := by decide +kernel
theorem dX5_frights_32 : decode cX5_frights 32 = .ok (.getfield 7, 3) := by decide +kernel
theorem dX5_frights_35 : decode cX5_frights 35 = .ok (.bipush 6, 2) := by decide +kernel
theorem dX5_frights_37 : decode cX5_frights 37 = .ok (.iaload, 1) := by decide +kernel
theorem dX5_frights_38 : decode cX5_frights 38 = .ok (.invokevirtual 179, 3) := by decide +kernel
theorem dX5_frights_41 : decode cX5_frights 41 = .ok (.istore 4, 2) := by decide +kernel
theorem dX5_frights_43 : decode cX5_frights 43 = .ok (.iconst 0, 1) := by decide +kernel
theorem dX5_frights_44 : decode cX5_frights 44 = .ok (.istore 5, 2) := by decide +kernel
theorem dX5_frights_46 : decode cX5_frights 46 = .ok (.aload_n 0, 1) := by decide +kernel
theorem dX5_frights_47 : decode cX5_frights 47 = .ok (.iconst 0, 1) := by decide +kernel
theorem dX5_frights_48 : decode cX5_frights 48 = .ok (.putfield 72, 3) := by decide +kernel
theorem dX5_frights_51 : decode cX5_frights 51 = .ok (.iconst 0, 1) := by decide +kernel
theorem dX5_frights_52 : decode cX5_frights 52 = .ok (.istore 6, 2) := by decide +kernel
theorem dX5_frights_54 : decode cX5_frights 54 = .ok (.iload 6, 2) := by decide +kernel
theorem dX5_frights_56 : decode cX5_frights 56 = .ok (.bipush 10, 2) := by decide +kernel
theorem dX5_frights_58 : decode cX5_frights 58 = .ok (.if_icmp .ge 87, 3) := by decide +kernel
theorem dX5_frights_61 : decode cX5_frights 61 = .ok (.iload 5, 2) := by decide +kernel
theorem dX5_frights_63 : decode cX5_frights 63 = .ok (.aload_n 0, 1) := by decide +kernel
theorem dX5_frights_64 : decode cX5_frights 64 = .ok (.iload_n 2, 1) := by decide +kernel
theorem dX5_frights_65 : decode cX5_frights 65 = .ok (.aload_n 0, 1) := by decide +kernel
theorem dX5_frights_66 : decode cX5_frights 66 = .ok (.getfield 16, 3) := by decide +kernel
theorem dX5_frights_69 : decode cX5_frights 69 = .ok (.iload_n 1, 1) := by decide +kernel
theorem dX5_frights_70 : decode cX5_frights 70 = .ok (.iaload, 1) := by decide +kernel
theorem dX5_frights_71 : decode cX5_frights 71 = .ok (.aload_n 0, 1) := by decide +kernel
theorem dX5_frights_72 : decode cX5_frights 72 = .ok (.getfield 19, 3) := by decide +kernel
theorem dX5_frights_75 : decode cX5_frights 75 = .ok (.iload_n 1, 1) := by decide +kernel
theorem dX5_frights_76 : decode cX5_frights 76 = .ok (.iaload, 1) := by decide +kernel
theorem dX5_frights_77 : decode cX5_frights 77 = .ok (.iload 6, 2) := by decide +kernel
theorem dX5_frights_79 : decode cX5_frights 79 = .ok (.iload 4, 2) := by decide +kernel
theorem dX5_frights_81 : decode cX5_frights 81 = .ok (.invokevirtual 288, 3) := by decide +kernel
theorem dX5_frights_84 : decode cX5_frights 84 = .ok (.ifCond .eq 10, 3) := by decide +kernel
theorem dX5_frights_87 : decode cX5_frights 87 = .ok (.iconst 1, 1) := by decide +kernel
theorem dX5_frights_88 : decode cX5_frights 88 = .ok (.iload 6, 2) := by decide +kernel
theorem dX5_frights_90 : decode cX5_frights 90 = .ok (.ishl, 1) := by decide +kernel
theorem dX5_frights_91 : decode cX5_frights 91 = .ok (.goto 4, 3) := by decide +kernel
theorem dX5_frights_94 : decode cX5_frights 94 = .ok (.iconst 0, 1) := by decide +kernel
theorem dX5_frights_95 : decode cX5_frights 95 = .ok (.ior, 1) := by decide +kernel
theorem dX5_frights_96 : decode cX5_frights 96 = .ok (.istore 5, 2) := by decide +kernel
theorem dX5_frights_98 : decode cX5_frights 98 = .ok (.aload_n 0, 1) := by decide +kernel
theorem dX5_frights_99 : decode cX5_frights 99 = .ok (.dup, 1) := by decide +kernel
theorem dX5_frights_100 : decode cX5_frights 100 = .ok (.getfield 72, 3) := by decide +kernel
theorem dX5_frights_103 : decode cX5_frights 103 = .ok (.aload_n 0, 1) := by decide +kernel
theorem dX5_frights_104 : decode cX5_frights 104 = .ok (.iload_n 2, 1) := by decide +kernel
theorem dX5_frights_105 : decode cX5_frights 105 = .ok (.aload_n 0, 1) := by decide +kernel
theorem dX5_frights_106 : decode cX5_frights 106 = .ok (.getfield 16, 3) := by decide +kernel
theorem dX5_frights_109 : decode cX5_frights 109 = .ok (.iload_n 1, 1) := by decide +kernel
theorem dX5_frights_110 : decode cX5_frights 110 = .ok (.iaload, 1) := by decide +kernel
theorem dX5_frights_111 : decode cX5_frights 111 = .ok (.iload 6, 2) := by decide +kernel
theorem dX5_frights_113 : decode cX5_frights 113 = .ok (.aload_n 0, 1) := by decide +kernel
theorem dX5_frights_114 : decode cX5_frights 114 = .ok (.getfield 22, 3) := by decide +kernel
theorem dX5_frights_117 : decode cX5_frights 117 = .ok (.iload_n 1, 1) := by decide +kernel
theorem dX5_frights_118 : decode cX5_frights 118 = .ok (.iaload, 1) := by decide +kernel
theorem dX5_frights_119 : decode cX5_frights 119 = .ok (.iload 4, 2) := by decide +kernel
theorem dX5_frights_121 : decode cX5_frights 121 = .ok (.invokevirtual 288, 3) := by decide +kernel
theorem dX5_frights_124 : decode cX5_frights 124 = .ok (.ifCond .eq 10, 3) := by decide +kernel
theorem dX5_frights_127 : decode cX5_frights 127 = .ok (.iconst 1, 1) := by decide +kernel
theorem dX5_frights_128 : decode cX5_frights 128 = .ok (.iload 6, 2) := by decide +kernel
theorem dX5_frights_130 : decode cX5_frights 130 = .ok (.ishl, 1) := by decide +kernel
theorem dX5_frights_131 : decode cX5_frights 131 = .ok (.goto 4, 3) := by decide +kernel
theorem dX5_frights_134 : decode cX5_frights 134 = .ok (.iconst 0, 1) := by decide +kernel
theorem dX5_frights_135 : decode cX5_frights 135 = .ok (.ior, 1) := by decide +kernel
theorem dX5_frights_136 : decode cX5_frights 136 = .ok (.putfield 72, 3) := by decide +kernel
theorem dX5_frights_139 : decode cX5_frights 139 = .ok (.iinc 6 1, 3) := by decide +kernel
theorem dX5_frights_142 : decode cX5_frights 142 = .ok (.goto (-88), 3) := by decide +kernel
theorem dX5_frights_145 : decode cX5_frights 145 = .ok (.iload 5, 2) := by decide +kernel
theorem dX5_frights_147 : decode cX5_frights 147 = .ok (.ireturn, 1) := by decide +kernel
theorem dX5_kinds_0 : decode cX5_kinds 0 = .ok (.aload_n 0, 1) := by decide +kernel
theorem dX5_kinds_1 : decode cX5_kinds 1 = .ok (.iload_n 1, 1) := by decide +kernel
theorem dX5_kinds_2 : decode cX5_kinds 2 = .ok (.invokevirtual 198, 3) := by decide +kernel
theorem dX5_kinds_5 : decode cX5_kinds 5 = .ok (.ifCond .eq 10, 3) := by decide +kernel
theorem dX5_kinds_8 : decode cX5_kinds 8 = .ok (.iload_n 2, 1) := by decide +kernel
theorem dX5_kinds_9 : decode cX5_kinds 9 = .ok (.invokestatic 83, 3) := by decide +kernel
theorem dX5_kinds_12 : decode cX5_kinds 12 = .ok (.ifCond .ne 5, 3) := by decide +kernel
theorem dX5_kinds_15 : decode cX5_kinds 15 = .ok (.iconst (-1), 1) := by decide +kernel
theorem dX5_kinds_16 : decode cX5_kinds 16 = .ok (.ireturn, 1) := by decide +kernel
theorem dX5_kinds_17 : decode cX5_kinds 17 = .ok (.aload_n 0, 1) := by decide +kernel
theorem dX5_kinds_18 : decode cX5_kinds 18 = .ok (.iload_n 2, 1) := by decide +kernel
theorem dX5_kinds_19 : decode cX5_kinds 19 = .ok (.invokevirtual 285, 3) := by decide +kernel
theorem dX5_kinds_22 : decode cX5_kinds 22 = .ok (.istore_n 3, 1) := by decide +kernel
theorem dX5_kinds_23 : decode cX5_kinds 23 = .ok (.iload_n 3, 1) := by decide +kernel
theorem dX5_kinds_24 : decode cX5_kinds 24 = .ok (.ifCond .eq 5, 3) := by decide +kernel
theorem dX5_kinds_27 : decode cX5_kinds 27 = .ok (.iload_n 3, 1) := by decide +kernel
theorem dX5_kinds_28 : decode cX5_kinds 28 = .ok (.ireturn, 1) := by decide +kernel
theorem dX5_kinds_29 : decode cX5_kinds 29 = .ok (.iconst 0, 1) := by decide +kernel
theorem dX5_kinds_30 : decode cX5_kinds 30 = .ok (.istore 4, 2) := by decide +kernel
theorem dX5_kinds_32 : decode cX5_kinds 32 = .ok (.iconst 0, 1) := by decide +kernel
theorem dX5_kinds_33 : decode cX5_kinds 33 = .ok (.istore 5, 2) := by decide +kernel
theorem dX5_kinds_35 : decode cX5_kinds 35 = .ok (.iload 5, 2) := by decide +kernel
theorem dX5_kinds_37 : decode cX5_kinds 37 = .ok (.bipush 6, 2) := by decide +kernel
theorem dX5_kinds_39 : decode cX5_kinds 39 = .ok (.if_icmp .ge 56, 3) := by decide +kernel
theorem dX5_kinds_42 : decode cX5_kinds 42 = .ok (.iload 4, 2) := by decide +kernel
theorem dX5_kinds_44 : decode cX5_kinds 44 = .ok (.aload_n 0, 1) := by decide +kernel
theorem dX5_kinds_45 : decode cX5_kinds 45 = .ok (.iload_n 2, 1) := by decide +kernel
theorem dX5_kinds_46 : decode cX5_kinds 46 = .ok (.iload 5, 2) := by decide +kernel
theorem dX5_kinds_48 : decode cX5_kinds 48 = .ok (.aload_n 0, 1) := by decide +kernel
theorem dX5_kinds_49 : decode cX5_kinds 49 = .ok (.getfield 19, 3) := by decide +kernel
theorem dX5_kinds_52 : decode cX5_kinds 52 = .ok (.iload_n 1, 1) := by decide +kernel
theorem dX5_kinds_53 : decode cX5_kinds 53 = .ok (.iaload, 1) := by decide +kernel
theorem dX5_kinds_54 : decode cX5_kinds 54 = .ok (.aload_n 0, 1) := by decide +kernel
theorem dX5_kinds_55 : decode cX5_kinds 55 = .ok (.getfield 22, 3) := by decide +kernel
theorem dX5_kinds_58 : decode cX5_kinds 58 = .ok (.iload_n 1, 1) := by decide +kernel
theorem dX5_kinds_59 : decode cX5_kinds 59 = .ok (.iaload, 1) := by decide +kernel
theorem dX5_kinds_60 : decode cX5_kinds 60 = .ok (.aload_n 0, 1) := by decide +kernel
theorem dX5_kinds_61 : decode cX5_kinds 61 = .ok (.iload_n 1, 1) := by decide +kernel
theorem dX5_kinds_62 : decode cX5_kinds 62 = .ok (.aload_n 0, 1) := by decide +kernel
theorem dX5_kinds_63 : decode cX5_kinds 63 = .ok (.getfield 7, 3) := by decide +kernel
theorem dX5_kinds_66 : decode cX5_kinds 66 = .ok (.bipush 6, 2) := by decide +kernel
theorem dX5_kinds_68 : decode cX5_kinds 68 = .ok (.iaload, 1) := by decide +kernel
theorem dX5_kinds_69 : decode cX5_kinds 69 = .ok (.invokevirtual 179, 3) := by decide +kernel
theorem dX5_kinds_72 : decode cX5_kinds 72 = .ok (.invokevirtual 288, 3) := by decide +kernel
theorem dX5_kinds_75 : decode cX5_kinds 75 = .ok (.ifCond .eq 10, 3) := by decide +kernel
theorem dX5_kinds_78 : decode cX5_kinds 78 = .ok (.iconst 1, 1) := by decide +kernel
theorem dX5_kinds_79 : decode cX5_kinds 79 = .ok (.iload 5, 2) := by decide +kernel
theorem dX5_kinds_81 : decode cX5_kinds 81 = .ok (.ishl, 1) := by decide +kernel
theorem dX5_kinds_82 : decode cX5_kinds 82 = .ok (.goto 4, 3) := by decide +kernel
theorem dX5_kinds_85 : decode cX5_kinds 85 = .ok (.iconst 0, 1) := by decide +kernel
theorem dX5_kinds_86 : decode cX5_kinds 86 = .ok (.ior, 1) := by decide +kernel
theorem dX5_kinds_87 : decode cX5_kinds 87 = .ok (.istore 4, 2) := by decide +kernel
theorem dX5_kinds_89 : decode cX5_kinds 89 = .ok (.iinc 5 1, 3) := by decide +kernel
theorem dX5_kinds_92 : decode cX5_kinds 92 = .ok (.goto (-57), 3) := by decide +kernel
theorem dX5_kinds_95 : decode cX5_kinds 95 = .ok (.iload 4, 2) := by decide +kernel
theorem dX5_kinds_97 : decode cX5_kinds 97 = .ok (.ireturn, 1) := by decide +kernel
theorem dX5_whom_0 : decode cX5_whom 0 = .ok (.iload_n 1, 1) := by decide +kernel
theorem dX5_whom_1 : decode cX5_whom 1 = .ok (.i2l, 1) := by decide +kernel
theorem dX5_whom_2 : decode cX5_whom 2 = .ok (.lconst 0, 1) := by decide +kernel
theorem dX5_whom_3 : decode cX5_whom 3 = .ok (.ldc2_w 279, 3) := by decide +kernel
theorem dX5_whom_6 : decode cX5_whom 6 = .ok (.invokestatic 77, 3) := by decide +kernel
theorem dX5_whom_9 : decode cX5_whom 9 = .ok (.ifCond .ne 5, 3) := by decide +kernel
theorem dX5_whom_12 : decode cX5_whom 12 = .ok (.iconst (-1), 1) := by decide +kernel
theorem dX5_whom_13 : decode cX5_whom 13 = .ok (.ireturn, 1) := by decide +kernel
theorem dX5_whom_14 : decode cX5_whom 14 = .ok (.aload_n 0, 1) := by decide +kernel
theorem dX5_whom_15 : decode cX5_whom 15 = .ok (.invokevirtual 222, 3) := by decide +kernel
theorem dX5_whom_18 : decode cX5_whom 18 = .ok (.ifCond .eq 6, 3) := by decide +kernel
theorem dX5_whom_21 : decode cX5_whom 21 = .ok (.bipush (-4), 2) := by decide +kernel
theorem dX5_whom_23 : decode cX5_whom 23 = .ok (.ireturn, 1) := by decide +kernel
theorem dX5_whom_24 : decode cX5_whom 24 = .ok (.iconst 0, 1) := by decide +kernel
theorem dX5_whom_25 : decode cX5_whom 25 = .ok (.istore_n 2, 1) := by decide +kernel
theorem dX5_whom_26 : decode cX5_whom 26 = .ok (.iconst 0, 1) := by decide +kernel
theorem dX5_whom_27 : decode cX5_whom 27 = .ok (.istore_n 3, 1) := by decide +kernel
theorem dX5_whom_28 : decode cX5_whom 28 = .ok (.iconst 0, 1) := by decide +kernel
theorem dX5_whom_29 : decode cX5_whom 29 = .ok (.istore 4, 2) := by decide +kernel
theorem dX5_whom_31 : decode cX5_whom 31 = .ok (.iload 4, 2) := by decide +kernel
theorem dX5_whom_33 : decode cX5_whom 33 = .ok (.aload_n 0, 1) := by decide +kernel
theorem dX5_whom_34 : decode cX5_whom 34 = .ok (.getfield 163, 3) := by decide +kernel
theorem dX5_whom_37 : decode cX5_whom 37 = .ok (.if_icmp .ge 76, 3) := by decide +kernel
theorem dX5_whom_40 : decode cX5_whom 40 = .ok (.aload_n 0, 1) := by decide +kernel
theorem dX5_whom_41 : decode cX5_whom 41 = .ok (.iload 4, 2) := by decide +kernel
theorem dX5_whom_43 : decode cX5_whom 43 = .ok (.aload_n 0, 1) := by decide +kernel
theorem dX5_whom_44 : decode cX5_whom 44 = .ok (.getfield 7, 3) := by decide +kernel
theorem dX5_whom_47 : decode cX5_whom 47 = .ok (.bipush 6, 2) := by decide +kernel
theorem dX5_whom_49 : decode cX5_whom 49 = .ok (.iaload, 1) := by decide +kernel
theorem dX5_whom_50 : decode cX5_whom 50 = .ok (.invokevirtual 195, 3) := by decide +kernel
theorem dX5_whom_53 : decode cX5_whom 53 = .ok (.ifCond .eq 54, 3) := by decide +kernel
theorem dX5_whom_56 : decode cX5_whom 56 = .ok (.aload_n 0, 1) := by decide +kernel
theorem dX5_whom_57 : decode cX5_whom 57 = .ok (.iload 4, 2) := by decide +kernel
theorem dX5_whom_59 : decode cX5_whom 59 = .ok (.aload_n 0, 1) := by decide +kernel
theorem dX5_whom_60 : decode cX5_whom 60 = .ok (.getfield 7, 3) := by decide +kernel
theorem dX5_whom_63 : decode cX5_whom 63 = .ok (.iconst 1, 1) := by decide +kernel
theorem dX5_whom_64 : decode cX5_whom 64 = .ok (.iaload, 1) := by decide +kernel
theorem dX5_whom_65 : decode cX5_whom 65 = .ok (.aload_n 0, 1) := by decide +kernel
theorem dX5_whom_66 : decode cX5_whom 66 = .ok (.getfield 7, 3) := by decide +kernel
theorem dX5_whom_69 : decode cX5_whom 69 = .ok (.iconst 4, 1) := by decide +kernel
theorem dX5_whom_70 : decode cX5_whom 70 = .ok (.iaload, 1) := by decide +kernel
theorem dX5_whom_71 : decode cX5_whom 71 = .ok (.aload_n 0, 1) := by decide +kernel
theorem dX5_whom_72 : decode cX5_whom 72 = .ok (.getfield 7, 3) := by decide +kernel
theorem dX5_whom_75 : decode cX5_whom 75 = .ok (.bipush 6, 2) := by decide +kernel
theorem dX5_whom_77 : decode cX5_whom 77 = .ok (.iaload, 1) := by decide +kernel
theorem dX5_whom_78 : decode cX5_whom 78 = .ok (.invokevirtual 218, 3) := by decide +kernel
theorem dX5_whom_81 : decode cX5_whom 81 = .ok (.istore 5, 2) := by decide +kernel
theorem dX5_whom_83 : decode cX5_whom 83 = .ok (.iload_n 2, 1) := by decide +kernel
theorem dX5_whom_84 : decode cX5_whom 84 = .ok (.iload 5, 2) := by decide +kernel
theorem dX5_whom_86 : decode cX5_whom 86 = .ok (.iload_n 1, 1) := by decide +kernel
theorem dX5_whom_87 : decode cX5_whom 87 = .ok (.if_icmp .ne 10, 3) := by decide +kernel
theorem dX5_whom_90 : decode cX5_whom 90 = .ok (.iconst 1, 1) := by decide +kernel
theorem dX5_whom_91 : decode cX5_whom 91 = .ok (.iload 4, 2) := by decide +kernel
theorem dX5_whom_93 : decode cX5_whom 93 = .ok (.ishl, 1) := by decide +kernel
theorem dX5_whom_94 : decode cX5_whom 94 = .ok (.goto 4, 3) := by decide +kernel
theorem dX5_whom_97 : decode cX5_whom 97 = .ok (.iconst 0, 1) := by decide +kernel
theorem dX5_whom_98 : decode cX5_whom 98 = .ok (.ior, 1) := by decide +kernel
theorem dX5_whom_99 : decode cX5_whom 99 = .ok (.istore_n 2, 1) := by decide +kernel
theorem dX5_whom_100 : decode cX5_whom 100 = .ok (.iload_n 3, 1) := by decide +kernel
theorem dX5_whom_101 : decode cX5_whom 101 = .ok (.iconst 1, 1) := by decide +kernel
theorem dX5_whom_102 : decode cX5_whom 102 = .ok (.iload 5, 2) := by decide +kernel
theorem dX5_whom_104 : decode cX5_whom 104 = .ok (.ishl, 1) := by decide +kernel
theorem dX5_whom_105 : decode cX5_whom 105 = .ok (.ior, 1) := by decide +kernel
theorem dX5_whom_106 : decode cX5_whom 106 = .ok (.istore_n 3, 1) := by decide +kernel
theorem dX5_whom_107 : decode cX5_whom 107 = .ok (.iinc 4 1, 3) := by decide +kernel
theorem dX5_whom_110 : decode cX5_whom 110 = .ok (.goto (-79), 3) := by decide +kernel
theorem dX5_whom_113 : decode cX5_whom 113 = .ok (.aload_n 0, 1) := by decide +kernel
theorem dX5_whom_114 : decode cX5_whom 114 = .ok (.iload_n 3, 1) := by decide +kernel
theorem dX5_whom_115 : decode cX5_whom 115 = .ok (.invokestatic 237, 3) := by decide +kernel
theorem dX5_whom_118 : decode cX5_whom 118 = .ok (.putfield 72, 3) := by decide +kernel
theorem dX5_whom_121 : decode cX5_whom 121 = .ok (.iload_n 2, 1) := by decide +kernel
theorem dX5_whom_122 : decode cX5_whom 122 = .ok (.ireturn, 1) := by decide +kernel
theorem dX5_beginTurn_0 : decode cX5_beginTurn 0 = .ok (.aload_n 0, 1) := by decide +kernel
theorem dX5_beginTurn_1 : decode cX5_beginTurn 1 = .ok (.getfield 62, 3) := by decide +kernel
theorem dX5_beginTurn_4 : decode cX5_beginTurn 4 = .ok (.iload_n 1, 1) := by decide +kernel
theorem dX5_beginTurn_5 : decode cX5_beginTurn 5 = .ok (.iconst 0, 1) := by decide +kernel
theorem dX5_beginTurn_6 : decode cX5_beginTurn 6 = .ok (.iastore, 1) := by decide +kernel
theorem dX5_beginTurn_7 : decode cX5_beginTurn 7 = .ok (.aload_n 0, 1) := by decide +kernel
theorem dX5_beginTurn_8 : decode cX5_beginTurn 8 = .ok (.getfield 65, 3) := by decide +kernel
theorem dX5_beginTurn_11 : decode cX5_beginTurn 11 = .ok (.iload_n 1, 1) := by decide +kernel
theorem dX5_beginTurn_12 : decode cX5_beginTurn 12 = .ok (.bipush (-9), 2) := by decide +kernel
theorem dX5_beginTurn_14 : decode cX5_beginTurn 14 = .ok (.iastore, 1) := by decide +kernel
theorem dX5_beginTurn_15 : decode cX5_beginTurn 15 = .ok (.return_, 1) := by decide +kernel
theorem dX5_take_0 : decode cX5_take 0 = .ok (.aload_n 0, 1) := by decide +kernel
theorem dX5_take_1 : decode cX5_take 1 = .ok (.getfield 65, 3) := by decide +kernel
theorem dX5_take_4 : decode cX5_take 4 = .ok (.iload_n 1, 1) := by decide +kernel
theorem dX5_take_5 : decode cX5_take 5 = .ok (.iaload, 1) := by decide +kernel
theorem dX5_take_6 : decode cX5_take 6 = .ok (.bipush (-9), 2) := by decide +kernel
theorem dX5_take_8 : decode cX5_take 8 = .ok (.if_icmp .eq 32, 3) := by decide +kernel
theorem dX5_take_11 : decode cX5_take 11 = .ok (.iload_n 1, 1) := by decide +kernel
theorem dX5_take_12 : decode cX5_take 12 = .ok (.iconst 2, 1) := by decide +kernel
theorem dX5_take_13 : decode cX5_take 13 = .ok (.irem, 1) := by decide +kernel
theorem dX5_take_14 : decode cX5_take 14 = .ok (.ifCond .ne 16, 3) := by decide +kernel
theorem dX5_take_17 : decode cX5_take 17 = .ok (.iload_n 2, 1) := by decide +kernel
theorem dX5_take_18 : decode cX5_take 18 = .ok (.aload_n 0, 1) := by decide +kernel
theorem dX5_take_19 : decode cX5_take 19 = .ok (.getfield 65, 3) := by decide +kernel
theorem dX5_take_22 : decode cX5_take 22 = .ok (.iload_n 1, 1) := by decide +kernel
theorem dX5_take_23 : decode cX5_take 23 = .ok (.iaload, 1) := by decide +kernel
theorem dX5_take_24 : decode cX5_take 24 = .ok (.if_icmp .le 20, 3) := by decide +kernel
theorem dX5_take_27 : decode cX5_take 27 = .ok (.goto 13, 3) := by decide +kernel
theorem dX5_take_30 : decode cX5_take 30 = .ok (.iload_n 2, 1) := by decide +kernel
theorem dX5_take_31 : decode cX5_take 31 = .ok (.aload_n 0, 1) := by decide +kernel
theorem dX5_take_32 : decode cX5_take 32 = .ok (.getfield 65, 3) := by decide +kernel
theorem dX5_take_35 : decode cX5_take 35 = .ok (.iload_n 1, 1) := by decide +kernel
theorem dX5_take_36 : decode cX5_take 36 = .ok (.iaload, 1) := by decide +kernel
theorem dX5_take_37 : decode cX5_take 37 = .ok (.if_icmp .ge 7, 3) := by decide +kernel
theorem dX5_take_40 : decode cX5_take 40 = .ok (.iconst 1, 1) := by decide +kernel
theorem dX5_take_41 : decode cX5_take 41 = .ok (.goto 4, 3) := by decide +kernel
theorem dX5_take_44 : decode cX5_take 44 = .ok (.iconst 0, 1) := by decide +kernel
theorem dX5_take_45 : decode cX5_take 45 = .ok (.istore_n 3, 1) := by decide +kernel
theorem dX5_take_46 : decode cX5_take 46 = .ok (.aload_n 0, 1) := by decide +kernel
theorem dX5_take_47 : decode cX5_take 47 = .ok (.getfield 65, 3) := by decide +kernel
theorem dX5_take_50 : decode cX5_take 50 = .ok (.iload_n 1, 1) := by decide +kernel
theorem dX5_take_51 : decode cX5_take 51 = .ok (.iload_n 3, 1) := by decide +kernel
theorem dX5_take_52 : decode cX5_take 52 = .ok (.ifCond .eq 7, 3) := by decide +kernel
theorem dX5_take_55 : decode cX5_take 55 = .ok (.iload_n 2, 1) := by decide +kernel
theorem dX5_take_56 : decode cX5_take 56 = .ok (.goto 9, 3) := by decide +kernel
theorem dX5_take_59 : decode cX5_take 59 = .ok (.aload_n 0, 1) := by decide +kernel
theorem dX5_take_60 : decode cX5_take 60 = .ok (.getfield 65, 3) := by decide +kernel
theorem dX5_take_63 : decode cX5_take 63 = .ok (.iload_n 1, 1) := by decide +kernel
theorem dX5_take_64 : decode cX5_take 64 = .ok (.iaload, 1) := by decide +kernel
theorem dX5_take_65 : decode cX5_take 65 = .ok (.iastore, 1) := by decide +kernel
theorem dX5_take_66 : decode cX5_take 66 = .ok (.return_, 1) := by decide +kernel
theorem dX5_duel_0 : decode cX5_duel 0 = .ok (.iload_n 1, 1) := by decide +kernel
theorem dX5_duel_1 : decode cX5_duel 1 = .ok (.i2l, 1) := by decide +kernel
theorem dX5_duel_2 : decode cX5_duel 2 = .ok (.lconst 0, 1) := by decide +kernel
theorem dX5_duel_3 : decode cX5_duel 3 = .ok (.ldc2_w 292, 3) := by decide +kernel
theorem dX5_duel_6 : decode cX5_duel 6 = .ok (.invokestatic 77, 3) := by decide +kernel
theorem dX5_duel_9 : decode cX5_duel 9 = .ok (.ifCond .ne 5, 3) := by decide +kernel
theorem dX5_duel_12 : decode cX5_duel 12 = .ok (.iconst (-1), 1) := by decide +kernel
theorem dX5_duel_13 : decode cX5_duel 13 = .ok (.ireturn, 1) := by decide +kernel
theorem dX5_duel_14 : decode cX5_duel 14 = .ok (.aload_n 0, 1) := by decide +kernel
theorem dX5_duel_15 : decode cX5_duel 15 = .ok (.getfield 163, 3) := by decide +kernel
theorem dX5_duel_18 : decode cX5_duel 18 = .ok (.ifCond .ne 6, 3) := by decide +kernel
theorem dX5_duel_21 : decode cX5_duel 21 = .ok (.bipush (-4), 2) := by decide +kernel
theorem dX5_duel_23 : decode cX5_duel 23 = .ok (.ireturn, 1) := by decide +kernel
theorem dX5_duel_24 : decode cX5_duel 24 = .ok (.aload_n 0, 1) := by decide +kernel
theorem dX5_duel_25 : decode cX5_duel 25 = .ok (.aload_n 0, 1) := by decide +kernel
theorem dX5_duel_26 : decode cX5_duel 26 = .ok (.getfield 7, 3) := by decide +kernel
theorem dX5_duel_29 : decode cX5_duel 29 = .ok (.iconst 2, 1) := by decide +kernel
theorem dX5_duel_30 : decode cX5_duel 30 = .ok (.iaload, 1) := by decide +kernel
theorem dX5_duel_31 : decode cX5_duel 31 = .ok (.invokevirtual 258, 3) := by decide +kernel
theorem dX5_duel_34 : decode cX5_duel 34 = .ok (.iload_n 1, 1) := by decide +kernel
theorem dX5_duel_35 : decode cX5_duel 35 = .ok (.aload_n 0, 1) := by decide +kernel
theorem dX5_duel_36 : decode cX5_duel 36 = .ok (.getfield 245, 3) := by decide +kernel
theorem dX5_duel_39 : decode cX5_duel 39 = .ok (.if_icmp .ge 7, 3) := by decide +kernel
theorem dX5_duel_42 : decode cX5_duel 42 = .ok (.iload_n 1, 1) := by decide +kernel
theorem dX5_duel_43 : decode cX5_duel 43 = .ok (.goto 7, 3) := by decide +kernel
theorem dX5_duel_46 : decode cX5_duel 46 = .ok (.aload_n 0, 1) := by decide +kernel
theorem dX5_duel_47 : decode cX5_duel 47 = .ok (.getfield 245, 3) := by decide +kernel
theorem dX5_duel_50 : decode cX5_duel 50 = .ok (.istore_n 2, 1) := by decide +kernel
theorem dX5_duel_51 : decode cX5_duel 51 = .ok (.iconst 0, 1) := by decide +kernel
theorem dX5_duel_52 : decode cX5_duel 52 = .ok (.istore_n 3, 1) := by decide +kernel
theorem dX5_duel_53 : decode cX5_duel 53 = .ok (.aload_n 0, 1) := by decide +kernel
theorem dX5_duel_54 : decode cX5_duel 54 = .ok (.iconst 0, 1) := by decide +kernel
theorem dX5_duel_55 : decode cX5_duel 55 = .ok (.invokevirtual 294, 3) := by decide +kernel
theorem dX5_duel_58 : decode cX5_duel 58 = .ok (.iload_n 3, 1) := by decide +kernel
theorem dX5_duel_59 : decode cX5_duel 59 = .ok (.ifCond .lt 158, 3) := by decide +kernel
theorem dX5_duel_62 : decode cX5_duel 62 = .ok (.iload_n 3, 1) := by decide +kernel
theorem dX5_duel_63 : decode cX5_duel 63 = .ok (.iload_n 2, 1) := by decide +kernel
theorem dX5_duel_64 : decode cX5_duel 64 = .ok (.if_icmp .ne 12, 3) := by decide +kernel
theorem dX5_duel_67 : decode cX5_duel 67 = .ok (.aload_n 0, 1) := by decide +kernel
theorem dX5_duel_68 : decode cX5_duel 68 = .ok (.getfield 163, 3) := by decide +kernel
theorem dX5_duel_71 : decode cX5_duel 71 = .ok (.iconst 1, 1) := by decide +kernel
theorem dX5_duel_72 : decode cX5_duel 72 = .ok (.iadd, 1) := by decide +kernel
theorem dX5_duel_73 : decode cX5_duel 73 = .ok (.goto 16, 3) := by decide +kernel
theorem dX5_duel_76 : decode cX5_duel 76 = .ok (.aload_n 0, 1) := by decide +kernel
theorem dX5_duel_77 : decode cX5_duel 77 = .ok (.iload_n 3, 1) := by decide +kernel
theorem dX5_duel_78 : decode cX5_duel 78 = .ok (.aload_n 0, 1) := by decide +kernel
theorem dX5_duel_79 : decode cX5_duel 79 = .ok (.getfield 62, 3) := by decide +kernel
theorem dX5_duel_82 : decode cX5_duel 82 = .ok (.iload_n 3, 1) := by decide +kernel
theorem dX5_duel_83 : decode cX5_duel 83 = .ok (.iaload, 1) := by decide +kernel
theorem dX5_duel_84 : decode cX5_duel 84 = .ok (.iconst 1, 1) := by decide +kernel
theorem dX5_duel_85 : decode cX5_duel 85 = .ok (.iadd, 1) := by decide +kernel
theorem dX5_duel_86 : decode cX5_duel 86 = .ok (.invokevirtual 252, 3) := by decide +kernel
theorem dX5_duel_89 : decode cX5_duel 89 = .ok (.istore 4, 2) := by decide +kernel
theorem dX5_duel_91 : decode cX5_duel 91 = .ok (.iload 4, 2) := by decide +kernel
theorem dX5_duel_93 : decode cX5_duel 93 = .ok (.aload_n 0, 1) := by decide +kernel
theorem dX5_duel_94 : decode cX5_duel 94 = .ok (.getfield 163, 3) := by decide +kernel
theorem dX5_duel_97 : decode cX5_duel 97 = .ok (.if_icmp .le 46, 3) := by decide +kernel
theorem dX5_duel_100 : decode cX5_duel 100 = .ok (.aload_n 0, 1) := by decide +kernel
theorem dX5_duel_101 : decode cX5_duel 101 = .ok (.getfield 65, 3) := by decide +kernel
theorem dX5_duel_104 : decode cX5_duel 104 = .ok (.iload_n 3, 1) := by decide +kernel
theorem dX5_duel_105 : decode cX5_duel 105 = .ok (.iaload, 1) := by decide +kernel
theorem dX5_duel_106 : decode cX5_duel 106 = .ok (.bipush (-9), 2) := by decide +kernel
theorem dX5_duel_108 : decode cX5_duel 108 = .ok (.if_icmp .ne 35, 3) := by decide +kernel
theorem dX5_duel_111 : decode cX5_duel 111 = .ok (.iload_n 3, 1) := by decide +kernel
theorem dX5_duel_112 : decode cX5_duel 112 = .ok (.iload_n 2, 1) := by decide +kernel
theorem dX5_duel_113 : decode cX5_duel 113 = .ok (.if_icmp .ge 30, 3) := by decide +kernel
theorem dX5_duel_116 : decode cX5_duel 116 = .ok (.aload_n 0, 1) := by decide +kernel
theorem dX5_duel_117 : decode cX5_duel 117 = .ok (.iload_n 3, 1) := by decide +kernel
theorem dX5_duel_118 : decode cX5_duel 118 = .ok (.iconst 0, 1) := by decide +kernel
theorem dX5_duel_119 : decode cX5_duel 119 = .ok (.invokevirtual 255, 3) := by decide +kernel
theorem dX5_duel_122 : decode cX5_duel 122 = .ok (.aload_n 0, 1) := by decide +kernel
theorem dX5_duel_123 : decode cX5_duel 123 = .ok (.getfield 62, 3) := by decide +kernel
theorem dX5_duel_126 : decode cX5_duel 126 = .ok (.iload_n 3, 1) := by decide +kernel
theorem dX5_duel_127 : decode cX5_duel 127 = .ok (.aload_n 0, 1) := by decide +kernel
theorem dX5_duel_128 : decode cX5_duel 128 = .ok (.getfield 163, 3) := by decide +kernel
theorem dX5_duel_131 : decode cX5_duel 131 = .ok (.iastore, 1) := by decide +kernel
theorem dX5_duel_132 : decode cX5_duel 132 = .ok (.iinc 3 1, 3) := by decide +kernel
theorem dX5_duel_135 : decode cX5_duel 135 = .ok (.aload_n 0, 1) := by decide +kernel
theorem dX5_duel_136 : decode cX5_duel 136 = .ok (.iload_n 3, 1) := by decide +kernel
theorem dX5_duel_137 : decode cX5_duel 137 = .ok (.invokevirtual 294, 3) := by decide +kernel
theorem dX5_duel_140 : decode cX5_duel 140 = .ok (.goto 74, 3) := by decide +kernel
theorem dX5_duel_143 : decode cX5_duel 143 = .ok (.iload 4, 2) := by decide +kernel
theorem dX5_duel_145 : decode cX5_duel 145 = .ok (.aload_n 0, 1) := by decide +kernel
theorem dX5_duel_146 : decode cX5_duel 146 = .ok (.getfield 163, 3) := by decide +kernel
theorem dX5_duel_149 : decode cX5_duel 149 = .ok (.if_icmp .le 50, 3) := by decide +kernel
theorem dX5_duel_152 : decode cX5_duel 152 = .ok (.iload_n 3, 1) := by decide +kernel
theorem dX5_duel_153 : decode cX5_duel 153 = .ok (.iload_n 2, 1) := by decide +kernel
theorem dX5_duel_154 : decode cX5_duel 154 = .ok (.if_icmp .ne 12, 3) := by decide +kernel
theorem dX5_duel_157 : decode cX5_duel 157 = .ok (.aload_n 0, 1) := by decide +kernel
theorem dX5_duel_158 : decode cX5_duel 158 = .ok (.getfield 56, 3) := by decide +kernel
theorem dX5_duel_161 : decode cX5_duel 161 = .ok (.iload_n 3, 1) := by decide +kernel
theorem dX5_duel_162 : decode cX5_duel 162 = .ok (.iaload, 1) := by decide +kernel
theorem dX5_duel_163 : decode cX5_duel 163 = .ok (.goto 9, 3) := by decide +kernel
theorem dX5_duel_166 : decode cX5_duel 166 = .ok (.aload_n 0, 1) := by decide +kernel
theorem dX5_duel_167 : decode cX5_duel 167 = .ok (.getfield 65, 3) := by decide +kernel
theorem dX5_duel_170 : decode cX5_duel 170 = .ok (.iload_n 3, 1) := by decide +kernel
theorem dX5_duel_171 : decode cX5_duel 171 = .ok (.iaload, 1) := by decide +kernel
theorem dX5_duel_172 : decode cX5_duel 172 = .ok (.istore 5, 2) := by decide +kernel
theorem dX5_duel_174 : decode cX5_duel 174 = .ok (.aload_n 0, 1) := by decide +kernel
theorem dX5_duel_175 : decode cX5_duel 175 = .ok (.getfield 65, 3) := by decide +kernel
theorem dX5_duel_178 : decode cX5_duel 178 = .ok (.iload_n 3, 1) := by decide +kernel
theorem dX5_duel_179 : decode cX5_duel 179 = .ok (.iload 5, 2) := by decide +kernel
theorem dX5_duel_181 : decode cX5_duel 181 = .ok (.iastore, 1) := by decide +kernel
theorem dX5_duel_182 : decode cX5_duel 182 = .ok (.iinc 3 (-1), 3) := by decide +kernel
theorem dX5_duel_185 : decode cX5_duel 185 = .ok (.iload_n 3, 1) := by decide +kernel
theorem dX5_duel_186 : decode cX5_duel 186 = .ok (.ifCond .lt 10, 3) := by decide +kernel
theorem dX5_duel_189 : decode cX5_duel 189 = .ok (.aload_n 0, 1) := by decide +kernel
theorem dX5_duel_190 : decode cX5_duel 190 = .ok (.iload_n 3, 1) := by decide +kernel
theorem dX5_duel_191 : decode cX5_duel 191 = .ok (.iload 5, 2) := by decide +kernel
theorem dX5_duel_193 : decode cX5_duel 193 = .ok (.invokevirtual 297, 3) := by decide +kernel
theorem dX5_duel_196 : decode cX5_duel 196 = .ok (.goto 18, 3) := by decide +kernel
theorem dX5_duel_199 : decode cX5_duel 199 = .ok (.aload_n 0, 1) := by decide +kernel
theorem dX5_duel_200 : decode cX5_duel 200 = .ok (.iload_n 3, 1) := by decide +kernel
theorem dX5_duel_201 : decode cX5_duel 201 = .ok (.iload 4, 2) := by decide +kernel
theorem dX5_duel_203 : decode cX5_duel 203 = .ok (.invokevirtual 255, 3) := by decide +kernel
theorem dX5_duel_206 : decode cX5_duel 206 = .ok (.iinc 3 1, 3) := by decide +kernel
theorem dX5_duel_209 : decode cX5_duel 209 = .ok (.aload_n 0, 1) := by decide +kernel
theorem dX5_duel_210 : decode cX5_duel 210 = .ok (.iload_n 3, 1) := by decide +kernel
theorem dX5_duel_211 : decode cX5_duel 211 = .ok (.invokevirtual 294, 3) := by decide +kernel
theorem dX5_duel_214 : decode cX5_duel 214 = .ok (.goto (-156), 3) := by decide +kernel
theorem dX5_duel_217 : decode cX5_duel 217 = .ok (.aload_n 0, 1) := by decide +kernel
theorem dX5_duel_218 : decode cX5_duel 218 = .ok (.getfield 65, 3) := by decide +kernel
theorem dX5_duel_221 : decode cX5_duel 221 = .ok (.iconst 0, 1) := by decide +kernel
theorem dX5_duel_222 : decode cX5_duel 222 = .ok (.iaload, 1) := by decide +kernel
theorem dX5_duel_223 : decode cX5_duel 223 = .ok (.ireturn, 1) := by decide +kernel
theorem dX5_divisor_0 : decode cX5_divisor 0 = .ok (.lload_n 0, 1) := by decide +kernel
theorem dX5_divisor_1 : decode cX5_divisor 1 = .ok (.lconst 0, 1) := by decide +kernel
theorem dX5_divisor_2 : decode cX5_divisor 2 = .ok (.lcmp, 1) := by decide +kernel
theorem dX5_divisor_3 : decode cX5_divisor 3 = .ok (.ifCond .ge 8, 3) := by decide +kernel
theorem dX5_divisor_6 : decode cX5_divisor 6 = .ok (.lload_n 0, 1) := by decide +kernel
theorem dX5_divisor_7 : decode cX5_divisor 7 = .ok (.lneg, 1) := by decide +kernel
theorem dX5_divisor_8 : decode cX5_divisor 8 = .ok (.goto 4, 3) := by decide +kernel
theorem dX5_divisor_11 : decode cX5_divisor 11 = .ok (.lload_n 0, 1) := by decide +kernel
theorem dX5_divisor_12 : decode cX5_divisor 12 = .ok (.lstore 4, 2) := by decide +kernel
theorem dX5_divisor_14 : decode cX5_divisor 14 = .ok (.lload_n 2, 1) := by decide +kernel
theorem dX5_divisor_15 : decode cX5_divisor 15 = .ok (.lstore 6, 2) := by decide +kernel
theorem dX5_divisor_17 : decode cX5_divisor 17 = .ok (.lload 6, 2) := by decide +kernel
theorem dX5_divisor_19 : decode cX5_divisor 19 = .ok (.lconst 0, 1) := by decide +kernel
theorem dX5_divisor_20 : decode cX5_divisor 20 = .ok (.lcmp, 1) := by decide +kernel
theorem dX5_divisor_21 : decode cX5_divisor 21 = .ok (.ifCond .eq 21, 3) := by decide +kernel
theorem dX5_divisor_24 : decode cX5_divisor 24 = .ok (.lload 4, 2) := by decide +kernel
theorem dX5_divisor_26 : decode cX5_divisor 26 = .ok (.lload 6, 2) := by decide +kernel
theorem dX5_divisor_28 : decode cX5_divisor 28 = .ok (.lrem, 1) := by decide +kernel
theorem dX5_divisor_29 : decode cX5_divisor 29 = .ok (.lstore 8, 2) := by decide +kernel
theorem dX5_divisor_31 : decode cX5_divisor 31 = .ok (.lload 6, 2) := by decide +kernel
theorem dX5_divisor_33 : decode cX5_divisor 33 = .ok (.lstore 4, 2) := by decide +kernel
theorem dX5_divisor_35 : decode cX5_divisor 35 = .ok (.lload 8, 2) := by decide +kernel
theorem dX5_divisor_37 : decode cX5_divisor 37 = .ok (.lstore 6, 2) := by decide +kernel
theorem dX5_divisor_39 : decode cX5_divisor 39 = .ok (.goto (-22), 3) := by decide +kernel
theorem dX5_divisor_42 : decode cX5_divisor 42 = .ok (.lload 4, 2) := by decide +kernel
theorem dX5_divisor_44 : decode cX5_divisor 44 = .ok (.lreturn, 1) := by decide +kernel
theorem dX5_tellParts_0 : decode cX5_tellParts 0 = .ok (.lload_n 1, 1) := by decide +kernel
theorem dX5_tellParts_1 : decode cX5_tellParts 1 = .ok (.lload_n 3, 1) := by decide +kernel
theorem dX5_tellParts_2 : decode cX5_tellParts 2 = .ok (.invokestatic 300, 3) := by decide +kernel
theorem dX5_tellParts_5 : decode cX5_tellParts 5 = .ok (.lstore 5, 2) := by decide +kernel
theorem dX5_tellParts_7 : decode cX5_tellParts 7 = .ok (.aload_n 0, 1) := by decide +kernel
theorem dX5_tellParts_8 : decode cX5_tellParts 8 = .ok (.lload_n 1, 1) := by decide +kernel
theorem dX5_tellParts_9 : decode cX5_tellParts 9 = .ok (.lload 5, 2) := by decide +kernel
theorem dX5_tellParts_11 : decode cX5_tellParts 11 = .ok (.ldiv, 1) := by decide +kernel
theorem dX5_tellParts_12 : decode cX5_tellParts 12 = .ok (.putfield 270, 3) := by decide +kernel
theorem dX5_tellParts_15 : decode cX5_tellParts 15 = .ok (.aload_n 0, 1) := by decide +kernel
theorem dX5_tellParts_16 : decode cX5_tellParts 16 = .ok (.lload_n 3, 1) := by decide +kernel
theorem dX5_tellParts_17 : decode cX5_tellParts 17 = .ok (.lload 5, 2) := by decide +kernel
theorem dX5_tellParts_19 : decode cX5_tellParts 19 = .ok (.ldiv, 1) := by decide +kernel
theorem dX5_tellParts_20 : decode cX5_tellParts 20 = .ok (.putfield 37, 3) := by decide +kernel
theorem dX5_tellParts_23 : decode cX5_tellParts 23 = .ok (.iconst 1, 1) := by decide +kernel
theorem dX5_tellParts_24 : decode cX5_tellParts 24 = .ok (.ireturn, 1) := by decide +kernel
theorem dX5_isDrawn_0 : decode cX5_isDrawn 0 = .ok (.iconst 1, 1) := by decide +kernel
theorem dX5_isDrawn_1 : decode cX5_isDrawn 1 = .ok (.istore_n 1, 1) := by decide +kernel
theorem dX5_isDrawn_2 : decode cX5_isDrawn 2 = .ok (.iconst 0, 1) := by decide +kernel
theorem dX5_isDrawn_3 : decode cX5_isDrawn 3 = .ok (.istore_n 2, 1) := by decide +kernel
theorem dX5_isDrawn_4 : decode cX5_isDrawn 4 = .ok (.iload_n 2, 1) := by decide +kernel
theorem dX5_isDrawn_5 : decode cX5_isDrawn 5 = .ok (.aload_n 0, 1) := by decide +kernel
theorem dX5_isDrawn_6 : decode cX5_isDrawn 6 = .ok (.getfield 245, 3) := by decide +kernel
theorem dX5_isDrawn_9 : decode cX5_isDrawn 9 = .ok (.if_icmp .ge 41, 3) := by decide +kernel
theorem dX5_isDrawn_12 : decode cX5_isDrawn 12 = .ok (.iload_n 1, 1) := by decide +kernel
theorem dX5_isDrawn_13 : decode cX5_isDrawn 13 = .ok (.ifCond .eq 29, 3) := by decide +kernel
theorem dX5_isDrawn_16 : decode cX5_isDrawn 16 = .ok (.aload_n 0, 1) := by decide +kernel
theorem dX5_isDrawn_17 : decode cX5_isDrawn 17 = .ok (.getfield 62, 3) := by decide +kernel
theorem dX5_isDrawn_20 : decode cX5_isDrawn 20 = .ok (.iload_n 2, 1) := by decide +kernel
theorem dX5_isDrawn_21 : decode cX5_isDrawn 21 = .ok (.iaload, 1) := by decide +kernel
theorem dX5_isDrawn_22 : decode cX5_isDrawn 22 = .ok (.ifCond .ne 16, 3) := by decide +kernel
theorem dX5_isDrawn_25 : decode cX5_isDrawn 25 = .ok (.aload_n 0, 1) := by decide +kernel
theorem dX5_isDrawn_26 : decode cX5_isDrawn 26 = .ok (.aload_n 0, 1) := by decide +kernel
theorem dX5_isDrawn_27 : decode cX5_isDrawn 27 = .ok (.getfield 59, 3) := by decide +kernel
theorem dX5_isDrawn_30 : decode cX5_isDrawn 30 = .ok (.iload_n 2, 1) := by decide +kernel
theorem dX5_isDrawn_31 : decode cX5_isDrawn 31 = .ok (.iaload, 1) := by decide +kernel
theorem dX5_isDrawn_32 : decode cX5_isDrawn 32 = .ok (.invokevirtual 234, 3) := by decide +kernel
theorem dX5_isDrawn_35 : decode cX5_isDrawn 35 = .ok (.ifCond .ne 7, 3) := by decide +kernel
theorem dX5_isDrawn_38 : decode cX5_isDrawn 38 = .ok (.iconst 1, 1) := by decide +kernel
theorem dX5_isDrawn_39 : decode cX5_isDrawn 39 = .ok (.goto 4, 3) := by decide +kernel
theorem dX5_isDrawn_42 : decode cX5_isDrawn 42 = .ok (.iconst 0, 1) := by decide +kernel
theorem dX5_isDrawn_43 : decode cX5_isDrawn 43 = .ok (.istore_n 1, 1) := by decide +kernel
theorem dX5_isDrawn_44 : decode cX5_isDrawn 44 = .ok (.iinc 2 1, 3) := by decide +kernel
theorem dX5_isDrawn_47 : decode cX5_isDrawn 47 = .ok (.goto (-43), 3) := by decide +kernel
theorem dX5_isDrawn_50 : decode cX5_isDrawn 50 = .ok (.iload_n 1, 1) := by decide +kernel
theorem dX5_isDrawn_51 : decode cX5_isDrawn 51 = .ok (.ireturn, 1) := by decide +kernel
theorem dX5_odds_0 : decode cX5_odds 0 = .ok (.iload_n 1, 1) := by decide +kernel
theorem dX5_odds_1 : decode cX5_odds 1 = .ok (.i2l, 1) := by decide +kernel
theorem dX5_odds_2 : decode cX5_odds 2 = .ok (.lconst 0, 1) := by decide +kernel
theorem dX5_odds_3 : decode cX5_odds 3 = .ok (.ldc2_w 268, 3) := by decide +kernel
theorem dX5_odds_6 : decode cX5_odds 6 = .ok (.invokestatic 77, 3) := by decide +kernel
theorem dX5_odds_9 : decode cX5_odds 9 = .ok (.ifCond .ne 5, 3) := by decide +kernel
theorem dX5_odds_12 : decode cX5_odds 12 = .ok (.iconst (-1), 1) := by decide +kernel
theorem dX5_odds_13 : decode cX5_odds 13 = .ok (.ireturn, 1) := by decide +kernel
theorem dX5_odds_14 : decode cX5_odds 14 = .ok (.aload_n 0, 1) := by decide +kernel
theorem dX5_odds_15 : decode cX5_odds 15 = .ok (.getfield 163, 3) := by decide +kernel
theorem dX5_odds_18 : decode cX5_odds 18 = .ok (.ifCond .ne 6, 3) := by decide +kernel
theorem dX5_odds_21 : decode cX5_odds 21 = .ok (.bipush (-4), 2) := by decide +kernel
theorem dX5_odds_23 : decode cX5_odds 23 = .ok (.ireturn, 1) := by decide +kernel
theorem dX5_odds_24 : decode cX5_odds 24 = .ok (.lconst 0, 1) := by decide +kernel
theorem dX5_odds_25 : decode cX5_odds 25 = .ok (.lstore_n 2, 1) := by decide +kernel
theorem dX5_odds_26 : decode cX5_odds 26 = .ok (.lconst 0, 1) := by decide +kernel
theorem dX5_odds_27 : decode cX5_odds 27 = .ok (.lstore 4, 2) := by decide +kernel
theorem dX5_odds_29 : decode cX5_odds 29 = .ok (.aload_n 0, 1) := by decide +kernel
theorem dX5_odds_30 : decode cX5_odds 30 = .ok (.aload_n 0, 1) := by decide +kernel
theorem dX5_odds_31 : decode cX5_odds 31 = .ok (.getfield 7, 3) := by decide +kernel
theorem dX5_odds_34 : decode cX5_odds 34 = .ok (.iconst 2, 1) := by decide +kernel
theorem dX5_odds_35 : decode cX5_odds 35 = .ok (.iaload, 1) := by decide +kernel
theorem dX5_odds_36 : decode cX5_odds 36 = .ok (.invokevirtual 258, 3) := by decide +kernel
theorem dX5_odds_39 : decode cX5_odds 39 = .ok (.aload_n 0, 1) := by decide +kernel
theorem dX5_odds_40 : decode cX5_odds 40 = .ok (.invokevirtual 265, 3) := by decide +kernel
theorem dX5_odds_43 : decode cX5_odds 43 = .ok (.ifCond .eq 40, 3) := by decide +kernel
theorem dX5_odds_46 : decode cX5_odds 46 = .ok (.aload_n 0, 1) := by decide +kernel
theorem dX5_odds_47 : decode cX5_odds 47 = .ok (.invokevirtual 304, 3) := by decide +kernel
theorem dX5_odds_50 : decode cX5_odds 50 = .ok (.ifCond .eq (-11), 3) := by decide +kernel
theorem dX5_odds_53 : decode cX5_odds 53 = .ok (.lload_n 2, 1) := by decide +kernel
theorem dX5_odds_54 : decode cX5_odds 54 = .ok (.aload_n 0, 1) := by decide +kernel
theorem dX5_odds_55 : decode cX5_odds 55 = .ok (.getfield 56, 3) := by decide +kernel
theorem dX5_odds_58 : decode cX5_odds 58 = .ok (.aload_n 0, 1) := by decide +kernel
theorem dX5_odds_59 : decode cX5_odds 59 = .ok (.getfield 245, 3) := by decide +kernel
theorem dX5_odds_62 : decode cX5_odds 62 = .ok (.iaload, 1) := by decide +kernel
theorem dX5_odds_63 : decode cX5_odds 63 = .ok (.iload_n 1, 1) := by decide +kernel
theorem dX5_odds_64 : decode cX5_odds 64 = .ok (.if_icmp .lt 7, 3) := by decide +kernel
theorem dX5_odds_67 : decode cX5_odds 67 = .ok (.lconst 1, 1) := by decide +kernel
theorem dX5_odds_68 : decode cX5_odds 68 = .ok (.goto 4, 3) := by decide +kernel
theorem dX5_odds_71 : decode cX5_odds 71 = .ok (.lconst 0, 1) := by decide +kernel
theorem dX5_odds_72 : decode cX5_odds 72 = .ok (.ladd, 1) := by decide +kernel
theorem dX5_odds_73 : decode cX5_odds 73 = .ok (.lstore_n 2, 1) := by decide +kernel
theorem dX5_odds_74 : decode cX5_odds 74 = .ok (.lload 4, 2) := by decide +kernel
theorem dX5_odds_76 : decode cX5_odds 76 = .ok (.lconst 1, 1) := by decide +kernel
theorem dX5_odds_77 : decode cX5_odds 77 = .ok (.ladd, 1) := by decide +kernel
theorem dX5_odds_78 : decode cX5_odds 78 = .ok (.lstore 4, 2) := by decide +kernel
theorem dX5_odds_80 : decode cX5_odds 80 = .ok (.goto (-41), 3) := by decide +kernel
theorem dX5_odds_83 : decode cX5_odds 83 = .ok (.aload_n 0, 1) := by decide +kernel
theorem dX5_odds_84 : decode cX5_odds 84 = .ok (.lload_n 2, 1) := by decide +kernel
theorem dX5_odds_85 : decode cX5_odds 85 = .ok (.lload 4, 2) := by decide +kernel
theorem dX5_odds_87 : decode cX5_odds 87 = .ok (.invokevirtual 307, 3) := by decide +kernel
theorem dX5_odds_90 : decode cX5_odds 90 = .ok (.ireturn, 1) := by decide +kernel
theorem dX5_mid_0 : decode cX5_mid 0 = .ok (.aload_n 0, 1) := by decide +kernel
theorem dX5_mid_1 : decode cX5_mid 1 = .ok (.getfield 163, 3) := by decide +kernel
theorem dX5_mid_4 : decode cX5_mid 4 = .ok (.ifCond .ne 6, 3) := by decide +kernel
theorem dX5_mid_7 : decode cX5_mid 7 = .ok (.bipush (-4), 2) := by decide +kernel
theorem dX5_mid_9 : decode cX5_mid 9 = .ok (.ireturn, 1) := by decide +kernel
theorem dX5_mid_10 : decode cX5_mid 10 = .ok (.lconst 0, 1) := by decide +kernel
theorem dX5_mid_11 : decode cX5_mid 11 = .ok (.lstore_n 1, 1) := by decide +kernel
theorem dX5_mid_12 : decode cX5_mid 12 = .ok (.lconst 0, 1) := by decide +kernel
theorem dX5_mid_13 : decode cX5_mid 13 = .ok (.lstore_n 3, 1) := by decide +kernel
theorem dX5_mid_14 : decode cX5_mid 14 = .ok (.aload_n 0, 1) := by decide +kernel
theorem dX5_mid_15 : decode cX5_mid 15 = .ok (.aload_n 0, 1) := by decide +kernel
theorem dX5_mid_16 : decode cX5_mid 16 = .ok (.getfield 7, 3) := by decide +kernel
theorem dX5_mid_19 : decode cX5_mid 19 = .ok (.iconst 2, 1) := by decide +kernel
theorem dX5_mid_20 : decode cX5_mid 20 = .ok (.iaload, 1) := by decide +kernel
theorem dX5_mid_21 : decode cX5_mid 21 = .ok (.invokevirtual 258, 3) := by decide +kernel
theorem dX5_mid_24 : decode cX5_mid 24 = .ok (.aload_n 0, 1) := by decide +kernel
theorem dX5_mid_25 : decode cX5_mid 25 = .ok (.invokevirtual 265, 3) := by decide +kernel
theorem dX5_mid_28 : decode cX5_mid 28 = .ok (.ifCond .eq 30, 3) := by decide +kernel
theorem dX5_mid_31 : decode cX5_mid 31 = .ok (.aload_n 0, 1) := by decide +kernel
theorem dX5_mid_32 : decode cX5_mid 32 = .ok (.invokevirtual 304, 3) := by decide +kernel
theorem dX5_mid_35 : decode cX5_mid 35 = .ok (.ifCond .eq (-11), 3) := by decide +kernel
theorem dX5_mid_38 : decode cX5_mid 38 = .ok (.lload_n 1, 1) := by decide +kernel
theorem dX5_mid_39 : decode cX5_mid 39 = .ok (.aload_n 0, 1) := by decide +kernel
theorem dX5_mid_40 : decode cX5_mid 40 = .ok (.getfield 53, 3) := by decide +kernel
theorem dX5_mid_43 : decode cX5_mid 43 = .ok (.aload_n 0, 1) := by decide +kernel
theorem dX5_mid_44 : decode cX5_mid 44 = .ok (.getfield 245, 3) := by decide +kernel
theorem dX5_mid_47 : decode cX5_mid 47 = .ok (.iaload, 1) := by decide +kernel
theorem dX5_mid_48 : decode cX5_mid 48 = .ok (.i2l, 1) := by decide +kernel
theorem dX5_mid_49 : decode cX5_mid 49 = .ok (.ladd, 1) := by decide +kernel
theorem dX5_mid_50 : decode cX5_mid 50 = .ok (.lstore_n 1, 1) := by decide +kernel
theorem dX5_mid_51 : decode cX5_mid 51 = .ok (.lload_n 3, 1) := by decide +kernel
theorem dX5_mid_52 : decode cX5_mid 52 = .ok (.lconst 1, 1) := by decide +kernel
theorem dX5_mid_53 : decode cX5_mid 53 = .ok (.ladd, 1) := by decide +kernel
theorem dX5_mid_54 : decode cX5_mid 54 = .ok (.lstore_n 3, 1) := by decide +kernel
theorem dX5_mid_55 : decode cX5_mid 55 = .ok (.goto (-31), 3) := by decide +kernel
theorem dX5_mid_58 : decode cX5_mid 58 = .ok (.aload_n 0, 1) := by decide +kernel
theorem dX5_mid_59 : decode cX5_mid 59 = .ok (.lload_n 1, 1) := by decide +kernel
theorem dX5_mid_60 : decode cX5_mid 60 = .ok (.lload_n 3, 1) := by decide +kernel
theorem dX5_mid_61 : decode cX5_mid 61 = .ok (.invokevirtual 307, 3) := by decide +kernel
theorem dX5_mid_64 : decode cX5_mid 64 = .ok (.ireturn, 1) := by decide +kernel
theorem dX5_nth_0 : decode cX5_nth 0 = .ok (.iload_n 1, 1) := by decide +kernel
theorem dX5_nth_1 : decode cX5_nth 1 = .ok (.istore_n 2, 1) := by decide +kernel
theorem dX5_nth_2 : decode cX5_nth 2 = .ok (.iconst 0, 1) := by decide +kernel
theorem dX5_nth_3 : decode cX5_nth 3 = .ok (.istore_n 3, 1) := by decide +kernel
theorem dX5_nth_4 : decode cX5_nth 4 = .ok (.iload_n 0, 1) := by decide +kernel
theorem dX5_nth_5 : decode cX5_nth 5 = .ok (.iload_n 3, 1) := by decide +kernel
theorem dX5_nth_6 : decode cX5_nth 6 = .ok (.invokestatic 147, 3) := by decide +kernel
theorem dX5_nth_9 : decode cX5_nth 9 = .ok (.ifCond .eq 7, 3) := by decide +kernel
theorem dX5_nth_12 : decode cX5_nth 12 = .ok (.iload_n 2, 1) := by decide +kernel
theorem dX5_nth_13 : decode cX5_nth 13 = .ok (.ifCond .le 25, 3) := by decide +kernel
theorem dX5_nth_16 : decode cX5_nth 16 = .ok (.iload_n 2, 1) := by decide +kernel
theorem dX5_nth_17 : decode cX5_nth 17 = .ok (.iload_n 0, 1) := by decide +kernel
theorem dX5_nth_18 : decode cX5_nth 18 = .ok (.iload_n 3, 1) := by decide +kernel
theorem dX5_nth_19 : decode cX5_nth 19 = .ok (.invokestatic 147, 3) := by decide +kernel
theorem dX5_nth_22 : decode cX5_nth 22 = .ok (.ifCond .eq 7, 3) := by decide +kernel
theorem dX5_nth_25 : decode cX5_nth 25 = .ok (.iconst 1, 1) := by decide +kernel
theorem dX5_nth_26 : decode cX5_nth 26 = .ok (.goto 4, 3) := by decide +kernel
theorem dX5_nth_29 : decode cX5_nth 29 = .ok (.iconst 0, 1) := by decide +kernel
theorem dX5_nth_30 : decode cX5_nth 30 = .ok (.isub, 1) := by decide +kernel
theorem dX5_nth_31 : decode cX5_nth 31 = .ok (.istore_n 2, 1) := by decide +kernel
theorem dX5_nth_32 : decode cX5_nth 32 = .ok (.iinc 3 1, 3) := by decide +kernel
theorem dX5_nth_35 : decode cX5_nth 35 = .ok (.goto (-31), 3) := by decide +kernel
theorem dX5_nth_38 : decode cX5_nth 38 = .ok (.iload_n 3, 1) := by decide +kernel
theorem dX5_nth_39 : decode cX5_nth 39 = .ok (.ireturn, 1) := by decide +kernel
theorem dX5_lots_0 : decode cX5_lots 0 = .ok (.iload_n 1, 1) := by decide +kernel
theorem dX5_lots_1 : decode cX5_lots 1 = .ok (.i2l, 1) := by decide +kernel
theorem dX5_lots_2 : decode cX5_lots 2 = .ok (.lconst 1, 1) := by decide +kernel
theorem dX5_lots_3 : decode cX5_lots 3 = .ok (.ldc2_w 311, 3) := by decide +kernel
theorem dX5_lots_6 : decode cX5_lots 6 = .ok (.invokestatic 77, 3) := by decide +kernel
theorem dX5_lots_9 : decode cX5_lots 9 = .ok (.ifCond .ne 5, 3) := by decide +kernel
theorem dX5_lots_12 : decode cX5_lots 12 = .ok (.iconst (-1), 1) := by decide +kernel
theorem dX5_lots_13 : decode cX5_lots 13 = .ok (.ireturn, 1) := by decide +kernel
theorem dX5_lots_14 : decode cX5_lots 14 = .ok (.aload_n 0, 1) := by decide +kernel
theorem dX5_lots_15 : decode cX5_lots 15 = .ok (.invokevirtual 222, 3) := by decide +kernel
theorem dX5_lots_18 : decode cX5_lots 18 = .ok (.ifCond .eq 6, 3) := by decide +kernel
theorem dX5_lots_21 : decode cX5_lots 21 = .ok (.bipush (-4), 2) := by decide +kernel
theorem dX5_lots_23 : decode cX5_lots 23 = .ok (.ireturn, 1) := by decide +kernel
theorem dX5_lots_24 : decode cX5_lots 24 = .ok (.aload_n 0, 1) := by decide +kernel
theorem dX5_lots_25 : decode cX5_lots 25 = .ok (.getfield 7, 3) := by decide +kernel
theorem dX5_lots_28 : decode cX5_lots 28 = .ok (.iconst 0, 1) := by decide +kernel
theorem dX5_lots_29 : decode cX5_lots 29 = .ok (.iaload, 1) := by decide +kernel
theorem dX5_lots_30 : decode cX5_lots 30 = .ok (.aload_n 0, 1) := by decide +kernel
theorem dX5_lots_31 : decode cX5_lots 31 = .ok (.getfield 160, 3) := by decide +kernel
theorem dX5_lots_34 : decode cX5_lots 34 = .ok (.iadd, 1) := by decide +kernel
theorem dX5_lots_35 : decode cX5_lots 35 = .ok (.aload_n 0, 1) := by decide +kernel
theorem dX5_lots_36 : decode cX5_lots 36 = .ok (.getfield 7, 3) := by decide +kernel
theorem dX5_lots_39 : decode cX5_lots 39 = .ok (.iconst 1, 1) := by decide +kernel
theorem dX5_lots_40 : decode cX5_lots 40 = .ok (.iaload, 1) := by decide +kernel
theorem dX5_lots_41 : decode cX5_lots 41 = .ok (.isub, 1) := by decide +kernel
theorem dX5_lots_42 : decode cX5_lots 42 = .ok (.bipush 40, 2) := by decide +kernel
theorem dX5_lots_44 : decode cX5_lots 44 = .ok (.if_icmp .le 6, 3) := by decide +kernel
theorem dX5_lots_47 : decode cX5_lots 47 = .ok (.bipush (-2), 2) := by decide +kernel
theorem dX5_lots_49 : decode cX5_lots 49 = .ok (.ireturn, 1) := by decide +kernel
theorem dX5_lots_50 : decode cX5_lots 50 = .ok (.iload_n 1, 1) := by decide +kernel
theorem dX5_lots_51 : decode cX5_lots 51 = .ok (.i2l, 1) := by decide +kernel
theorem dX5_lots_52 : decode cX5_lots 52 = .ok (.lstore_n 2, 1) := by decide +kernel
theorem dX5_lots_53 : decode cX5_lots 53 = .ok (.iconst 0, 1) := by decide +kernel
theorem dX5_lots_54 : decode cX5_lots 54 = .ok (.istore 4, 2) := by decide +kernel
theorem dX5_lots_56 : decode cX5_lots 56 = .ok (.aload_n 0, 1) := by decide +kernel
theorem dX5_lots_57 : decode cX5_lots 57 = .ok (.invokevirtual 222, 3) := by decide +kernel
theorem dX5_lots_60 : decode cX5_lots 60 = .ok (.ifCond .ne 68, 3) := by decide +kernel
theorem dX5_lots_63 : decode cX5_lots 63 = .ok (.lload_n 2, 1) := by decide +kernel
theorem dX5_lots_64 : decode cX5_lots 64 = .ok (.ldc2_w 313, 3) := by decide +kernel
theorem dX5_lots_67 : decode cX5_lots 67 = .ok (.lmul, 1) := by decide +kernel
theorem dX5_lots_68 : decode cX5_lots 68 = .ok (.ldc2_w 315, 3) := by decide +kernel
theorem dX5_lots_71 : decode cX5_lots 71 = .ok (.lrem, 1) := by decide +kernel
theorem dX5_lots_72 : decode cX5_lots 72 = .ok (.lstore_n 2, 1) := by decide +kernel
theorem dX5_lots_73 : decode cX5_lots 73 = .ok (.aload_n 0, 1) := by decide +kernel
theorem dX5_lots_74 : decode cX5_lots 74 = .ok (.aload_n 0, 1) := by decide +kernel
theorem dX5_lots_75 : decode cX5_lots 75 = .ok (.getfield 7, 3) := by decide +kernel
theorem dX5_lots_78 : decode cX5_lots 78 = .ok (.bipush 6, 2) := by decide +kernel
theorem dX5_lots_80 : decode cX5_lots 80 = .ok (.iaload, 1) := by decide +kernel
theorem dX5_lots_81 : decode cX5_lots 81 = .ok (.invokevirtual 234, 3) := by decide +kernel
theorem dX5_lots_84 : decode cX5_lots 84 = .ok (.istore 5, 2) := by decide +kernel
theorem dX5_lots_86 : decode cX5_lots 86 = .ok (.iload 5, 2) := by decide +kernel
theorem dX5_lots_88 : decode cX5_lots 88 = .ok (.ifCond .ne 10, 3) := by decide +kernel
theorem dX5_lots_91 : decode cX5_lots 91 = .ok (.aload_n 0, 1) := by decide +kernel
theorem dX5_lots_92 : decode cX5_lots 92 = .ok (.invokevirtual 228, 3) := by decide +kernel
theorem dX5_lots_95 : decode cX5_lots 95 = .ok (.goto 30, 3) := by decide +kernel
theorem dX5_lots_98 : decode cX5_lots 98 = .ok (.iload 4, 2) := by decide +kernel
theorem dX5_lots_100 : decode cX5_lots 100 = .ok (.aload_n 0, 1) := by decide +kernel
theorem dX5_lots_101 : decode cX5_lots 101 = .ok (.iload 5, 2) := by decide +kernel
theorem dX5_lots_103 : decode cX5_lots 103 = .ok (.lload_n 2, 1) := by decide +kernel
theorem dX5_lots_104 : decode cX5_lots 104 = .ok (.ldc2_w 317, 3) := by decide +kernel
theorem dX5_lots_107 : decode cX5_lots 107 = .ok (.ldiv, 1) := by decide +kernel
theorem dX5_lots_108 : decode cX5_lots 108 = .ok (.iload 5, 2) := by decide +kernel
theorem dX5_lots_110 : decode cX5_lots 110 = .ok (.invokestatic 237, 3) := by decide +kernel
theorem dX5_lots_113 : decode cX5_lots 113 = .ok (.i2l, 1) := by decide +kernel
theorem dX5_lots_114 : decode cX5_lots 114 = .ok (.lrem, 1) := by decide +kernel
theorem dX5_lots_115 : decode cX5_lots 115 = .ok (.l2i, 1) := by decide +kernel
theorem dX5_lots_116 : decode cX5_lots 116 = .ok (.invokestatic 319, 3) := by decide +kernel
theorem dX5_lots_119 : decode cX5_lots 119 = .ok (.invokevirtual 225, 3) := by decide +kernel
theorem dX5_lots_122 : decode cX5_lots 122 = .ok (.iadd, 1) := by decide +kernel
theorem dX5_lots_123 : decode cX5_lots 123 = .ok (.istore 4, 2) := by decide +kernel
theorem dX5_lots_125 : decode cX5_lots 125 = .ok (.goto (-69), 3) := by decide +kernel
theorem dX5_lots_128 : decode cX5_lots 128 = .ok (.iload 4, 2) := by decide +kernel
theorem dX5_lots_130 : decode cX5_lots 130 = .ok (.ireturn, 1) := by decide +kernel
theorem dX5_asked_0 : decode cX5_asked 0 = .ok (.aload_n 0, 1) := by decide +kernel
theorem dX5_asked_1 : decode cX5_asked 1 = .ok (.getfield 72, 3) := by decide +kernel
theorem dX5_asked_4 : decode cX5_asked 4 = .ok (.ireturn, 1) := by decide +kernel
theorem dX5_upper_0 : decode cX5_upper 0 = .ok (.aload_n 0, 1) := by decide +kernel
theorem dX5_upper_1 : decode cX5_upper 1 = .ok (.getfield 270, 3) := by decide +kernel
theorem dX5_upper_4 : decode cX5_upper 4 = .ok (.lreturn, 1) := by decide +kernel
theorem dX5_lower_0 : decode cX5_lower 0 = .ok (.aload_n 0, 1) := by decide +kernel
theorem dX5_lower_1 : decode cX5_lower 1 = .ok (.getfield 37, 3) := by decide +kernel
theorem dX5_lower_4 : decode cX5_lower 4 = .ok (.lreturn, 1) := by decide +kernel
theorem dX5_clerks_0 : decode cX5_clerks 0 = .ok (.iconst 0, 1) := by decide +kernel
theorem dX5_clerks_1 : decode cX5_clerks 1 = .ok (.istore_n 1, 1) := by decide +kernel
theorem dX5_clerks_2 : decode cX5_clerks 2 = .ok (.iconst 0, 1) := by decide +kernel
theorem dX5_clerks_3 : decode cX5_clerks 3 = .ok (.istore_n 2, 1) := by decide +kernel
theorem dX5_clerks_4 : decode cX5_clerks 4 = .ok (.iload_n 2, 1) := by decide +kernel
theorem dX5_clerks_5 : decode cX5_clerks 5 = .ok (.aload_n 0, 1) := by decide +kernel
theorem dX5_clerks_6 : decode cX5_clerks 6 = .ok (.getfield 163, 3) := by decide +kernel
theorem dX5_clerks_9 : decode cX5_clerks 9 = .ok (.if_icmp .ge 29, 3) := by decide +kernel
theorem dX5_clerks_12 : decode cX5_clerks 12 = .ok (.iload_n 1, 1) := by decide +kernel
theorem dX5_clerks_13 : decode cX5_clerks 13 = .ok (.aload_n 0, 1) := by decide +kernel
theorem dX5_clerks_14 : decode cX5_clerks 14 = .ok (.getfield 16, 3) := by decide +kernel
theorem dX5_clerks_17 : decode cX5_clerks 17 = .ok (.iload_n 2, 1) := by decide +kernel
theorem dX5_clerks_18 : decode cX5_clerks 18 = .ok (.iaload, 1) := by decide +kernel
theorem dX5_clerks_19 : decode cX5_clerks 19 = .ok (.invokestatic 176, 3) := by decide +kernel
theorem dX5_clerks_22 : decode cX5_clerks 22 = .ok (.ifCond .eq 7, 3) := by decide +kernel
theorem dX5_clerks_25 : decode cX5_clerks 25 = .ok (.iconst 1, 1) := by decide +kernel
theorem dX5_clerks_26 : decode cX5_clerks 26 = .ok (.goto 4, 3) := by decide +kernel
theorem dX5_clerks_29 : decode cX5_clerks 29 = .ok (.iconst 0, 1) := by decide +kernel
theorem dX5_clerks_30 : decode cX5_clerks 30 = .ok (.iadd, 1) := by decide +kernel
theorem dX5_clerks_31 : decode cX5_clerks 31 = .ok (.istore_n 1, 1) := by decide +kernel
theorem dX5_clerks_32 : decode cX5_clerks 32 = .ok (.iinc 2 1, 3) := by decide +kernel
theorem dX5_clerks_35 : decode cX5_clerks 35 = .ok (.goto (-31), 3) := by decide +kernel
theorem dX5_clerks_38 : decode cX5_clerks 38 = .ok (.iload_n 1, 1) := by decide +kernel
theorem dX5_clerks_39 : decode cX5_clerks 39 = .ok (.ireturn, 1) := by decide +kernel
theorem dX5_thereOf_0 : decode cX5_thereOf 0 = .ok (.iconst 0, 1) := by decide +kernel
theorem dX5_thereOf_1 : decode cX5_thereOf 1 = .ok (.istore_n 2, 1) := by decide +kernel
theorem dX5_thereOf_2 : decode cX5_thereOf 2 = .ok (.iconst 0, 1) := by decide +kernel
theorem dX5_thereOf_3 : decode cX5_thereOf 3 = .ok (.istore_n 3, 1) := by decide +kernel
theorem dX5_thereOf_4 : decode cX5_thereOf 4 = .ok (.iload_n 3, 1) := by decide +kernel
theorem dX5_thereOf_5 : decode cX5_thereOf 5 = .ok (.bipush 6, 2) := by decide +kernel
theorem dX5_thereOf_7 : decode cX5_thereOf 7 = .ok (.if_icmp .ge 90, 3) := by decide +kernel
theorem dX5_thereOf_10 : decode cX5_thereOf 10 = .ok (.iload_n 2, 1) := by decide +kernel
theorem dX5_thereOf_11 : decode cX5_thereOf 11 = .ok (.iload_n 1, 1) := by decide +kernel
theorem dX5_thereOf_12 : decode cX5_thereOf 12 = .ok (.bipush 8, 2) := by decide +kernel
theorem dX5_thereOf_14 : decode cX5_thereOf 14 = .ok (.if_icmp .ne 20, 3) := by decide +kernel
theorem dX5_thereOf_17 : decode cX5_thereOf 17 = .ok (.aload_n 0, 1) := by decide +kernel
theorem dX5_thereOf_18 : decode cX5_thereOf 18 = .ok (.getfield 25, 3) := by decide +kernel
theorem dX5_thereOf_21 : decode cX5_thereOf 21 = .ok (.iload_n 3, 1) := by decide +kernel
theorem dX5_thereOf_22 : decode cX5_thereOf 22 = .ok (.iaload, 1) := by decide +kernel
theorem dX5_thereOf_23 : decode cX5_thereOf 23 = .ok (.ifCond .ge 7, 3) := by decide +kernel
theorem dX5_thereOf_26 : decode cX5_thereOf 26 = .ok (.iconst 0, 1) := by decide +kernel
theorem dX5_thereOf_27 : decode cX5_thereOf 27 = .ok (.goto 62, 3) := by decide +kernel
theorem dX5_thereOf_30 : decode cX5_thereOf 30 = .ok (.iconst 1, 1) := by decide +kernel
theorem dX5_thereOf_31 : decode cX5_thereOf 31 = .ok (.goto 58, 3) := by decide +kernel
theorem dX5_thereOf_34 : decode cX5_thereOf 34 = .ok (.iload_n 1, 1) := by decide +kernel
theorem dX5_thereOf_35 : decode cX5_thereOf 35 = .ok (.bipush 9, 2) := by decide +kernel
theorem dX5_thereOf_37 : decode cX5_thereOf 37 = .ok (.if_icmp .ne 25, 3) := by decide +kernel
theorem dX5_thereOf_40 : decode cX5_thereOf 40 = .ok (.iload_n 3, 1) := by decide +kernel
theorem dX5_thereOf_41 : decode cX5_thereOf 41 = .ok (.iconst 4, 1) := by decide +kernel
theorem dX5_thereOf_42 : decode cX5_thereOf 42 = .ok (.if_icmp .ge 16, 3) := by decide +kernel
theorem dX5_thereOf_45 : decode cX5_thereOf 45 = .ok (.aload_n 0, 1) := by decide +kernel
theorem dX5_thereOf_46 : decode cX5_thereOf 46 = .ok (.getfield 31, 3) := by decide +kernel
theorem dX5_thereOf_49 : decode cX5_thereOf 49 = .ok (.iload_n 3, 1) := by decide +kernel
theorem dX5_thereOf_50 : decode cX5_thereOf 50 = .ok (.iaload, 1) := by decide +kernel
theorem dX5_thereOf_51 : decode cX5_thereOf 51 = .ok (.ifCond .lt 7, 3) := by decide +kernel
theorem dX5_thereOf_54 : decode cX5_thereOf 54 = .ok (.iconst 1, 1) := by decide +kernel
theorem dX5_thereOf_55 : decode cX5_thereOf 55 = .ok (.goto 34, 3) := by decide +kernel
theorem dX5_thereOf_58 : decode cX5_thereOf 58 = .ok (.iconst 0, 1) := by decide +kernel
theorem dX5_thereOf_59 : decode cX5_thereOf 59 = .ok (.goto 30, 3) := by decide +kernel
theorem dX5_thereOf_62 : decode cX5_thereOf 62 = .ok (.iload_n 3, 1) := by decide +kernel
theorem dX5_thereOf_63 : decode cX5_thereOf 63 = .ok (.iconst 3, 1) := by decide +kernel
theorem dX5_thereOf_64 : decode cX5_thereOf 64 = .ok (.if_icmp .ge 24, 3) := by decide +kernel
theorem dX5_thereOf_67 : decode cX5_thereOf 67 = .ok (.aload_n 0, 1) := by decide +kernel
theorem dX5_thereOf_68 : decode cX5_thereOf 68 = .ok (.getfield 7, 3) := by decide +kernel
theorem dX5_thereOf_71 : decode cX5_thereOf 71 = .ok (.sipush 493, 3) := by decide +kernel
theorem dX5_thereOf_74 : decode cX5_thereOf 74 = .ok (.iconst 1, 1) := by decide +kernel
theorem dX5_thereOf_75 : decode cX5_thereOf 75 = .ok (.iload_n 3, 1) := by decide +kernel
theorem dX5_thereOf_76 : decode cX5_thereOf 76 = .ok (.iadd, 1) := by decide +kernel
theorem dX5_thereOf_77 : decode cX5_thereOf 77 = .ok (.imul, 1) := by decide +kernel
theorem dX5_thereOf_78 : decode cX5_thereOf 78 = .ok (.iconst 0, 1) := by decide +kernel
theorem dX5_thereOf_79 : decode cX5_thereOf 79 = .ok (.iadd, 1) := by decide +kernel
theorem dX5_thereOf_80 : decode cX5_thereOf 80 = .ok (.iaload, 1) := by decide +kernel
theorem dX5_thereOf_81 : decode cX5_thereOf 81 = .ok (.ifCond .lt 7, 3) := by decide +kernel
theorem dX5_thereOf_84 : decode cX5_thereOf 84 = .ok (.iconst 1, 1) := by decide +kernel
theorem dX5_thereOf_85 : decode cX5_thereOf 85 = .ok (.goto 4, 3) := by decide +kernel
theorem dX5_thereOf_88 : decode cX5_thereOf 88 = .ok (.iconst 0, 1) := by decide +kernel
theorem dX5_thereOf_89 : decode cX5_thereOf 89 = .ok (.iadd, 1) := by decide +kernel
theorem dX5_thereOf_90 : decode cX5_thereOf 90 = .ok (.istore_n 2, 1) := by decide +kernel
theorem dX5_thereOf_91 : decode cX5_thereOf 91 = .ok (.iinc 3 1, 3) := by decide +kernel
theorem dX5_thereOf_94 : decode cX5_thereOf 94 = .ok (.goto (-90), 3) := by decide +kernel
theorem dX5_thereOf_97 : decode cX5_thereOf 97 = .ok (.iload_n 2, 1) := by decide +kernel
theorem dX5_thereOf_98 : decode cX5_thereOf 98 = .ok (.ireturn, 1) := by decide +kernel
theorem dX5_countOf_0 : decode cX5_countOf 0 = .ok (.iload_n 1, 1) := by decide +kernel
theorem dX5_countOf_1 : decode cX5_countOf 1 = .ok (.tableswitch 97 0 7 #[47, 52, 57, 64, 71, 78, 85, 92], 47) := by decide +kernel
theorem dX5_countOf_48 : decode cX5_countOf 48 = .ok (.aload_n 0, 1) := by decide +kernel
theorem dX5_countOf_49 : decode cX5_countOf 49 = .ok (.getfield 163, 3) := by decide +kernel
theorem dX5_countOf_52 : decode cX5_countOf 52 = .ok (.ireturn, 1) := by decide +kernel
theorem dX5_countOf_53 : decode cX5_countOf 53 = .ok (.aload_n 0, 1) := by decide +kernel
theorem dX5_countOf_54 : decode cX5_countOf 54 = .ok (.getfield 160, 3) := by decide +kernel
theorem dX5_countOf_57 : decode cX5_countOf 57 = .ok (.ireturn, 1) := by decide +kernel
theorem dX5_countOf_58 : decode cX5_countOf 58 = .ok (.aload_n 0, 1) := by decide +kernel
theorem dX5_countOf_59 : decode cX5_countOf 59 = .ok (.getfield 7, 3) := by decide +kernel
theorem dX5_countOf_62 : decode cX5_countOf 62 = .ok (.iconst 1, 1) := by decide +kernel
theorem dX5_countOf_63 : decode cX5_countOf 63 = .ok (.iaload, 1) := by decide +kernel
theorem dX5_countOf_64 : decode cX5_countOf 64 = .ok (.ireturn, 1) := by decide +kernel
theorem dX5_countOf_65 : decode cX5_countOf 65 = .ok (.aload_n 0, 1) := by decide +kernel
theorem dX5_countOf_66 : decode cX5_countOf 66 = .ok (.getfield 7, 3) := by decide +kernel
theorem dX5_countOf_69 : decode cX5_countOf 69 = .ok (.iconst 0, 1) := by decide +kernel
theorem dX5_countOf_70 : decode cX5_countOf 70 = .ok (.iaload, 1) := by decide +kernel
theorem dX5_countOf_71 : decode cX5_countOf 71 = .ok (.ireturn, 1) := by decide +kernel
theorem dX5_countOf_72 : decode cX5_countOf 72 = .ok (.aload_n 0, 1) := by decide +kernel
theorem dX5_countOf_73 : decode cX5_countOf 73 = .ok (.getfield 7, 3) := by decide +kernel
theorem dX5_countOf_76 : decode cX5_countOf 76 = .ok (.iconst 2, 1) := by decide +kernel
theorem dX5_countOf_77 : decode cX5_countOf 77 = .ok (.iaload, 1) := by decide +kernel
theorem dX5_countOf_78 : decode cX5_countOf 78 = .ok (.ireturn, 1) := by decide +kernel
theorem dX5_countOf_79 : decode cX5_countOf 79 = .ok (.aload_n 0, 1) := by decide +kernel
theorem dX5_countOf_80 : decode cX5_countOf 80 = .ok (.getfield 7, 3) := by decide +kernel
theorem dX5_countOf_83 : decode cX5_countOf 83 = .ok (.iconst 3, 1) := by decide +kernel
theorem dX5_countOf_84 : decode cX5_countOf 84 = .ok (.iaload, 1) := by decide +kernel
theorem dX5_countOf_85 : decode cX5_countOf 85 = .ok (.ireturn, 1) := by decide +kernel
theorem dX5_countOf_86 : decode cX5_countOf 86 = .ok (.aload_n 0, 1) := by decide +kernel
theorem dX5_countOf_87 : decode cX5_countOf 87 = .ok (.getfield 7, 3) := by decide +kernel
theorem dX5_countOf_90 : decode cX5_countOf 90 = .ok (.iconst 5, 1) := by decide +kernel
theorem dX5_countOf_91 : decode cX5_countOf 91 = .ok (.iaload, 1) := by decide +kernel
theorem dX5_countOf_92 : decode cX5_countOf 92 = .ok (.ireturn, 1) := by decide +kernel
theorem dX5_countOf_93 : decode cX5_countOf 93 = .ok (.aload_n 0, 1) := by decide +kernel
theorem dX5_countOf_94 : decode cX5_countOf 94 = .ok (.invokevirtual 322, 3) := by decide +kernel
theorem dX5_countOf_97 : decode cX5_countOf 97 = .ok (.ireturn, 1) := by decide +kernel
theorem dX5_countOf_98 : decode cX5_countOf 98 = .ok (.aload_n 0, 1) := by decide +kernel
theorem dX5_countOf_99 : decode cX5_countOf 99 = .ok (.iload_n 1, 1) := by decide +kernel
theorem dX5_countOf_100 : decode cX5_countOf 100 = .ok (.invokevirtual 325, 3) := by decide +kernel
theorem dX5_countOf_103 : decode cX5_countOf 103 = .ok (.ireturn, 1) := by decide +kernel
theorem dX5_count_0 : decode cX5_count 0 = .ok (.iload_n 1, 1) := by decide +kernel
theorem dX5_count_1 : decode cX5_count 1 = .ok (.i2l, 1) := by decide +kernel
theorem dX5_count_2 : decode cX5_count 2 = .ok (.lconst 0, 1) := by decide +kernel
theorem dX5_count_3 : decode cX5_count 3 = .ok (.ldc2_w 328, 3) := by decide +kernel
theorem dX5_count_6 : decode cX5_count 6 = .ok (.invokestatic 77, 3) := by decide +kernel
theorem dX5_count_9 : decode cX5_count 9 = .ok (.ifCond .eq 11, 3) := by decide +kernel
theorem dX5_count_12 : decode cX5_count 12 = .ok (.aload_n 0, 1) := by decide +kernel
theorem dX5_count_13 : decode cX5_count 13 = .ok (.iload_n 1, 1) := by decide +kernel
theorem dX5_count_14 : decode cX5_count 14 = .ok (.invokevirtual 330, 3) := by decide +kernel
theorem dX5_count_17 : decode cX5_count 17 = .ok (.goto 4, 3) := by decide +kernel
theorem dX5_count_20 : decode cX5_count 20 = .ok (.iconst (-1), 1) := by decide +kernel
theorem dX5_count_21 : decode cX5_count 21 = .ok (.ireturn, 1) := by decide +kernel
theorem dX5_applause_0 : decode cX5_applause 0 = .ok (.sipush 1000, 3) := by decide +kernel
theorem dX5_applause_3 : decode cX5_applause 3 = .ok (.aload_n 0, 1) := by decide +kernel
theorem dX5_applause_4 : decode cX5_applause 4 = .ok (.getfield 7, 3) := by decide +kernel
theorem dX5_applause_7 : decode cX5_applause 7 = .ok (.iconst 4, 1) := by decide +kernel
theorem dX5_applause_8 : decode cX5_applause 8 = .ok (.iaload, 1) := by decide +kernel
theorem dX5_applause_9 : decode cX5_applause 9 = .ok (.iadd, 1) := by decide +kernel
theorem dX5_applause_10 : decode cX5_applause 10 = .ok (.ireturn, 1) := by decide +kernel
theorem dX5_finding_0 : decode cX5_finding 0 = .ok (.aload_n 0, 1) := by decide +kernel
theorem dX5_finding_1 : decode cX5_finding 1 = .ok (.getfield 68, 3) := by decide +kernel
theorem dX5_finding_4 : decode cX5_finding 4 = .ok (.ireturn, 1) := by decide +kernel
theorem dX5_findings_0 : decode cX5_findings 0 = .ok (.iload_n 1, 1) := by decide +kernel
theorem dX5_findings_1 : decode cX5_findings 1 = .ok (.i2l, 1) := by decide +kernel
theorem dX5_findings_2 : decode cX5_findings 2 = .ok (.lconst 1, 1) := by decide +kernel
theorem dX5_findings_3 : decode cX5_findings 3 = .ok (.ldc2_w 75, 3) := by decide +kernel
theorem dX5_findings_6 : decode cX5_findings 6 = .ok (.invokestatic 77, 3) := by decide +kernel
theorem dX5_findings_9 : decode cX5_findings 9 = .ok (.ifCond .eq 12, 3) := by decide +kernel
theorem dX5_findings_12 : decode cX5_findings 12 = .ok (.aload_n 0, 1) := by decide +kernel
theorem dX5_findings_13 : decode cX5_findings 13 = .ok (.getfield 41, 3) := by decide +kernel
theorem dX5_findings_16 : decode cX5_findings 16 = .ok (.iload_n 1, 1) := by decide +kernel
theorem dX5_findings_17 : decode cX5_findings 17 = .ok (.iaload, 1) := by decide +kernel
theorem dX5_findings_18 : decode cX5_findings 18 = .ok (.goto 4, 3) := by decide +kernel
theorem dX5_findings_21 : decode cX5_findings 21 = .ok (.iconst (-1), 1) := by decide +kernel
theorem dX5_findings_22 : decode cX5_findings 22 = .ok (.ireturn, 1) := by decide +kernel
theorem dX5_digest_0 : decode cX5_digest 0 = .ok (.ldc2_w 333, 3) := by decide +kernel
theorem dX5_digest_3 : decode cX5_digest 3 = .ok (.lstore_n 1, 1) := by decide +kernel
theorem dX5_digest_4 : decode cX5_digest 4 = .ok (.iconst 0, 1) := by decide +kernel
theorem dX5_digest_5 : decode cX5_digest 5 = .ok (.istore_n 3, 1) := by decide +kernel
theorem dX5_digest_6 : decode cX5_digest 6 = .ok (.iload_n 3, 1) := by decide +kernel
theorem dX5_digest_7 : decode cX5_digest 7 = .ok (.bipush 11, 2) := by decide +kernel
theorem dX5_digest_9 : decode cX5_digest 9 = .ok (.if_icmp .ge 22, 3) := by decide +kernel
theorem dX5_digest_12 : decode cX5_digest 12 = .ok (.ldc2_w 335, 3) := by decide +kernel
theorem dX5_digest_15 : decode cX5_digest 15 = .ok (.lload_n 1, 1) := by decide +kernel
theorem dX5_digest_16 : decode cX5_digest 16 = .ok (.lmul, 1) := by decide +kernel
theorem dX5_digest_17 : decode cX5_digest 17 = .ok (.aload_n 0, 1) := by decide +kernel
theorem dX5_digest_18 : decode cX5_digest 18 = .ok (.iload_n 3, 1) := by decide +kernel
theorem dX5_digest_19 : decode cX5_digest 19 = .ok (.invokevirtual 330, 3) := by decide +kernel
theorem dX5_digest_22 : decode cX5_digest 22 = .ok (.i2l, 1) := by decide +kernel
theorem dX5_digest_23 : decode cX5_digest 23 = .ok (.ladd, 1) := by decide +kernel
theorem dX5_digest_24 : decode cX5_digest 24 = .ok (.lstore_n 1, 1) := by decide +kernel
theorem dX5_digest_25 : decode cX5_digest 25 = .ok (.iinc 3 1, 3) := by decide +kernel
theorem dX5_digest_28 : decode cX5_digest 28 = .ok (.goto (-22), 3) := by decide +kernel
theorem dX5_digest_31 : decode cX5_digest 31 = .ok (.ldc2_w 335, 3) := by decide +kernel
theorem dX5_digest_34 : decode cX5_digest 34 = .ok (.lload_n 1, 1) := by decide +kernel
theorem dX5_digest_35 : decode cX5_digest 35 = .ok (.lmul, 1) := by decide +kernel
theorem dX5_digest_36 : decode cX5_digest 36 = .ok (.aload_n 0, 1) := by decide +kernel
theorem dX5_digest_37 : decode cX5_digest 37 = .ok (.invokevirtual 337, 3) := by decide +kernel
theorem dX5_digest_40 : decode cX5_digest 40 = .ok (.i2l, 1) := by decide +kernel
theorem dX5_digest_41 : decode cX5_digest 41 = .ok (.ladd, 1) := by decide +kernel
theorem dX5_digest_42 : decode cX5_digest 42 = .ok (.lstore_n 1, 1) := by decide +kernel
theorem dX5_digest_43 : decode cX5_digest 43 = .ok (.iconst 0, 1) := by decide +kernel
theorem dX5_digest_44 : decode cX5_digest 44 = .ok (.istore_n 3, 1) := by decide +kernel
theorem dX5_digest_45 : decode cX5_digest 45 = .ok (.iload_n 3, 1) := by decide +kernel
theorem dX5_digest_46 : decode cX5_digest 46 = .ok (.aload_n 0, 1) := by decide +kernel
theorem dX5_digest_47 : decode cX5_digest 47 = .ok (.getfield 160, 3) := by decide +kernel
theorem dX5_digest_50 : decode cX5_digest 50 = .ok (.if_icmp .ge 23, 3) := by decide +kernel
theorem dX5_digest_53 : decode cX5_digest 53 = .ok (.ldc2_w 335, 3) := by decide +kernel
theorem dX5_digest_56 : decode cX5_digest 56 = .ok (.lload_n 1, 1) := by decide +kernel
theorem dX5_digest_57 : decode cX5_digest 57 = .ok (.lmul, 1) := by decide +kernel
theorem dX5_digest_58 : decode cX5_digest 58 = .ok (.aload_n 0, 1) := by decide +kernel
theorem dX5_digest_59 : decode cX5_digest 59 = .ok (.getfield 13, 3) := by decide +kernel
theorem dX5_digest_62 : decode cX5_digest 62 = .ok (.iload_n 3, 1) := by decide +kernel
theorem dX5_digest_63 : decode cX5_digest 63 = .ok (.iaload, 1) := by decide +kernel
theorem dX5_digest_64 : decode cX5_digest 64 = .ok (.i2l, 1) := by decide +kernel
theorem dX5_digest_65 : decode cX5_digest 65 = .ok (.ladd, 1) := by decide +kernel
theorem dX5_digest_66 : decode cX5_digest 66 = .ok (.lstore_n 1, 1) := by decide +kernel
theorem dX5_digest_67 : decode cX5_digest 67 = .ok (.iinc 3 1, 3) := by decide +kernel
theorem dX5_digest_70 : decode cX5_digest 70 = .ok (.goto (-25), 3) := by decide +kernel
theorem dX5_digest_73 : decode cX5_digest 73 = .ok (.iconst 0, 1) := by decide +kernel
theorem dX5_digest_74 : decode cX5_digest 74 = .ok (.istore_n 3, 1) := by decide +kernel
theorem dX5_digest_75 : decode cX5_digest 75 = .ok (.iload_n 3, 1) := by decide +kernel
theorem dX5_digest_76 : decode cX5_digest 76 = .ok (.bipush 8, 2) := by decide +kernel
theorem dX5_digest_78 : decode cX5_digest 78 = .ok (.aload_n 0, 1) := by decide +kernel
theorem dX5_digest_79 : decode cX5_digest 79 = .ok (.getfield 163, 3) := by decide +kernel
theorem dX5_digest_82 : decode cX5_digest 82 = .ok (.imul, 1) := by decide +kernel
theorem dX5_digest_83 : decode cX5_digest 83 = .ok (.if_icmp .ge 29, 3) := by decide +kernel
theorem dX5_digest_86 : decode cX5_digest 86 = .ok (.ldc2_w 335, 3) := by decide +kernel
theorem dX5_digest_89 : decode cX5_digest 89 = .ok (.lload_n 1, 1) := by decide +kernel
theorem dX5_digest_90 : decode cX5_digest 90 = .ok (.lmul, 1) := by decide +kernel
theorem dX5_digest_91 : decode cX5_digest 91 = .ok (.aload_n 0, 1) := by decide +kernel
theorem dX5_digest_92 : decode cX5_digest 92 = .ok (.iload_n 3, 1) := by decide +kernel
theorem dX5_digest_93 : decode cX5_digest 93 = .ok (.bipush 8, 2) := by decide +kernel
theorem dX5_digest_95 : decode cX5_digest 95 = .ok (.idiv, 1) := by decide +kernel
theorem dX5_digest_96 : decode cX5_digest 96 = .ok (.iload_n 3, 1) := by decide +kernel
theorem dX5_digest_97 : decode cX5_digest 97 = .ok (.bipush 8, 2) := by decide +kernel
theorem dX5_digest_99 : decode cX5_digest 99 = .ok (.irem, 1) := by decide +kernel
theorem dX5_digest_100 : decode cX5_digest 100 = .ok (.invokevirtual 203, 3) := by decide +kernel
theorem dX5_digest_103 : decode cX5_digest 103 = .ok (.i2l, 1) := by decide +kernel
theorem dX5_digest_104 : decode cX5_digest 104 = .ok (.ladd, 1) := by decide +kernel
theorem dX5_digest_105 : decode cX5_digest 105 = .ok (.lstore_n 1, 1) := by decide +kernel
theorem dX5_digest_106 : decode cX5_digest 106 = .ok (.iinc 3 1, 3) := by decide +kernel
theorem dX5_digest_109 : decode cX5_digest 109 = .ok (.goto (-34), 3) := by decide +kernel
theorem dX5_digest_112 : decode cX5_digest 112 = .ok (.iconst 1, 1) := by decide +kernel
theorem dX5_digest_113 : decode cX5_digest 113 = .ok (.istore_n 3, 1) := by decide +kernel
theorem dX5_digest_114 : decode cX5_digest 114 = .ok (.iload_n 3, 1) := by decide +kernel
theorem dX5_digest_115 : decode cX5_digest 115 = .ok (.iconst 4, 1) := by decide +kernel
theorem dX5_digest_116 : decode cX5_digest 116 = .ok (.if_icmp .ge 29, 3) := by decide +kernel
theorem dX5_digest_119 : decode cX5_digest 119 = .ok (.ldc2_w 335, 3) := by decide +kernel
theorem dX5_digest_122 : decode cX5_digest 122 = .ok (.lload_n 1, 1) := by decide +kernel
theorem dX5_digest_123 : decode cX5_digest 123 = .ok (.lmul, 1) := by decide +kernel
theorem dX5_digest_124 : decode cX5_digest 124 = .ok (.aload_n 0, 1) := by decide +kernel
theorem dX5_digest_125 : decode cX5_digest 125 = .ok (.getfield 7, 3) := by decide +kernel
theorem dX5_digest_128 : decode cX5_digest 128 = .ok (.sipush 493, 3) := by decide +kernel
theorem dX5_digest_131 : decode cX5_digest 131 = .ok (.iload_n 3, 1) := by decide +kernel
theorem dX5_digest_132 : decode cX5_digest 132 = .ok (.imul, 1) := by decide +kernel
theorem dX5_digest_133 : decode cX5_digest 133 = .ok (.iconst 0, 1) := by decide +kernel
theorem dX5_digest_134 : decode cX5_digest 134 = .ok (.iadd, 1) := by decide +kernel
theorem dX5_digest_135 : decode cX5_digest 135 = .ok (.iaload, 1) := by decide +kernel
theorem dX5_digest_136 : decode cX5_digest 136 = .ok (.i2l, 1) := by decide +kernel
theorem dX5_digest_137 : decode cX5_digest 137 = .ok (.ladd, 1) := by decide +kernel
theorem dX5_digest_138 : decode cX5_digest 138 = .ok (.lstore_n 1, 1) := by decide +kernel
theorem dX5_digest_139 : decode cX5_digest 139 = .ok (.iinc 3 1, 3) := by decide +kernel
theorem dX5_digest_142 : decode cX5_digest 142 = .ok (.goto (-28), 3) := by decide +kernel
theorem dX5_digest_145 : decode cX5_digest 145 = .ok (.iconst 0, 1) := by decide +kernel
theorem dX5_digest_146 : decode cX5_digest 146 = .ok (.istore_n 3, 1) := by decide +kernel
theorem dX5_digest_147 : decode cX5_digest 147 = .ok (.iload_n 3, 1) := by decide +kernel
theorem dX5_digest_148 : decode cX5_digest 148 = .ok (.bipush 6, 2) := by decide +kernel
theorem dX5_digest_150 : decode cX5_digest 150 = .ok (.if_icmp .ge 63, 3) := by decide +kernel
theorem dX5_digest_153 : decode cX5_digest 153 = .ok (.ldc2_w 335, 3) := by decide +kernel
theorem dX5_digest_156 : decode cX5_digest 156 = .ok (.lload_n 1, 1) := by decide +kernel
theorem dX5_digest_157 : decode cX5_digest 157 = .ok (.lmul, 1) := by decide +kernel
theorem dX5_digest_158 : decode cX5_digest 158 = .ok (.aload_n 0, 1) := by decide +kernel
theorem dX5_digest_159 : decode cX5_digest 159 = .ok (.getfield 25, 3) := by decide +kernel
theorem dX5_digest_162 : decode cX5_digest 162 = .ok (.iload_n 3, 1) := by decide +kernel
theorem dX5_digest_163 : decode cX5_digest 163 = .ok (.iaload, 1) := by decide +kernel
theorem dX5_digest_164 : decode cX5_digest 164 = .ok (.i2l, 1) := by decide +kernel
theorem dX5_digest_165 : decode cX5_digest 165 = .ok (.ladd, 1) := by decide +kernel
theorem dX5_digest_166 : decode cX5_digest 166 = .ok (.lstore_n 1, 1) := by decide +kernel
theorem dX5_digest_167 : decode cX5_digest 167 = .ok (.iconst 0, 1) := by decide +kernel
theorem dX5_digest_168 : decode cX5_digest 168 = .ok (.istore 4, 2) := by decide +kernel
theorem dX5_digest_170 : decode cX5_digest 170 = .ok (.iload 4, 2) := by decide +kernel
theorem dX5_digest_172 : decode cX5_digest 172 = .ok (.aload_n 0, 1) := by decide +kernel
theorem dX5_digest_173 : decode cX5_digest 173 = .ok (.getfield 25, 3) := by decide +kernel
theorem dX5_digest_176 : decode cX5_digest 176 = .ok (.iload_n 3, 1) := by decide +kernel
theorem dX5_digest_177 : decode cX5_digest 177 = .ok (.iaload, 1) := by decide +kernel
theorem dX5_digest_178 : decode cX5_digest 178 = .ok (.if_icmp .ge 29, 3) := by decide +kernel
theorem dX5_digest_181 : decode cX5_digest 181 = .ok (.ldc2_w 335, 3) := by decide +kernel
theorem dX5_digest_184 : decode cX5_digest 184 = .ok (.lload_n 1, 1) := by decide +kernel
theorem dX5_digest_185 : decode cX5_digest 185 = .ok (.lmul, 1) := by decide +kernel
theorem dX5_digest_186 : decode cX5_digest 186 = .ok (.aload_n 0, 1) := by decide +kernel
theorem dX5_digest_187 : decode cX5_digest 187 = .ok (.getfield 28, 3) := by decide +kernel
theorem dX5_digest_190 : decode cX5_digest 190 = .ok (.bipush 40, 2) := by decide +kernel
theorem dX5_digest_192 : decode cX5_digest 192 = .ok (.iload_n 3, 1) := by decide +kernel
theorem dX5_digest_193 : decode cX5_digest 193 = .ok (.imul, 1) := by decide +kernel
theorem dX5_digest_194 : decode cX5_digest 194 = .ok (.iload 4, 2) := by decide +kernel
theorem dX5_digest_196 : decode cX5_digest 196 = .ok (.iadd, 1) := by decide +kernel
theorem dX5_digest_197 : decode cX5_digest 197 = .ok (.iaload, 1) := by decide +kernel
theorem dX5_digest_198 : decode cX5_digest 198 = .ok (.i2l, 1) := by decide +kernel
theorem dX5_digest_199 : decode cX5_digest 199 = .ok (.ladd, 1) := by decide +kernel
theorem dX5_digest_200 : decode cX5_digest 200 = .ok (.lstore_n 1, 1) := by decide +kernel
theorem dX5_digest_201 : decode cX5_digest 201 = .ok (.iinc 4 1, 3) := by decide +kernel
theorem dX5_digest_204 : decode cX5_digest 204 = .ok (.goto (-34), 3) := by decide +kernel
theorem dX5_digest_207 : decode cX5_digest 207 = .ok (.iinc 3 1, 3) := by decide +kernel
theorem dX5_digest_210 : decode cX5_digest 210 = .ok (.goto (-63), 3) := by decide +kernel
theorem dX5_digest_213 : decode cX5_digest 213 = .ok (.iconst 0, 1) := by decide +kernel
theorem dX5_digest_214 : decode cX5_digest 214 = .ok (.istore_n 3, 1) := by decide +kernel
theorem dX5_digest_215 : decode cX5_digest 215 = .ok (.iload_n 3, 1) := by decide +kernel
theorem dX5_digest_216 : decode cX5_digest 216 = .ok (.iconst 4, 1) := by decide +kernel
theorem dX5_digest_217 : decode cX5_digest 217 = .ok (.if_icmp .ge 63, 3) := by decide +kernel
theorem dX5_digest_220 : decode cX5_digest 220 = .ok (.ldc2_w 335, 3) := by decide +kernel
theorem dX5_digest_223 : decode cX5_digest 223 = .ok (.lload_n 1, 1) := by decide +kernel
theorem dX5_digest_224 : decode cX5_digest 224 = .ok (.lmul, 1) := by decide +kernel
theorem dX5_digest_225 : decode cX5_digest 225 = .ok (.aload_n 0, 1) := by decide +kernel
theorem dX5_digest_226 : decode cX5_digest 226 = .ok (.getfield 31, 3) := by decide +kernel
theorem dX5_digest_229 : decode cX5_digest 229 = .ok (.iload_n 3, 1) := by decide +kernel
theorem dX5_digest_230 : decode cX5_digest 230 = .ok (.iaload, 1) := by decide +kernel
theorem dX5_digest_231 : decode cX5_digest 231 = .ok (.i2l, 1) := by decide +kernel
theorem dX5_digest_232 : decode cX5_digest 232 = .ok (.ladd, 1) := by decide +kernel
theorem dX5_digest_233 : decode cX5_digest 233 = .ok (.lstore_n 1, 1) := by decide +kernel
theorem dX5_digest_234 : decode cX5_digest 234 = .ok (.iconst 0, 1) := by decide +kernel
theorem dX5_digest_235 : decode cX5_digest 235 = .ok (.istore 4, 2) := by decide +kernel
theorem dX5_digest_237 : decode cX5_digest 237 = .ok (.iload 4, 2) := by decide +kernel
theorem dX5_digest_239 : decode cX5_digest 239 = .ok (.aload_n 0, 1) := by decide +kernel
theorem dX5_digest_240 : decode cX5_digest 240 = .ok (.getfield 31, 3) := by decide +kernel
theorem dX5_digest_243 : decode cX5_digest 243 = .ok (.iload_n 3, 1) := by decide +kernel
theorem dX5_digest_244 : decode cX5_digest 244 = .ok (.iaload, 1) := by decide +kernel
theorem dX5_digest_245 : decode cX5_digest 245 = .ok (.if_icmp .ge 29, 3) := by decide +kernel
theorem dX5_digest_248 : decode cX5_digest 248 = .ok (.ldc2_w 335, 3) := by decide +kernel
theorem dX5_digest_251 : decode cX5_digest 251 = .ok (.lload_n 1, 1) := by decide +kernel
theorem dX5_digest_252 : decode cX5_digest 252 = .ok (.lmul, 1) := by decide +kernel
theorem dX5_digest_253 : decode cX5_digest 253 = .ok (.aload_n 0, 1) := by decide +kernel
theorem dX5_digest_254 : decode cX5_digest 254 = .ok (.getfield 34, 3) := by decide +kernel
theorem dX5_digest_257 : decode cX5_digest 257 = .ok (.bipush 60, 2) := by decide +kernel
theorem dX5_digest_259 : decode cX5_digest 259 = .ok (.iload_n 3, 1) := by decide +kernel
theorem dX5_digest_260 : decode cX5_digest 260 = .ok (.imul, 1) := by decide +kernel
theorem dX5_digest_261 : decode cX5_digest 261 = .ok (.iload 4, 2) := by decide +kernel
theorem dX5_digest_263 : decode cX5_digest 263 = .ok (.iadd, 1) := by decide +kernel
theorem dX5_digest_264 : decode cX5_digest 264 = .ok (.iaload, 1) := by decide +kernel
theorem dX5_digest_265 : decode cX5_digest 265 = .ok (.i2l, 1) := by decide +kernel
theorem dX5_digest_266 : decode cX5_digest 266 = .ok (.ladd, 1) := by decide +kernel
theorem dX5_digest_267 : decode cX5_digest 267 = .ok (.lstore_n 1, 1) := by decide +kernel
theorem dX5_digest_268 : decode cX5_digest 268 = .ok (.iinc 4 1, 3) := by decide +kernel
theorem dX5_digest_271 : decode cX5_digest 271 = .ok (.goto (-34), 3) := by decide +kernel
theorem dX5_digest_274 : decode cX5_digest 274 = .ok (.iinc 3 1, 3) := by decide +kernel
theorem dX5_digest_277 : decode cX5_digest 277 = .ok (.goto (-62), 3) := by decide +kernel
theorem dX5_digest_280 : decode cX5_digest 280 = .ok (.lload_n 1, 1) := by decide +kernel
theorem dX5_digest_281 : decode cX5_digest 281 = .ok (.lreturn, 1) := by decide +kernel
theorem dJ6_bitCount_0f7a4_0 : decode cJ6_bitCount_0f7a4 0 = .ok (.iload_n 0, 1) := by decide +kernel
theorem dJ6_bitCount_0f7a4_1 : decode cJ6_bitCount_0f7a4 1 = .ok (.iload_n 0, 1) := by decide +kernel
theorem dJ6_bitCount_0f7a4_2 : decode cJ6_bitCount_0f7a4 2 = .ok (.iconst 1, 1) := by decide +kernel
theorem dJ6_bitCount_0f7a4_3 : decode cJ6_bitCount_0f7a4 3 = .ok (.iushr, 1) := by decide +kernel
theorem dJ6_bitCount_0f7a4_4 : decode cJ6_bitCount_0f7a4 4 = .ok (.ldc_w 265, 3) := by decide +kernel
theorem dJ6_bitCount_0f7a4_7 : decode cJ6_bitCount_0f7a4 7 = .ok (.iand, 1) := by decide +kernel
theorem dJ6_bitCount_0f7a4_8 : decode cJ6_bitCount_0f7a4 8 = .ok (.isub, 1) := by decide +kernel
theorem dJ6_bitCount_0f7a4_9 : decode cJ6_bitCount_0f7a4 9 = .ok (.istore_n 0, 1) := by decide +kernel
theorem dJ6_bitCount_0f7a4_10 : decode cJ6_bitCount_0f7a4 10 = .ok (.iload_n 0, 1) := by decide +kernel
theorem dJ6_bitCount_0f7a4_11 : decode cJ6_bitCount_0f7a4 11 = .ok (.ldc_w 266, 3) := by decide +kernel
theorem dJ6_bitCount_0f7a4_14 : decode cJ6_bitCount_0f7a4 14 = .ok (.iand, 1) := by decide +kernel
theorem dJ6_bitCount_0f7a4_15 : decode cJ6_bitCount_0f7a4 15 = .ok (.iload_n 0, 1) := by decide +kernel
theorem dJ6_bitCount_0f7a4_16 : decode cJ6_bitCount_0f7a4 16 = .ok (.iconst 2, 1) := by decide +kernel
theorem dJ6_bitCount_0f7a4_17 : decode cJ6_bitCount_0f7a4 17 = .ok (.iushr, 1) := by decide +kernel
theorem dJ6_bitCount_0f7a4_18 : decode cJ6_bitCount_0f7a4 18 = .ok (.ldc_w 266, 3) := by decide +kernel
theorem dJ6_bitCount_0f7a4_21 : decode cJ6_bitCount_0f7a4 21 = .ok (.iand, 1) := by decide +kernel
theorem dJ6_bitCount_0f7a4_22 : decode cJ6_bitCount_0f7a4 22 = .ok (.iadd, 1) := by decide +kernel
theorem dJ6_bitCount_0f7a4_23 : decode cJ6_bitCount_0f7a4 23 = .ok (.istore_n 0, 1) := by decide +kernel
theorem dJ6_bitCount_0f7a4_24 : decode cJ6_bitCount_0f7a4 24 = .ok (.iload_n 0, 1) := by decide +kernel
theorem dJ6_bitCount_0f7a4_25 : decode cJ6_bitCount_0f7a4 25 = .ok (.iload_n 0, 1) := by decide +kernel
theorem dJ6_bitCount_0f7a4_26 : decode cJ6_bitCount_0f7a4 26 = .ok (.iconst 4, 1) := by decide +kernel
theorem dJ6_bitCount_0f7a4_27 : decode cJ6_bitCount_0f7a4 27 = .ok (.iushr, 1) := by decide +kernel
theorem dJ6_bitCount_0f7a4_28 : decode cJ6_bitCount_0f7a4 28 = .ok (.iadd, 1) := by decide +kernel
theorem dJ6_bitCount_0f7a4_29 : decode cJ6_bitCount_0f7a4 29 = .ok (.ldc_w 267, 3) := by decide +kernel
theorem dJ6_bitCount_0f7a4_32 : decode cJ6_bitCount_0f7a4 32 = .ok (.iand, 1) := by decide +kernel
theorem dJ6_bitCount_0f7a4_33 : decode cJ6_bitCount_0f7a4 33 = .ok (.istore_n 0, 1) := by decide +kernel
theorem dJ6_bitCount_0f7a4_34 : decode cJ6_bitCount_0f7a4 34 = .ok (.iload_n 0, 1) := by decide +kernel
theorem dJ6_bitCount_0f7a4_35 : decode cJ6_bitCount_0f7a4 35 = .ok (.iload_n 0, 1) := by decide +kernel
theorem dJ6_bitCount_0f7a4_36 : decode cJ6_bitCount_0f7a4 36 = .ok (.bipush 8, 2) := by decide +kernel
theorem dJ6_bitCount_0f7a4_38 : decode cJ6_bitCount_0f7a4 38 = .ok (.iushr, 1) := by decide +kernel
theorem dJ6_bitCount_0f7a4_39 : decode cJ6_bitCount_0f7a4 39 = .ok (.iadd, 1) := by decide +kernel
theorem dJ6_bitCount_0f7a4_40 : decode cJ6_bitCount_0f7a4 40 = .ok (.istore_n 0, 1) := by decide +kernel
theorem dJ6_bitCount_0f7a4_41 : decode cJ6_bitCount_0f7a4 41 = .ok (.iload_n 0, 1) := by decide +kernel
theorem dJ6_bitCount_0f7a4_42 : decode cJ6_bitCount_0f7a4 42 = .ok (.iload_n 0, 1) := by decide +kernel
theorem dJ6_bitCount_0f7a4_43 : decode cJ6_bitCount_0f7a4 43 = .ok (.bipush 16, 2) := by decide +kernel
theorem dJ6_bitCount_0f7a4_45 : decode cJ6_bitCount_0f7a4 45 = .ok (.iushr, 1) := by decide +kernel
theorem dJ6_bitCount_0f7a4_46 : decode cJ6_bitCount_0f7a4 46 = .ok (.iadd, 1) := by decide +kernel
theorem dJ6_bitCount_0f7a4_47 : decode cJ6_bitCount_0f7a4 47 = .ok (.istore_n 0, 1) := by decide +kernel
theorem dJ6_bitCount_0f7a4_48 : decode cJ6_bitCount_0f7a4 48 = .ok (.iload_n 0, 1) := by decide +kernel
theorem dJ6_bitCount_0f7a4_49 : decode cJ6_bitCount_0f7a4 49 = .ok (.bipush 63, 2) := by decide +kernel
theorem dJ6_bitCount_0f7a4_51 : decode cJ6_bitCount_0f7a4 51 = .ok (.iand, 1) := by decide +kernel
theorem dJ6_bitCount_0f7a4_52 : decode cJ6_bitCount_0f7a4 52 = .ok (.ireturn, 1) := by decide +kernel
theorem dJ9_floorMod_7cf53_0 : decode cJ9_floorMod_7cf53 0 = .ok (.iload_n 0, 1) := by decide +kernel
theorem dJ9_floorMod_7cf53_1 : decode cJ9_floorMod_7cf53 1 = .ok (.iload_n 1, 1) := by decide +kernel
theorem dJ9_floorMod_7cf53_2 : decode cJ9_floorMod_7cf53 2 = .ok (.irem, 1) := by decide +kernel
theorem dJ9_floorMod_7cf53_3 : decode cJ9_floorMod_7cf53 3 = .ok (.istore_n 2, 1) := by decide +kernel
theorem dJ9_floorMod_7cf53_4 : decode cJ9_floorMod_7cf53 4 = .ok (.iload_n 0, 1) := by decide +kernel
theorem dJ9_floorMod_7cf53_5 : decode cJ9_floorMod_7cf53 5 = .ok (.iload_n 1, 1) := by decide +kernel
theorem dJ9_floorMod_7cf53_6 : decode cJ9_floorMod_7cf53 6 = .ok (.ixor, 1) := by decide +kernel
theorem dJ9_floorMod_7cf53_7 : decode cJ9_floorMod_7cf53 7 = .ok (.ifCond .ge 11, 3) := by decide +kernel
theorem dJ9_floorMod_7cf53_10 : decode cJ9_floorMod_7cf53 10 = .ok (.iload_n 2, 1) := by decide +kernel
theorem dJ9_floorMod_7cf53_11 : decode cJ9_floorMod_7cf53 11 = .ok (.ifCond .eq 7, 3) := by decide +kernel
theorem dJ9_floorMod_7cf53_14 : decode cJ9_floorMod_7cf53 14 = .ok (.iload_n 2, 1) := by decide +kernel
theorem dJ9_floorMod_7cf53_15 : decode cJ9_floorMod_7cf53 15 = .ok (.iload_n 1, 1) := by decide +kernel
theorem dJ9_floorMod_7cf53_16 : decode cJ9_floorMod_7cf53 16 = .ok (.iadd, 1) := by decide +kernel
theorem dJ9_floorMod_7cf53_17 : decode cJ9_floorMod_7cf53 17 = .ok (.ireturn, 1) := by decide +kernel
theorem dJ9_floorMod_7cf53_18 : decode cJ9_floorMod_7cf53 18 = .ok (.iload_n 2, 1) := by decide +kernel
theorem dJ9_floorMod_7cf53_19 : decode cJ9_floorMod_7cf53 19 = .ok (.ireturn, 1) := by decide +kernel
theorem dJ9_abs_067f4_0 : decode cJ9_abs_067f4 0 = .ok (.lload_n 0, 1) := by decide +kernel
theorem dJ9_abs_067f4_1 : decode cJ9_abs_067f4 1 = .ok (.lconst 0, 1) := by decide +kernel
theorem dJ9_abs_067f4_2 : decode cJ9_abs_067f4 2 = .ok (.lcmp, 1) := by decide +kernel
theorem dJ9_abs_067f4_3 : decode cJ9_abs_067f4 3 = .ok (.ifCond .ge 8, 3) := by decide +kernel
theorem dJ9_abs_067f4_6 : decode cJ9_abs_067f4 6 = .ok (.lload_n 0, 1) := by decide +kernel
theorem dJ9_abs_067f4_7 : decode cJ9_abs_067f4 7 = .ok (.lneg, 1) := by decide +kernel
theorem dJ9_abs_067f4_8 : decode cJ9_abs_067f4 8 = .ok (.goto 4, 3) := by decide +kernel
theorem dJ9_abs_067f4_11 : decode cJ9_abs_067f4 11 = .ok (.lload_n 0, 1) := by decide +kernel
theorem dJ9_abs_067f4_12 : decode cJ9_abs_067f4 12 = .ok (.lreturn, 1) := by decide +kernel
theorem dJ9_max_7cf53_0 : decode cJ9_max_7cf53 0 = .ok (.iload_n 0, 1) := by decide +kernel
theorem dJ9_max_7cf53_1 : decode cJ9_max_7cf53 1 = .ok (.iload_n 1, 1) := by decide +kernel
theorem dJ9_max_7cf53_2 : decode cJ9_max_7cf53 2 = .ok (.if_icmp .lt 7, 3) := by decide +kernel
theorem dJ9_max_7cf53_5 : decode cJ9_max_7cf53 5 = .ok (.iload_n 0, 1) := by decide +kernel
theorem dJ9_max_7cf53_6 : decode cJ9_max_7cf53 6 = .ok (.goto 4, 3) := by decide +kernel
theorem dJ9_max_7cf53_9 : decode cJ9_max_7cf53 9 = .ok (.iload_n 1, 1) := by decide +kernel
theorem dJ9_max_7cf53_10 : decode cJ9_max_7cf53 10 = .ok (.ireturn, 1) := by decide +kernel
theorem dJ9_min_7cf53_0 : decode cJ9_min_7cf53 0 = .ok (.iload_n 0, 1) := by decide +kernel
theorem dJ9_min_7cf53_1 : decode cJ9_min_7cf53 1 = .ok (.iload_n 1, 1) := by decide +kernel
theorem dJ9_min_7cf53_2 : decode cJ9_min_7cf53 2 = .ok (.if_icmp .gt 7, 3) := by decide +kernel
theorem dJ9_min_7cf53_5 : decode cJ9_min_7cf53 5 = .ok (.iload_n 0, 1) := by decide +kernel
theorem dJ9_min_7cf53_6 : decode cJ9_min_7cf53 6 = .ok (.goto 4, 3) := by decide +kernel
theorem dJ9_min_7cf53_9 : decode cJ9_min_7cf53 9 = .ok (.iload_n 1, 1) := by decide +kernel
theorem dJ9_min_7cf53_10 : decode cJ9_min_7cf53 10 = .ok (.ireturn, 1) := by decide +kernel
theorem dJ7_fill_53178_0 : decode cJ7_fill_53178 0 = .ok (.iconst 0, 1) := by decide +kernel
theorem dJ7_fill_53178_1 : decode cJ7_fill_53178 1 = .ok (.istore_n 2, 1) := by decide +kernel
theorem dJ7_fill_53178_2 : decode cJ7_fill_53178 2 = .ok (.aload_n 0, 1) := by decide +kernel
theorem dJ7_fill_53178_3 : decode cJ7_fill_53178 3 = .ok (.arraylength, 1) := by decide +kernel
theorem dJ7_fill_53178_4 : decode cJ7_fill_53178 4 = .ok (.istore_n 3, 1) := by decide +kernel
theorem dJ7_fill_53178_5 : decode cJ7_fill_53178 5 = .ok (.iload_n 2, 1) := by decide +kernel
theorem dJ7_fill_53178_6 : decode cJ7_fill_53178 6 = .ok (.iload_n 3, 1) := by decide +kernel
theorem dJ7_fill_53178_7 : decode cJ7_fill_53178 7 = .ok (.if_icmp .ge 13, 3) := by decide +kernel
theorem dJ7_fill_53178_10 : decode cJ7_fill_53178 10 = .ok (.aload_n 0, 1) := by decide +kernel
theorem dJ7_fill_53178_11 : decode cJ7_fill_53178 11 = .ok (.iload_n 2, 1) := by decide +kernel
theorem dJ7_fill_53178_12 : decode cJ7_fill_53178 12 = .ok (.iload_n 1, 1) := by decide +kernel
theorem dJ7_fill_53178_13 : decode cJ7_fill_53178 13 = .ok (.iastore, 1) := by decide +kernel
theorem dJ7_fill_53178_14 : decode cJ7_fill_53178 14 = .ok (.iinc 2 1, 3) := by decide +kernel
theorem dJ7_fill_53178_17 : decode cJ7_fill_53178 17 = .ok (.goto (-12), 3) := by decide +kernel
theorem dJ7_fill_53178_20 : decode cJ7_fill_53178 20 = .ok (.return_, 1) := by decide +kernel
theorem dL_law_0 : decode cL_law 0 = .ok (.new 7, 3) := by decide +kernel
theorem dL_law_3 : decode cL_law 3 = .ok (.dup, 1) := by decide +kernel
theorem dL_law_4 : decode cL_law 4 = .ok (.invokespecial 9, 3) := by decide +kernel
theorem dL_law_7 : decode cL_law 7 = .ok (.astore_n 1, 1) := by decide +kernel
theorem dL_law_8 : decode cL_law 8 = .ok (.new 10, 3) := by decide +kernel
theorem dL_law_11 : decode cL_law 11 = .ok (.dup, 1) := by decide +kernel
theorem dL_law_12 : decode cL_law 12 = .ok (.invokespecial 12, 3) := by decide +kernel
theorem dL_law_15 : decode cL_law 15 = .ok (.astore_n 2, 1) := by decide +kernel
theorem dL_law_16 : decode cL_law 16 = .ok (.iconst 0, 1) := by decide +kernel
theorem dL_law_17 : decode cL_law 17 = .ok (.istore_n 3, 1) := by decide +kernel
theorem dL_law_18 : decode cL_law 18 = .ok (.iload_n 3, 1) := by decide +kernel
theorem dL_law_19 : decode cL_law 19 = .ok (.aload_n 0, 1) := by decide +kernel
theorem dL_law_20 : decode cL_law 20 = .ok (.arraylength, 1) := by decide +kernel
theorem dL_law_21 : decode cL_law 21 = .ok (.bipush 6, 2) := by decide +kernel
theorem dL_law_23 : decode cL_law 23 = .ok (.isub, 1) := by decide +kernel
theorem dL_law_24 : decode cL_law 24 = .ok (.if_icmp .gt 1197, 3) := by decide +kernel
theorem dL_law_27 : decode cL_law 27 = .ok (.aload_n 0, 1) := by decide +kernel
theorem dL_law_28 : decode cL_law 28 = .ok (.iload_n 3, 1) := by decide +kernel
theorem dL_law_29 : decode cL_law 29 = .ok (.iaload, 1) := by decide +kernel
theorem dL_law_30 : decode cL_law 30 = .ok (.bipush 63, 2) := by decide +kernel
theorem dL_law_32 : decode cL_law 32 = .ok (.iand, 1) := by decide +kernel
theorem dL_law_33 : decode cL_law 33 = .ok (.tableswitch 1182 0 41 #[183, 216, 259, 292, 315, 378, 401, 434, 477, 500, 523, 556, 589, 612, 635, 648, 681, 704, 727, 750, 763, 786, 809, 822, 845, 858, 871, 884, 917, 950, 973, 996, 1019, 1032, 1055, 1068, 1082, 1096, 1119, 1132, 1145, 1168], 183) := by decide +kernel
theorem dL_law_216 : decode cL_law 216 = .ok (.aload_n 1, 1) := by decide +kernel
theorem dL_law_217 : decode cL_law 217 = .ok (.aload_n 0, 1) := by decide +kernel
theorem dL_law_218 : decode cL_law 218 = .ok (.iload_n 3, 1) := by decide +kernel
theorem dL_law_219 : decode cL_law 219 = .ok (.iconst 1, 1) := by decide +kernel
theorem dL_law_220 : decode cL_law 220 = .ok (.iadd, 1) := by decide +kernel
theorem dL_law_221 : decode cL_law 221 = .ok (.iaload, 1) := by decide +kernel
theorem dL_law_222 : decode cL_law 222 = .ok (.aload_n 0, 1) := by decide +kernel
theorem dL_law_223 : decode cL_law 223 = .ok (.iload_n 3, 1) := by decide +kernel
theorem dL_law_224 : decode cL_law 224 = .ok (.iconst 2, 1) := by decide +kernel
theorem dL_law_225 : decode cL_law 225 = .ok (.iadd, 1) := by decide +kernel
theorem dL_law_226 : decode cL_law 226 = .ok (.iaload, 1) := by decide +kernel
theorem dL_law_227 : decode cL_law 227 = .ok (.invokevirtual 13, 3) := by decide +kernel
theorem dL_law_230 : decode cL_law 230 = .ok (.aload_n 2, 1) := by decide +kernel
theorem dL_law_231 : decode cL_law 231 = .ok (.aload_n 0, 1) := by decide +kernel
theorem dL_law_232 : decode cL_law 232 = .ok (.iload_n 3, 1) := by decide +kernel
theorem dL_law_233 : decode cL_law 233 = .ok (.iconst 1, 1) := by decide +kernel
theorem dL_law_234 : decode cL_law 234 = .ok (.iadd, 1) := by decide +kernel
theorem dL_law_235 : decode cL_law 235 = .ok (.iaload, 1) := by decide +kernel
theorem dL_law_236 : decode cL_law 236 = .ok (.aload_n 0, 1) := by decide +kernel
theorem dL_law_237 : decode cL_law 237 = .ok (.iload_n 3, 1) := by decide +kernel
theorem dL_law_238 : decode cL_law 238 = .ok (.iconst 2, 1) := by decide +kernel
theorem dL_law_239 : decode cL_law 239 = .ok (.iadd, 1) := by decide +kernel
theorem dL_law_240 : decode cL_law 240 = .ok (.iaload, 1) := by decide +kernel
theorem dL_law_241 : decode cL_law 241 = .ok (.invokevirtual 17, 3) := by decide +kernel
theorem dL_law_244 : decode cL_law 244 = .ok (.if_icmp .eq 971, 3) := by decide +kernel
theorem dL_law_247 : decode cL_law 247 = .ok (.iconst 0, 1) := by decide +kernel
theorem dL_law_248 : decode cL_law 248 = .ok (.ireturn, 1) := by decide +kernel
theorem dL_law_249 : decode cL_law 249 = .ok (.aload_n 1, 1) := by decide +kernel
theorem dL_law_250 : decode cL_law 250 = .ok (.aload_n 0, 1) := by decide +kernel
theorem dL_law_251 : decode cL_law 251 = .ok (.iload_n 3, 1) := by decide +kernel
theorem dL_law_252 : decode cL_law 252 = .ok (.iconst 1, 1) := by decide +kernel
theorem dL_law_253 : decode cL_law 253 = .ok (.iadd, 1) := by decide +kernel
theorem dL_law_254 : decode cL_law 254 = .ok (.iaload, 1) := by decide +kernel
theorem dL_law_255 : decode cL_law 255 = .ok (.aload_n 0, 1) := by decide +kernel
theorem dL_law_256 : decode cL_law 256 = .ok (.iload_n 3, 1) := by decide +kernel
theorem dL_law_257 : decode cL_law 257 = .ok (.iconst 2, 1) := by decide +kernel
theorem dL_law_258 : decode cL_law 258 = .ok (.iadd, 1) := by decide +kernel
theorem dL_law_259 : decode cL_law 259 = .ok (.iaload, 1) := by decide +kernel
theorem dL_law_260 : decode cL_law 260 = .ok (.aload_n 0, 1) := by decide +kernel
theorem dL_law_261 : decode cL_law 261 = .ok (.iload_n 3, 1) := by decide +kernel
theorem dL_law_262 : decode cL_law 262 = .ok (.iconst 3, 1) := by decide +kernel
theorem dL_law_263 : decode cL_law 263 = .ok (.iadd, 1) := by decide +kernel
theorem dL_law_264 : decode cL_law 264 = .ok (.iaload, 1) := by decide +kernel
theorem dL_law_265 : decode cL_law 265 = .ok (.invokevirtual 18, 3) := by decide +kernel
theorem dL_law_268 : decode cL_law 268 = .ok (.aload_n 2, 1) := by decide +kernel
theorem dL_law_269 : decode cL_law 269 = .ok (.aload_n 0, 1) := by decide +kernel
theorem dL_law_270 : decode cL_law 270 = .ok (.iload_n 3, 1) := by decide +kernel
theorem dL_law_271 : decode cL_law 271 = .ok (.iconst 1, 1) := by decide +kernel
theorem dL_law_272 : decode cL_law 272 = .ok (.iadd, 1) := by decide +kernel
theorem dL_law_273 : decode cL_law 273 = .ok (.iaload, 1) := by decide +kernel
theorem dL_law_274 : decode cL_law 274 = .ok (.aload_n 0, 1) := by decide +kernel
theorem dL_law_275 : decode cL_law 275 = .ok (.iload_n 3, 1) := by decide +kernel
theorem dL_law_276 : decode cL_law 276 = .ok (.iconst 2, 1) := by decide +kernel
theorem dL_law_277 : decode cL_law 277 = .ok (.iadd, 1) := by decide +kernel
theorem dL_law_278 : decode cL_law 278 = .ok (.iaload, 1) := by decide +kernel
theorem dL_law_279 : decode cL_law 279 = .ok (.aload_n 0, 1) := by decide +kernel
theorem dL_law_280 : decode cL_law 280 = .ok (.iload_n 3, 1) := by decide +kernel
theorem dL_law_281 : decode cL_law 281 = .ok (.iconst 3, 1) := by decide +kernel
theorem dL_law_282 : decode cL_law 282 = .ok (.iadd, 1) := by decide +kernel
theorem dL_law_283 : decode cL_law 283 = .ok (.iaload, 1) := by decide +kernel
theorem dL_law_284 : decode cL_law 284 = .ok (.invokevirtual 22, 3) := by decide +kernel
theorem dL_law_287 : decode cL_law 287 = .ok (.if_icmp .eq 928, 3) := by decide +kernel
theorem dL_law_290 : decode cL_law 290 = .ok (.iconst 0, 1) := by decide +kernel
theorem dL_law_291 : decode cL_law 291 = .ok (.ireturn, 1) := by decide +kernel
theorem dL_law_292 : decode cL_law 292 = .ok (.aload_n 1, 1) := by decide +kernel
theorem dL_law_293 : decode cL_law 293 = .ok (.aload_n 0, 1) := by decide +kernel
theorem dL_law_294 : decode cL_law 294 = .ok (.iload_n 3, 1) := by decide +kernel
theorem dL_law_295 : decode cL_law 295 = .ok (.iconst 1, 1) := by decide +kernel
theorem dL_law_296 : decode cL_law 296 = .ok (.iadd, 1) := by decide +kernel
theorem dL_law_297 : decode cL_law 297 = .ok (.iaload, 1) := by decide +kernel
theorem dL_law_298 : decode cL_law 298 = .ok (.aload_n 0, 1) := by decide +kernel
theorem dL_law_299 : decode cL_law 299 = .ok (.iload_n 3, 1) := by decide +kernel
theorem dL_law_300 : decode cL_law 300 = .ok (.iconst 2, 1) := by decide +kernel
theorem dL_law_301 : decode cL_law 301 = .ok (.iadd, 1) := by decide +kernel
theorem dL_law_302 : decode cL_law 302 = .ok (.iaload, 1) := by decide +kernel
theorem dL_law_303 : decode cL_law 303 = .ok (.invokevirtual 23, 3) := by decide +kernel
theorem dL_law_306 : decode cL_law 306 = .ok (.aload_n 2, 1) := by decide +kernel
theorem dL_law_307 : decode cL_law 307 = .ok (.aload_n 0, 1) := by decide +kernel
theorem dL_law_308 : decode cL_law 308 = .ok (.iload_n 3, 1) := by decide +kernel
theorem dL_law_309 : decode cL_law 309 = .ok (.iconst 1, 1) := by decide +kernel
theorem dL_law_310 : decode cL_law 310 = .ok (.iadd, 1) := by decide +kernel
theorem dL_law_311 : decode cL_law 311 = .ok (.iaload, 1) := by decide +kernel
theorem dL_law_312 : decode cL_law 312 = .ok (.aload_n 0, 1) := by decide +kernel
theorem dL_law_313 : decode cL_law 313 = .ok (.iload_n 3, 1) := by decide +kernel
theorem dL_law_314 : decode cL_law 314 = .ok (.iconst 2, 1) := by decide +kernel
theorem dL_law_315 : decode cL_law 315 = .ok (.iadd, 1) := by decide +kernel
theorem dL_law_316 : decode cL_law 316 = .ok (.iaload, 1) := by decide +kernel
theorem dL_law_317 : decode cL_law 317 = .ok (.invokevirtual 26, 3) := by decide +kernel
theorem dL_law_320 : decode cL_law 320 = .ok (.if_icmp .eq 895, 3) := by decide +kernel
theorem dL_law_323 : decode cL_law 323 = .ok (.iconst 0, 1) := by decide +kernel
theorem dL_law_324 : decode cL_law 324 = .ok (.ireturn, 1) := by decide +kernel
theorem dL_law_325 : decode cL_law 325 = .ok (.aload_n 1, 1) := by decide +kernel
theorem dL_law_326 : decode cL_law 326 = .ok (.aload_n 0, 1) := by decide +kernel
theorem dL_law_327 : decode cL_law 327 = .ok (.iload_n 3, 1) := by decide +kernel
theorem dL_law_328 : decode cL_law 328 = .ok (.iconst 1, 1) := by decide +kernel
theorem dL_law_329 : decode cL_law 329 = .ok (.iadd, 1) := by decide +kernel
theorem dL_law_330 : decode cL_law 330 = .ok (.iaload, 1) := by decide +kernel
theorem dL_law_331 : decode cL_law 331 = .ok (.invokevirtual 27, 3) := by decide +kernel
theorem dL_law_334 : decode cL_law 334 = .ok (.aload_n 2, 1) := by decide +kernel
theorem dL_law_335 : decode cL_law 335 = .ok (.aload_n 0, 1) := by decide +kernel
theorem dL_law_336 : decode cL_law 336 = .ok (.iload_n 3, 1) := by decide +kernel
theorem dL_law_337 : decode cL_law 337 = .ok (.iconst 1, 1) := by decide +kernel
theorem dL_law_338 : decode cL_law 338 = .ok (.iadd, 1) := by decide +kernel
theorem dL_law_339 : decode cL_law 339 = .ok (.iaload, 1) := by decide +kernel
theorem dL_law_340 : decode cL_law 340 = .ok (.invokevirtual 31, 3) := by decide +kernel
theorem dL_law_343 : decode cL_law 343 = .ok (.if_icmp .eq 872, 3) := by decide +kernel
theorem dL_law_346 : decode cL_law 346 = .ok (.iconst 0, 1) := by decide +kernel
theorem dL_law_347 : decode cL_law 347 = .ok (.ireturn, 1) := by decide +kernel
theorem dL_law_348 : decode cL_law 348 = .ok (.aload_n 1, 1) := by decide +kernel
theorem dL_law_349 : decode cL_law 349 = .ok (.aload_n 0, 1) := by decide +kernel
theorem dL_law_350 : decode cL_law 350 = .ok (.iload_n 3, 1) := by decide +kernel
theorem dL_law_351 : decode cL_law 351 = .ok (.iconst 1, 1) := by decide +kernel
theorem dL_law_352 : decode cL_law 352 = .ok (.iadd, 1) := by decide +kernel
theorem dL_law_353 : decode cL_law 353 = .ok (.iaload, 1) := by decide +kernel
theorem dL_law_354 : decode cL_law 354 = .ok (.aload_n 0, 1) := by decide +kernel
theorem dL_law_355 : decode cL_law 355 = .ok (.iload_n 3, 1) := by decide +kernel
theorem dL_law_356 : decode cL_law 356 = .ok (.iconst 2, 1) := by decide +kernel
theorem dL_law_357 : decode cL_law 357 = .ok (.iadd, 1) := by decide +kernel
theorem dL_law_358 : decode cL_law 358 = .ok (.iaload, 1) := by decide +kernel
theorem dL_law_359 : decode cL_law 359 = .ok (.aload_n 0, 1) := by decide +kernel
theorem dL_law_360 : decode cL_law 360 = .ok (.iload_n 3, 1) := by decide +kernel
theorem dL_law_361 : decode cL_law 361 = .ok (.iconst 3, 1) := by decide +kernel
theorem dL_law_362 : decode cL_law 362 = .ok (.iadd, 1) := by decide +kernel
theorem dL_law_363 : decode cL_law 363 = .ok (.iaload, 1) := by decide +kernel
theorem dL_law_364 : decode cL_law 364 = .ok (.aload_n 0, 1) := by decide +kernel
theorem dL_law_365 : decode cL_law 365 = .ok (.iload_n 3, 1) := by decide +kernel
theorem dL_law_366 : decode cL_law 366 = .ok (.iconst 4, 1) := by decide +kernel
theorem dL_law_367 : decode cL_law 367 = .ok (.iadd, 1) := by decide +kernel
theorem dL_law_368 : decode cL_law 368 = .ok (.iaload, 1) := by decide +kernel
theorem dL_law_369 : decode cL_law 369 = .ok (.aload_n 0, 1) := by decide +kernel
theorem dL_law_370 : decode cL_law 370 = .ok (.iload_n 3, 1) := by decide +kernel
theorem dL_law_371 : decode cL_law 371 = .ok (.iconst 5, 1) := by decide +kernel
theorem dL_law_372 : decode cL_law 372 = .ok (.iadd, 1) := by decide +kernel
theorem dL_law_373 : decode cL_law 373 = .ok (.iaload, 1) := by decide +kernel
theorem dL_law_374 : decode cL_law 374 = .ok (.invokevirtual 32, 3) := by decide +kernel
theorem dL_law_377 : decode cL_law 377 = .ok (.aload_n 2, 1) := by decide +kernel
theorem dL_law_378 : decode cL_law 378 = .ok (.aload_n 0, 1) := by decide +kernel
theorem dL_law_379 : decode cL_law 379 = .ok (.iload_n 3, 1) := by decide +kernel
theorem dL_law_380 : decode cL_law 380 = .ok (.iconst 1, 1) := by decide +kernel
theorem dL_law_381 : decode cL_law 381 = .ok (.iadd, 1) := by decide +kernel
theorem dL_law_382 : decode cL_law 382 = .ok (.iaload, 1) := by decide +kernel
theorem dL_law_383 : decode cL_law 383 = .ok (.aload_n 0, 1) := by decide +kernel
theorem dL_law_384 : decode cL_law 384 = .ok (.iload_n 3, 1) := by decide +kernel
theorem dL_law_385 : decode cL_law 385 = .ok (.iconst 2, 1) := by decide +kernel
theorem dL_law_386 : decode cL_law 386 = .ok (.iadd, 1) := by decide +kernel
theorem dL_law_387 : decode cL_law 387 = .ok (.iaload, 1) := by decide +kernel
theorem dL_law_388 : decode cL_law 388 = .ok (.aload_n 0, 1) := by decide +kernel
theorem dL_law_389 : decode cL_law 389 = .ok (.iload_n 3, 1) := by decide +kernel
theorem dL_law_390 : decode cL_law 390 = .ok (.iconst 3, 1) := by decide +kernel
theorem dL_law_391 : decode cL_law 391 = .ok (.iadd, 1) := by decide +kernel
theorem dL_law_392 : decode cL_law 392 = .ok (.iaload, 1) := by decide +kernel
theorem dL_law_393 : decode cL_law 393 = .ok (.aload_n 0, 1) := by decide +kernel
theorem dL_law_394 : decode cL_law 394 = .ok (.iload_n 3, 1) := by decide +kernel
theorem dL_law_395 : decode cL_law 395 = .ok (.iconst 4, 1) := by decide +kernel
theorem dL_law_396 : decode cL_law 396 = .ok (.iadd, 1) := by decide +kernel
theorem dL_law_397 : decode cL_law 397 = .ok (.iaload, 1) := by decide +kernel
theorem dL_law_398 : decode cL_law 398 = .ok (.aload_n 0, 1) := by decide +kernel
theorem dL_law_399 : decode cL_law 399 = .ok (.iload_n 3, 1) := by decide +kernel
theorem dL_law_400 : decode cL_law 400 = .ok (.iconst 5, 1) := by decide +kernel
theorem dL_law_401 : decode cL_law 401 = .ok (.iadd, 1) := by decide +kernel
theorem dL_law_402 : decode cL_law 402 = .ok (.iaload, 1) := by decide +kernel
theorem dL_law_403 : decode cL_law 403 = .ok (.invokevirtual 36, 3) := by decide +kernel
theorem dL_law_406 : decode cL_law 406 = .ok (.if_icmp .eq 809, 3) := by decide +kernel
theorem dL_law_409 : decode cL_law 409 = .ok (.iconst 0, 1) := by decide +kernel
theorem dL_law_410 : decode cL_law 410 = .ok (.ireturn, 1) := by decide +kernel
theorem dL_law_411 : decode cL_law 411 = .ok (.aload_n 1, 1) := by decide +kernel
theorem dL_law_412 : decode cL_law 412 = .ok (.aload_n 0, 1) := by decide +kernel
theorem dL_law_413 : decode cL_law 413 = .ok (.iload_n 3, 1) := by decide +kernel
theorem dL_law_414 : decode cL_law 414 = .ok (.iconst 1, 1) := by decide +kernel
theorem dL_law_415 : decode cL_law 415 = .ok (.iadd, 1) := by decide +kernel
theorem dL_law_416 : decode cL_law 416 = .ok (.iaload, 1) := by decide +kernel
theorem dL_law_417 : decode cL_law 417 = .ok (.invokevirtual 37, 3) := by decide +kernel
theorem dL_law_420 : decode cL_law 420 = .ok (.aload_n 2, 1) := by decide +kernel
theorem dL_law_421 : decode cL_law 421 = .ok (.aload_n 0, 1) := by decide +kernel
theorem dL_law_422 : decode cL_law 422 = .ok (.iload_n 3, 1) := by decide +kernel
theorem dL_law_423 : decode cL_law 423 = .ok (.iconst 1, 1) := by decide +kernel
theorem dL_law_424 : decode cL_law 424 = .ok (.iadd, 1) := by decide +kernel
theorem dL_law_425 : decode cL_law 425 = .ok (.iaload, 1) := by decide +kernel
theorem dL_law_426 : decode cL_law 426 = .ok (.invokevirtual 40, 3) := by decide +kernel
theorem dL_law_429 : decode cL_law 429 = .ok (.if_icmp .eq 786, 3) := by decide +kernel
theorem dL_law_432 : decode cL_law 432 = .ok (.iconst 0, 1) := by decide +kernel
theorem dL_law_433 : decode cL_law 433 = .ok (.ireturn, 1) := by decide +kernel
theorem dL_law_434 : decode cL_law 434 = .ok (.aload_n 1, 1) := by decide +kernel
theorem dL_law_435 : decode cL_law 435 = .ok (.aload_n 0, 1) := by decide +kernel
theorem dL_law_436 : decode cL_law 436 = .ok (.iload_n 3, 1) := by decide +kernel
theorem dL_law_437 : decode cL_law 437 = .ok (.iconst 1, 1) := by decide +kernel
theorem dL_law_438 : decode cL_law 438 = .ok (.iadd, 1) := by decide +kernel
theorem dL_law_439 : decode cL_law 439 = .ok (.iaload, 1) := by decide +kernel
theorem dL_law_440 : decode cL_law 440 = .ok (.aload_n 0, 1) := by decide +kernel
theorem dL_law_441 : decode cL_law 441 = .ok (.iload_n 3, 1) := by decide +kernel
theorem dL_law_442 : decode cL_law 442 = .ok (.iconst 2, 1) := by decide +kernel
theorem dL_law_443 : decode cL_law 443 = .ok (.iadd, 1) := by decide +kernel
theorem dL_law_444 : decode cL_law 444 = .ok (.iaload, 1) := by decide +kernel
theorem dL_law_445 : decode cL_law 445 = .ok (.invokevirtual 41, 3) := by decide +kernel
theorem dL_law_448 : decode cL_law 448 = .ok (.aload_n 2, 1) := by decide +kernel
theorem dL_law_449 : decode cL_law 449 = .ok (.aload_n 0, 1) := by decide +kernel
theorem dL_law_450 : decode cL_law 450 = .ok (.iload_n 3, 1) := by decide +kernel
theorem dL_law_451 : decode cL_law 451 = .ok (.iconst 1, 1) := by decide +kernel
theorem dL_law_452 : decode cL_law 452 = .ok (.iadd, 1) := by decide +kernel
theorem dL_law_453 : decode cL_law 453 = .ok (.iaload, 1) := by decide +kernel
theorem dL_law_454 : decode cL_law 454 = .ok (.aload_n 0, 1) := by decide +kernel
theorem dL_law_455 : decode cL_law 455 = .ok (.iload_n 3, 1) := by decide +kernel
theorem dL_law_456 : decode cL_law 456 = .ok (.iconst 2, 1) := by decide +kernel
theorem dL_law_457 : decode cL_law 457 = .ok (.iadd, 1) := by decide +kernel
theorem dL_law_458 : decode cL_law 458 = .ok (.iaload, 1) := by decide +kernel
theorem dL_law_459 : decode cL_law 459 = .ok (.invokevirtual 44, 3) := by decide +kernel
theorem dL_law_462 : decode cL_law 462 = .ok (.if_icmp .eq 753, 3) := by decide +kernel
theorem dL_law_465 : decode cL_law 465 = .ok (.iconst 0, 1) := by decide +kernel
theorem dL_law_466 : decode cL_law 466 = .ok (.ireturn, 1) := by decide +kernel
theorem dL_law_467 : decode cL_law 467 = .ok (.aload_n 1, 1) := by decide +kernel
theorem dL_law_468 : decode cL_law 468 = .ok (.aload_n 0, 1) := by decide +kernel
theorem dL_law_469 : decode cL_law 469 = .ok (.iload_n 3, 1) := by decide +kernel
theorem dL_law_470 : decode cL_law 470 = .ok (.iconst 1, 1) := by decide +kernel
theorem dL_law_471 : decode cL_law 471 = .ok (.iadd, 1) := by decide +kernel
theorem dL_law_472 : decode cL_law 472 = .ok (.iaload, 1) := by decide +kernel
theorem dL_law_473 : decode cL_law 473 = .ok (.aload_n 0, 1) := by decide +kernel
theorem dL_law_474 : decode cL_law 474 = .ok (.iload_n 3, 1) := by decide +kernel
theorem dL_law_475 : decode cL_law 475 = .ok (.iconst 2, 1) := by decide +kernel
theorem dL_law_476 : decode cL_law 476 = .ok (.iadd, 1) := by decide +kernel
theorem dL_law_477 : decode cL_law 477 = .ok (.iaload, 1) := by decide +kernel
theorem dL_law_478 : decode cL_law 478 = .ok (.aload_n 0, 1) := by decide +kernel
theorem dL_law_479 : decode cL_law 479 = .ok (.iload_n 3, 1) := by decide +kernel
theorem dL_law_480 : decode cL_law 480 = .ok (.iconst 3, 1) := by decide +kernel
theorem dL_law_481 : decode cL_law 481 = .ok (.iadd, 1) := by decide +kernel
theorem dL_law_482 : decode cL_law 482 = .ok (.iaload, 1) := by decide +kernel
theorem dL_law_483 : decode cL_law 483 = .ok (.invokevirtual 45, 3) := by decide +kernel
theorem dL_law_486 : decode cL_law 486 = .ok (.aload_n 2, 1) := by decide +kernel
theorem dL_law_487 : decode cL_law 487 = .ok (.aload_n 0, 1) := by decide +kernel
theorem dL_law_488 : decode cL_law 488 = .ok (.iload_n 3, 1) := by decide +kernel
theorem dL_law_489 : decode cL_law 489 = .ok (.iconst 1, 1) := by decide +kernel
theorem dL_law_490 : decode cL_law 490 = .ok (.iadd, 1) := by decide +kernel
theorem dL_law_491 : decode cL_law 491 = .ok (.iaload, 1) := by decide +kernel
theorem dL_law_492 : decode cL_law 492 = .ok (.aload_n 0, 1) := by decide +kernel
theorem dL_law_493 : decode cL_law 493 = .ok (.iload_n 3, 1) := by decide +kernel
theorem dL_law_494 : decode cL_law 494 = .ok (.iconst 2, 1) := by decide +kernel
theorem dL_law_495 : decode cL_law 495 = .ok (.iadd, 1) := by decide +kernel
theorem dL_law_496 : decode cL_law 496 = .ok (.iaload, 1) := by decide +kernel
theorem dL_law_497 : decode cL_law 497 = .ok (.aload_n 0, 1) := by decide +kernel
theorem dL_law_498 : decode cL_law 498 = .ok (.iload_n 3, 1) := by decide +kernel
theorem dL_law_499 : decode cL_law 499 = .ok (.iconst 3, 1) := by decide +kernel
theorem dL_law_500 : decode cL_law 500 = .ok (.iadd, 1) := by decide +kernel
theorem dL_law_501 : decode cL_law 501 = .ok (.iaload, 1) := by decide +kernel
theorem dL_law_502 : decode cL_law 502 = .ok (.invokevirtual 48, 3) := by decide +kernel
theorem dL_law_505 : decode cL_law 505 = .ok (.if_icmp .eq 710, 3) := by decide +kernel
theorem dL_law_508 : decode cL_law 508 = .ok (.iconst 0, 1) := by decide +kernel
theorem dL_law_509 : decode cL_law 509 = .ok (.ireturn, 1) := by decide +kernel
theorem dL_law_510 : decode cL_law 510 = .ok (.aload_n 1, 1) := by decide +kernel
theorem dL_law_511 : decode cL_law 511 = .ok (.aload_n 0, 1) := by decide +kernel
theorem dL_law_512 : decode cL_law 512 = .ok (.iload_n 3, 1) := by decide +kernel
theorem dL_law_513 : decode cL_law 513 = .ok (.iconst 1, 1) := by decide +kernel
theorem dL_law_514 : decode cL_law 514 = .ok (.iadd, 1) := by decide +kernel
theorem dL_law_515 : decode cL_law 515 = .ok (.iaload, 1) := by decide +kernel
theorem dL_law_516 : decode cL_law 516 = .ok (.invokevirtual 49, 3) := by decide +kernel
theorem dL_law_519 : decode cL_law 519 = .ok (.aload_n 2, 1) := by decide +kernel
theorem dL_law_520 : decode cL_law 520 = .ok (.aload_n 0, 1) := by decide +kernel
theorem dL_law_521 : decode cL_law 521 = .ok (.iload_n 3, 1) := by decide +kernel
theorem dL_law_522 : decode cL_law 522 = .ok (.iconst 1, 1) := by decide +kernel
theorem dL_law_523 : decode cL_law 523 = .ok (.iadd, 1) := by decide +kernel
theorem dL_law_524 : decode cL_law 524 = .ok (.iaload, 1) := by decide +kernel
theorem dL_law_525 : decode cL_law 525 = .ok (.invokevirtual 52, 3) := by decide +kernel
theorem dL_law_528 : decode cL_law 528 = .ok (.if_icmp .eq 687, 3) := by decide +kernel
theorem dL_law_531 : decode cL_law 531 = .ok (.iconst 0, 1) := by decide +kernel
theorem dL_law_532 : decode cL_law 532 = .ok (.ireturn, 1) := by decide +kernel
theorem dL_law_533 : decode cL_law 533 = .ok (.aload_n 1, 1) := by decide +kernel
theorem dL_law_534 : decode cL_law 534 = .ok (.aload_n 0, 1) := by decide +kernel
theorem dL_law_535 : decode cL_law 535 = .ok (.iload_n 3, 1) := by decide +kernel
theorem dL_law_536 : decode cL_law 536 = .ok (.iconst 1, 1) := by decide +kernel
theorem dL_law_537 : decode cL_law 537 = .ok (.iadd, 1) := by decide +kernel
theorem dL_law_538 : decode cL_law 538 = .ok (.iaload, 1) := by decide +kernel
theorem dL_law_539 : decode cL_law 539 = .ok (.invokevirtual 53, 3) := by decide +kernel
theorem dL_law_542 : decode cL_law 542 = .ok (.aload_n 2, 1) := by decide +kernel
theorem dL_law_543 : decode cL_law 543 = .ok (.aload_n 0, 1) := by decide +kernel
theorem dL_law_544 : decode cL_law 544 = .ok (.iload_n 3, 1) := by decide +kernel
theorem dL_law_545 : decode cL_law 545 = .ok (.iconst 1, 1) := by decide +kernel
theorem dL_law_546 : decode cL_law 546 = .ok (.iadd, 1) := by decide +kernel
theorem dL_law_547 : decode cL_law 547 = .ok (.iaload, 1) := by decide +kernel
theorem dL_law_548 : decode cL_law 548 = .ok (.invokevirtual 56, 3) := by decide +kernel
theorem dL_law_551 : decode cL_law 551 = .ok (.if_icmp .eq 664, 3) := by decide +kernel
theorem dL_law_554 : decode cL_law 554 = .ok (.iconst 0, 1) := by decide +kernel
theorem dL_law_555 : decode cL_law 555 = .ok (.ireturn, 1) := by decide +kernel
theorem dL_law_556 : decode cL_law 556 = .ok (.aload_n 1, 1) := by decide +kernel
theorem dL_law_557 : decode cL_law 557 = .ok (.aload_n 0, 1) := by decide +kernel
theorem dL_law_558 : decode cL_law 558 = .ok (.iload_n 3, 1) := by decide +kernel
theorem dL_law_559 : decode cL_law 559 = .ok (.iconst 1, 1) := by decide +kernel
theorem dL_law_560 : decode cL_law 560 = .ok (.iadd, 1) := by decide +kernel
theorem dL_law_561 : decode cL_law 561 = .ok (.iaload, 1) := by decide +kernel
theorem dL_law_562 : decode cL_law 562 = .ok (.aload_n 0, 1) := by decide +kernel
theorem dL_law_563 : decode cL_law 563 = .ok (.iload_n 3, 1) := by decide +kernel
theorem dL_law_564 : decode cL_law 564 = .ok (.iconst 2, 1) := by decide +kernel
theorem dL_law_565 : decode cL_law 565 = .ok (.iadd, 1) := by decide +kernel
theorem dL_law_566 : decode cL_law 566 = .ok (.iaload, 1) := by decide +kernel
theorem dL_law_567 : decode cL_law 567 = .ok (.invokevirtual 57, 3) := by decide +kernel
theorem dL_law_570 : decode cL_law 570 = .ok (.aload_n 2, 1) := by decide +kernel
theorem dL_law_571 : decode cL_law 571 = .ok (.aload_n 0, 1) := by decide +kernel
theorem dL_law_572 : decode cL_law 572 = .ok (.iload_n 3, 1) := by decide +kernel
theorem dL_law_573 : decode cL_law 573 = .ok (.iconst 1, 1) := by decide +kernel
theorem dL_law_574 : decode cL_law 574 = .ok (.iadd, 1) := by decide +kernel
theorem dL_law_575 : decode cL_law 575 = .ok (.iaload, 1) := by decide +kernel
theorem dL_law_576 : decode cL_law 576 = .ok (.aload_n 0, 1) := by decide +kernel
theorem dL_law_577 : decode cL_law 577 = .ok (.iload_n 3, 1) := by decide +kernel
theorem dL_law_578 : decode cL_law 578 = .ok (.iconst 2, 1) := by decide +kernel
theorem dL_law_579 : decode cL_law 579 = .ok (.iadd, 1) := by decide +kernel
theorem dL_law_580 : decode cL_law 580 = .ok (.iaload, 1) := by decide +kernel
theorem dL_law_581 : decode cL_law 581 = .ok (.invokevirtual 60, 3) := by decide +kernel
theorem dL_law_584 : decode cL_law 584 = .ok (.if_icmp .eq 631, 3) := by decide +kernel
theorem dL_law_587 : decode cL_law 587 = .ok (.iconst 0, 1) := by decide +kernel
theorem dL_law_588 : decode cL_law 588 = .ok (.ireturn, 1) := by decide +kernel
theorem dL_law_589 : decode cL_law 589 = .ok (.aload_n 1, 1) := by decide +kernel
theorem dL_law_590 : decode cL_law 590 = .ok (.aload_n 0, 1) := by decide +kernel
theorem dL_law_591 : decode cL_law 591 = .ok (.iload_n 3, 1) := by decide +kernel
theorem dL_law_592 : decode cL_law 592 = .ok (.iconst 1, 1) := by decide +kernel
theorem dL_law_593 : decode cL_law 593 = .ok (.iadd, 1) := by decide +kernel
theorem dL_law_594 : decode cL_law 594 = .ok (.iaload, 1) := by decide +kernel
theorem dL_law_595 : decode cL_law 595 = .ok (.aload_n 0, 1) := by decide +kernel
theorem dL_law_596 : decode cL_law 596 = .ok (.iload_n 3, 1) := by decide +kernel
theorem dL_law_597 : decode cL_law 597 = .ok (.iconst 2, 1) := by decide +kernel
theorem dL_law_598 : decode cL_law 598 = .ok (.iadd, 1) := by decide +kernel
theorem dL_law_599 : decode cL_law 599 = .ok (.iaload, 1) := by decide +kernel
theorem dL_law_600 : decode cL_law 600 = .ok (.invokevirtual 61, 3) := by decide +kernel
theorem dL_law_603 : decode cL_law 603 = .ok (.aload_n 2, 1) := by decide +kernel
theorem dL_law_604 : decode cL_law 604 = .ok (.aload_n 0, 1) := by decide +kernel
theorem dL_law_605 : decode cL_law 605 = .ok (.iload_n 3, 1) := by decide +kernel
theorem dL_law_606 : decode cL_law 606 = .ok (.iconst 1, 1) := by decide +kernel
theorem dL_law_607 : decode cL_law 607 = .ok (.iadd, 1) := by decide +kernel
theorem dL_law_608 : decode cL_law 608 = .ok (.iaload, 1) := by decide +kernel
theorem dL_law_609 : decode cL_law 609 = .ok (.aload_n 0, 1) := by decide +kernel
theorem dL_law_610 : decode cL_law 610 = .ok (.iload_n 3, 1) := by decide +kernel
theorem dL_law_611 : decode cL_law 611 = .ok (.iconst 2, 1) := by decide +kernel
theorem dL_law_612 : decode cL_law 612 = .ok (.iadd, 1) := by decide +kernel
theorem dL_law_613 : decode cL_law 613 = .ok (.iaload, 1) := by decide +kernel
theorem dL_law_614 : decode cL_law 614 = .ok (.invokevirtual 64, 3) := by decide +kernel
theorem dL_law_617 : decode cL_law 617 = .ok (.if_icmp .eq 598, 3) := by decide +kernel
theorem dL_law_620 : decode cL_law 620 = .ok (.iconst 0, 1) := by decide +kernel
theorem dL_law_621 : decode cL_law 621 = .ok (.ireturn, 1) := by decide +kernel
theorem dL_law_622 : decode cL_law 622 = .ok (.aload_n 1, 1) := by decide +kernel
theorem dL_law_623 : decode cL_law 623 = .ok (.aload_n 0, 1) := by decide +kernel
theorem dL_law_624 : decode cL_law 624 = .ok (.iload_n 3, 1) := by decide +kernel
theorem dL_law_625 : decode cL_law 625 = .ok (.iconst 1, 1) := by decide +kernel
theorem dL_law_626 : decode cL_law 626 = .ok (.iadd, 1) := by decide +kernel
theorem dL_law_627 : decode cL_law 627 = .ok (.iaload, 1) := by decide +kernel
theorem dL_law_628 : decode cL_law 628 = .ok (.invokevirtual 65, 3) := by decide +kernel
theorem dL_law_631 : decode cL_law 631 = .ok (.aload_n 2, 1) := by decide +kernel
theorem dL_law_632 : decode cL_law 632 = .ok (.aload_n 0, 1) := by decide +kernel
theorem dL_law_633 : decode cL_law 633 = .ok (.iload_n 3, 1) := by decide +kernel
theorem dL_law_634 : decode cL_law 634 = .ok (.iconst 1, 1) := by decide +kernel
theorem dL_law_635 : decode cL_law 635 = .ok (.iadd, 1) := by decide +kernel
theorem dL_law_636 : decode cL_law 636 = .ok (.iaload, 1) := by decide +kernel
theorem dL_law_637 : decode cL_law 637 = .ok (.invokevirtual 68, 3) := by decide +kernel
theorem dL_law_640 : decode cL_law 640 = .ok (.if_icmp .eq 575, 3) := by decide +kernel
theorem dL_law_643 : decode cL_law 643 = .ok (.iconst 0, 1) := by decide +kernel
theorem dL_law_644 : decode cL_law 644 = .ok (.ireturn, 1) := by decide +kernel
theorem dL_law_645 : decode cL_law 645 = .ok (.aload_n 1, 1) := by decide +kernel
theorem dL_law_646 : decode cL_law 646 = .ok (.aload_n 0, 1) := by decide +kernel
theorem dL_law_647 : decode cL_law 647 = .ok (.iload_n 3, 1) := by decide +kernel
theorem dL_law_648 : decode cL_law 648 = .ok (.iconst 1, 1) := by decide +kernel
theorem dL_law_649 : decode cL_law 649 = .ok (.iadd, 1) := by decide +kernel
theorem dL_law_650 : decode cL_law 650 = .ok (.iaload, 1) := by decide +kernel
theorem dL_law_651 : decode cL_law 651 = .ok (.invokevirtual 69, 3) := by decide +kernel
theorem dL_law_654 : decode cL_law 654 = .ok (.aload_n 2, 1) := by decide +kernel
theorem dL_law_655 : decode cL_law 655 = .ok (.aload_n 0, 1) := by decide +kernel
theorem dL_law_656 : decode cL_law 656 = .ok (.iload_n 3, 1) := by decide +kernel
theorem dL_law_657 : decode cL_law 657 = .ok (.iconst 1, 1) := by decide +kernel
theorem dL_law_658 : decode cL_law 658 = .ok (.iadd, 1) := by decide +kernel
theorem dL_law_659 : decode cL_law 659 = .ok (.iaload, 1) := by decide +kernel
theorem dL_law_660 : decode cL_law 660 = .ok (.invokevirtual 72, 3) := by decide +kernel
theorem dL_law_663 : decode cL_law 663 = .ok (.if_icmp .eq 552, 3) := by decide +kernel
theorem dL_law_666 : decode cL_law 666 = .ok (.iconst 0, 1) := by decide +kernel
theorem dL_law_667 : decode cL_law 667 = .ok (.ireturn, 1) := by decide +kernel
theorem dL_law_668 : decode cL_law 668 = .ok (.aload_n 1, 1) := by decide +kernel
theorem dL_law_669 : decode cL_law 669 = .ok (.invokevirtual 73, 3) := by decide +kernel
theorem dL_law_672 : decode cL_law 672 = .ok (.aload_n 2, 1) := by decide +kernel
theorem dL_law_673 : decode cL_law 673 = .ok (.invokevirtual 77, 3) := by decide +kernel
theorem dL_law_676 : decode cL_law 676 = .ok (.if_icmp .eq 539, 3) := by decide +kernel
theorem dL_law_679 : decode cL_law 679 = .ok (.iconst 0, 1) := by decide +kernel
theorem dL_law_680 : decode cL_law 680 = .ok (.ireturn, 1) := by decide +kernel
theorem dL_law_681 : decode cL_law 681 = .ok (.aload_n 1, 1) := by decide +kernel
theorem dL_law_682 : decode cL_law 682 = .ok (.aload_n 0, 1) := by decide +kernel
theorem dL_law_683 : decode cL_law 683 = .ok (.iload_n 3, 1) := by decide +kernel
theorem dL_law_684 : decode cL_law 684 = .ok (.iconst 1, 1) := by decide +kernel
theorem dL_law_685 : decode cL_law 685 = .ok (.iadd, 1) := by decide +kernel
theorem dL_law_686 : decode cL_law 686 = .ok (.iaload, 1) := by decide +kernel
theorem dL_law_687 : decode cL_law 687 = .ok (.aload_n 0, 1) := by decide +kernel
theorem dL_law_688 : decode cL_law 688 = .ok (.iload_n 3, 1) := by decide +kernel
theorem dL_law_689 : decode cL_law 689 = .ok (.iconst 2, 1) := by decide +kernel
theorem dL_law_690 : decode cL_law 690 = .ok (.iadd, 1) := by decide +kernel
theorem dL_law_691 : decode cL_law 691 = .ok (.iaload, 1) := by decide +kernel
theorem dL_law_692 : decode cL_law 692 = .ok (.invokevirtual 78, 3) := by decide +kernel
theorem dL_law_695 : decode cL_law 695 = .ok (.aload_n 2, 1) := by decide +kernel
theorem dL_law_696 : decode cL_law 696 = .ok (.aload_n 0, 1) := by decide +kernel
theorem dL_law_697 : decode cL_law 697 = .ok (.iload_n 3, 1) := by decide +kernel
theorem dL_law_698 : decode cL_law 698 = .ok (.iconst 1, 1) := by decide +kernel
theorem dL_law_699 : decode cL_law 699 = .ok (.iadd, 1) := by decide +kernel
theorem dL_law_700 : decode cL_law 700 = .ok (.iaload, 1) := by decide +kernel
theorem dL_law_701 : decode cL_law 701 = .ok (.aload_n 0, 1) := by decide +kernel
theorem dL_law_702 : decode cL_law 702 = .ok (.iload_n 3, 1) := by decide +kernel
theorem dL_law_703 : decode cL_law 703 = .ok (.iconst 2, 1) := by decide +kernel
theorem dL_law_704 : decode cL_law 704 = .ok (.iadd, 1) := by decide +kernel
theorem dL_law_705 : decode cL_law 705 = .ok (.iaload, 1) := by decide +kernel
theorem dL_law_706 : decode cL_law 706 = .ok (.invokevirtual 81, 3) := by decide +kernel
theorem dL_law_709 : decode cL_law 709 = .ok (.if_icmp .eq 506, 3) := by decide +kernel
theorem dL_law_712 : decode cL_law 712 = .ok (.iconst 0, 1) := by decide +kernel
theorem dL_law_713 : decode cL_law 713 = .ok (.ireturn, 1) := by decide +kernel
theorem dL_law_714 : decode cL_law 714 = .ok (.aload_n 1, 1) := by decide +kernel
theorem dL_law_715 : decode cL_law 715 = .ok (.aload_n 0, 1) := by decide +kernel
theorem dL_law_716 : decode cL_law 716 = .ok (.iload_n 3, 1) := by decide +kernel
theorem dL_law_717 : decode cL_law 717 = .ok (.iconst 1, 1) := by decide +kernel
theorem dL_law_718 : decode cL_law 718 = .ok (.iadd, 1) := by decide +kernel
theorem dL_law_719 : decode cL_law 719 = .ok (.iaload, 1) := by decide +kernel
theorem dL_law_720 : decode cL_law 720 = .ok (.invokevirtual 82, 3) := by decide +kernel
theorem dL_law_723 : decode cL_law 723 = .ok (.aload_n 2, 1) := by decide +kernel
theorem dL_law_724 : decode cL_law 724 = .ok (.aload_n 0, 1) := by decide +kernel
theorem dL_law_725 : decode cL_law 725 = .ok (.iload_n 3, 1) := by decide +kernel
theorem dL_law_726 : decode cL_law 726 = .ok (.iconst 1, 1) := by decide +kernel
theorem dL_law_727 : decode cL_law 727 = .ok (.iadd, 1) := by decide +kernel
theorem dL_law_728 : decode cL_law 728 = .ok (.iaload, 1) := by decide +kernel
theorem dL_law_729 : decode cL_law 729 = .ok (.invokevirtual 85, 3) := by decide +kernel
theorem dL_law_732 : decode cL_law 732 = .ok (.if_icmp .eq 483, 3) := by decide +kernel
theorem dL_law_735 : decode cL_law 735 = .ok (.iconst 0, 1) := by decide +kernel
theorem dL_law_736 : decode cL_law 736 = .ok (.ireturn, 1) := by decide +kernel
theorem dL_law_737 : decode cL_law 737 = .ok (.aload_n 1, 1) := by decide +kernel
theorem dL_law_738 : decode cL_law 738 = .ok (.aload_n 0, 1) := by decide +kernel
theorem dL_law_739 : decode cL_law 739 = .ok (.iload_n 3, 1) := by decide +kernel
theorem dL_law_740 : decode cL_law 740 = .ok (.iconst 1, 1) := by decide +kernel
theorem dL_law_741 : decode cL_law 741 = .ok (.iadd, 1) := by decide +kernel
theorem dL_law_742 : decode cL_law 742 = .ok (.iaload, 1) := by decide +kernel
theorem dL_law_743 : decode cL_law 743 = .ok (.invokevirtual 86, 3) := by decide +kernel
theorem dL_law_746 : decode cL_law 746 = .ok (.aload_n 2, 1) := by decide +kernel
theorem dL_law_747 : decode cL_law 747 = .ok (.aload_n 0, 1) := by decide +kernel
theorem dL_law_748 : decode cL_law 748 = .ok (.iload_n 3, 1) := by decide +kernel
theorem dL_law_749 : decode cL_law 749 = .ok (.iconst 1, 1) := by decide +kernel
theorem dL_law_750 : decode cL_law 750 = .ok (.iadd, 1) := by decide +kernel
theorem dL_law_751 : decode cL_law 751 = .ok (.iaload, 1) := by decide +kernel
theorem dL_law_752 : decode cL_law 752 = .ok (.invokevirtual 89, 3) := by decide +kernel
theorem dL_law_755 : decode cL_law 755 = .ok (.if_icmp .eq 460, 3) := by decide +kernel
theorem dL_law_758 : decode cL_law 758 = .ok (.iconst 0, 1) := by decide +kernel
theorem dL_law_759 : decode cL_law 759 = .ok (.ireturn, 1) := by decide +kernel
theorem dL_law_760 : decode cL_law 760 = .ok (.aload_n 1, 1) := by decide +kernel
theorem dL_law_761 : decode cL_law 761 = .ok (.aload_n 0, 1) := by decide +kernel
theorem dL_law_762 : decode cL_law 762 = .ok (.iload_n 3, 1) := by decide +kernel
theorem dL_law_763 : decode cL_law 763 = .ok (.iconst 1, 1) := by decide +kernel
theorem dL_law_764 : decode cL_law 764 = .ok (.iadd, 1) := by decide +kernel
theorem dL_law_765 : decode cL_law 765 = .ok (.iaload, 1) := by decide +kernel
theorem dL_law_766 : decode cL_law 766 = .ok (.invokevirtual 90, 3) := by decide +kernel
theorem dL_law_769 : decode cL_law 769 = .ok (.aload_n 2, 1) := by decide +kernel
theorem dL_law_770 : decode cL_law 770 = .ok (.aload_n 0, 1) := by decide +kernel
theorem dL_law_771 : decode cL_law 771 = .ok (.iload_n 3, 1) := by decide +kernel
theorem dL_law_772 : decode cL_law 772 = .ok (.iconst 1, 1) := by decide +kernel
theorem dL_law_773 : decode cL_law 773 = .ok (.iadd, 1) := by decide +kernel
theorem dL_law_774 : decode cL_law 774 = .ok (.iaload, 1) := by decide +kernel
theorem dL_law_775 : decode cL_law 775 = .ok (.invokevirtual 93, 3) := by decide +kernel
theorem dL_law_778 : decode cL_law 778 = .ok (.if_icmp .eq 437, 3) := by decide +kernel
theorem dL_law_781 : decode cL_law 781 = .ok (.iconst 0, 1) := by decide +kernel
theorem dL_law_782 : decode cL_law 782 = .ok (.ireturn, 1) := by decide +kernel
theorem dL_law_783 : decode cL_law 783 = .ok (.aload_n 1, 1) := by decide +kernel
theorem dL_law_784 : decode cL_law 784 = .ok (.invokevirtual 94, 3) := by decide +kernel
theorem dL_law_787 : decode cL_law 787 = .ok (.aload_n 2, 1) := by decide +kernel
theorem dL_law_788 : decode cL_law 788 = .ok (.invokevirtual 97, 3) := by decide +kernel
theorem dL_law_791 : decode cL_law 791 = .ok (.if_icmp .eq 424, 3) := by decide +kernel
theorem dL_law_794 : decode cL_law 794 = .ok (.iconst 0, 1) := by decide +kernel
theorem dL_law_795 : decode cL_law 795 = .ok (.ireturn, 1) := by decide +kernel
theorem dL_law_796 : decode cL_law 796 = .ok (.aload_n 1, 1) := by decide +kernel
theorem dL_law_797 : decode cL_law 797 = .ok (.aload_n 0, 1) := by decide +kernel
theorem dL_law_798 : decode cL_law 798 = .ok (.iload_n 3, 1) := by decide +kernel
theorem dL_law_799 : decode cL_law 799 = .ok (.iconst 1, 1) := by decide +kernel
theorem dL_law_800 : decode cL_law 800 = .ok (.iadd, 1) := by decide +kernel
theorem dL_law_801 : decode cL_law 801 = .ok (.iaload, 1) := by decide +kernel
theorem dL_law_802 : decode cL_law 802 = .ok (.invokevirtual 98, 3) := by decide +kernel
theorem dL_law_805 : decode cL_law 805 = .ok (.aload_n 2, 1) := by decide +kernel
theorem dL_law_806 : decode cL_law 806 = .ok (.aload_n 0, 1) := by decide +kernel
theorem dL_law_807 : decode cL_law 807 = .ok (.iload_n 3, 1) := by decide +kernel
theorem dL_law_808 : decode cL_law 808 = .ok (.iconst 1, 1) := by decide +kernel
theorem dL_law_809 : decode cL_law 809 = .ok (.iadd, 1) := by decide +kernel
theorem dL_law_810 : decode cL_law 810 = .ok (.iaload, 1) := by decide +kernel
theorem dL_law_811 : decode cL_law 811 = .ok (.invokevirtual 101, 3) := by decide +kernel
theorem dL_law_814 : decode cL_law 814 = .ok (.if_icmp .eq 401, 3) := by decide +kernel
theorem dL_law_817 : decode cL_law 817 = .ok (.iconst 0, 1) := by decide +kernel
theorem dL_law_818 : decode cL_law 818 = .ok (.ireturn, 1) := by decide +kernel
theorem dL_law_819 : decode cL_law 819 = .ok (.aload_n 1, 1) := by decide +kernel
theorem dL_law_820 : decode cL_law 820 = .ok (.aload_n 0, 1) := by decide +kernel
theorem dL_law_821 : decode cL_law 821 = .ok (.iload_n 3, 1) := by decide +kernel
theorem dL_law_822 : decode cL_law 822 = .ok (.iconst 1, 1) := by decide +kernel
theorem dL_law_823 : decode cL_law 823 = .ok (.iadd, 1) := by decide +kernel
theorem dL_law_824 : decode cL_law 824 = .ok (.iaload, 1) := by decide +kernel
theorem dL_law_825 : decode cL_law 825 = .ok (.invokevirtual 102, 3) := by decide +kernel
theorem dL_law_828 : decode cL_law 828 = .ok (.aload_n 2, 1) := by decide +kernel
theorem dL_law_829 : decode cL_law 829 = .ok (.aload_n 0, 1) := by decide +kernel
theorem dL_law_830 : decode cL_law 830 = .ok (.iload_n 3, 1) := by decide +kernel
theorem dL_law_831 : decode cL_law 831 = .ok (.iconst 1, 1) := by decide +kernel
theorem dL_law_832 : decode cL_law 832 = .ok (.iadd, 1) := by decide +kernel
theorem dL_law_833 : decode cL_law 833 = .ok (.iaload, 1) := by decide +kernel
theorem dL_law_834 : decode cL_law 834 = .ok (.invokevirtual 105, 3) := by decide +kernel
theorem dL_law_837 : decode cL_law 837 = .ok (.if_icmp .eq 378, 3) := by decide +kernel
theorem dL_law_840 : decode cL_law 840 = .ok (.iconst 0, 1) := by decide +kernel
theorem dL_law_841 : decode cL_law 841 = .ok (.ireturn, 1) := by decide +kernel
theorem dL_law_842 : decode cL_law 842 = .ok (.aload_n 1, 1) := by decide +kernel
theorem dL_law_843 : decode cL_law 843 = .ok (.invokevirtual 106, 3) := by decide +kernel
theorem dL_law_846 : decode cL_law 846 = .ok (.aload_n 2, 1) := by decide +kernel
theorem dL_law_847 : decode cL_law 847 = .ok (.invokevirtual 109, 3) := by decide +kernel
theorem dL_law_850 : decode cL_law 850 = .ok (.if_icmp .eq 365, 3) := by decide +kernel
theorem dL_law_853 : decode cL_law 853 = .ok (.iconst 0, 1) := by decide +kernel
theorem dL_law_854 : decode cL_law 854 = .ok (.ireturn, 1) := by decide +kernel
theorem dL_law_855 : decode cL_law 855 = .ok (.aload_n 1, 1) := by decide +kernel
theorem dL_law_856 : decode cL_law 856 = .ok (.aload_n 0, 1) := by decide +kernel
theorem dL_law_857 : decode cL_law 857 = .ok (.iload_n 3, 1) := by decide +kernel
theorem dL_law_858 : decode cL_law 858 = .ok (.iconst 1, 1) := by decide +kernel
theorem dL_law_859 : decode cL_law 859 = .ok (.iadd, 1) := by decide +kernel
theorem dL_law_860 : decode cL_law 860 = .ok (.iaload, 1) := by decide +kernel
theorem dL_law_861 : decode cL_law 861 = .ok (.invokevirtual 110, 3) := by decide +kernel
theorem dL_law_864 : decode cL_law 864 = .ok (.aload_n 2, 1) := by decide +kernel
theorem dL_law_865 : decode cL_law 865 = .ok (.aload_n 0, 1) := by decide +kernel
theorem dL_law_866 : decode cL_law 866 = .ok (.iload_n 3, 1) := by decide +kernel
theorem dL_law_867 : decode cL_law 867 = .ok (.iconst 1, 1) := by decide +kernel
theorem dL_law_868 : decode cL_law 868 = .ok (.iadd, 1) := by decide +kernel
theorem dL_law_869 : decode cL_law 869 = .ok (.iaload, 1) := by decide +kernel
theorem dL_law_870 : decode cL_law 870 = .ok (.invokevirtual 113, 3) := by decide +kernel
theorem dL_law_873 : decode cL_law 873 = .ok (.if_icmp .eq 342, 3) := by decide +kernel
theorem dL_law_876 : decode cL_law 876 = .ok (.iconst 0, 1) := by decide +kernel
theorem dL_law_877 : decode cL_law 877 = .ok (.ireturn, 1) := by decide +kernel
theorem dL_law_878 : decode cL_law 878 = .ok (.aload_n 1, 1) := by decide +kernel
theorem dL_law_879 : decode cL_law 879 = .ok (.invokevirtual 114, 3) := by decide +kernel
theorem dL_law_882 : decode cL_law 882 = .ok (.aload_n 2, 1) := by decide +kernel
theorem dL_law_883 : decode cL_law 883 = .ok (.invokevirtual 117, 3) := by decide +kernel
theorem dL_law_886 : decode cL_law 886 = .ok (.if_icmp .eq 329, 3) := by decide +kernel
theorem dL_law_889 : decode cL_law 889 = .ok (.iconst 0, 1) := by decide +kernel
theorem dL_law_890 : decode cL_law 890 = .ok (.ireturn, 1) := by decide +kernel
theorem dL_law_891 : decode cL_law 891 = .ok (.aload_n 1, 1) := by decide +kernel
theorem dL_law_892 : decode cL_law 892 = .ok (.invokevirtual 118, 3) := by decide +kernel
theorem dL_law_895 : decode cL_law 895 = .ok (.aload_n 2, 1) := by decide +kernel
theorem dL_law_896 : decode cL_law 896 = .ok (.invokevirtual 121, 3) := by decide +kernel
theorem dL_law_899 : decode cL_law 899 = .ok (.if_icmp .eq 316, 3) := by decide +kernel
theorem dL_law_902 : decode cL_law 902 = .ok (.iconst 0, 1) := by decide +kernel
theorem dL_law_903 : decode cL_law 903 = .ok (.ireturn, 1) := by decide +kernel
theorem dL_law_904 : decode cL_law 904 = .ok (.aload_n 1, 1) := by decide +kernel
theorem dL_law_905 : decode cL_law 905 = .ok (.invokevirtual 122, 3) := by decide +kernel
theorem dL_law_908 : decode cL_law 908 = .ok (.aload_n 2, 1) := by decide +kernel
theorem dL_law_909 : decode cL_law 909 = .ok (.invokevirtual 125, 3) := by decide +kernel
theorem dL_law_912 : decode cL_law 912 = .ok (.if_icmp .eq 303, 3) := by decide +kernel
theorem dL_law_915 : decode cL_law 915 = .ok (.iconst 0, 1) := by decide +kernel
theorem dL_law_916 : decode cL_law 916 = .ok (.ireturn, 1) := by decide +kernel
theorem dL_law_917 : decode cL_law 917 = .ok (.aload_n 1, 1) := by decide +kernel
theorem dL_law_918 : decode cL_law 918 = .ok (.aload_n 0, 1) := by decide +kernel
theorem dL_law_919 : decode cL_law 919 = .ok (.iload_n 3, 1) := by decide +kernel
theorem dL_law_920 : decode cL_law 920 = .ok (.iconst 1, 1) := by decide +kernel
theorem dL_law_921 : decode cL_law 921 = .ok (.iadd, 1) := by decide +kernel
theorem dL_law_922 : decode cL_law 922 = .ok (.iaload, 1) := by decide +kernel
theorem dL_law_923 : decode cL_law 923 = .ok (.aload_n 0, 1) := by decide +kernel
theorem dL_law_924 : decode cL_law 924 = .ok (.iload_n 3, 1) := by decide +kernel
theorem dL_law_925 : decode cL_law 925 = .ok (.iconst 2, 1) := by decide +kernel
theorem dL_law_926 : decode cL_law 926 = .ok (.iadd, 1) := by decide +kernel
theorem dL_law_927 : decode cL_law 927 = .ok (.iaload, 1) := by decide +kernel
theorem dL_law_928 : decode cL_law 928 = .ok (.invokevirtual 126, 3) := by decide +kernel
theorem dL_law_931 : decode cL_law 931 = .ok (.aload_n 2, 1) := by decide +kernel
theorem dL_law_932 : decode cL_law 932 = .ok (.aload_n 0, 1) := by decide +kernel
theorem dL_law_933 : decode cL_law 933 = .ok (.iload_n 3, 1) := by decide +kernel
theorem dL_law_934 : decode cL_law 934 = .ok (.iconst 1, 1) := by decide +kernel
theorem dL_law_935 : decode cL_law 935 = .ok (.iadd, 1) := by decide +kernel
theorem dL_law_936 : decode cL_law 936 = .ok (.iaload, 1) := by decide +kernel
theorem dL_law_937 : decode cL_law 937 = .ok (.aload_n 0, 1) := by decide +kernel
theorem dL_law_938 : decode cL_law 938 = .ok (.iload_n 3, 1) := by decide +kernel
theorem dL_law_939 : decode cL_law 939 = .ok (.iconst 2, 1) := by decide +kernel
theorem dL_law_940 : decode cL_law 940 = .ok (.iadd, 1) := by decide +kernel
theorem dL_law_941 : decode cL_law 941 = .ok (.iaload, 1) := by decide +kernel
theorem dL_law_942 : decode cL_law 942 = .ok (.invokevirtual 129, 3) := by decide +kernel
theorem dL_law_945 : decode cL_law 945 = .ok (.if_icmp .eq 270, 3) := by decide +kernel
theorem dL_law_948 : decode cL_law 948 = .ok (.iconst 0, 1) := by decide +kernel
theorem dL_law_949 : decode cL_law 949 = .ok (.ireturn, 1) := by decide +kernel
theorem dL_law_950 : decode cL_law 950 = .ok (.aload_n 1, 1) := by decide +kernel
theorem dL_law_951 : decode cL_law 951 = .ok (.aload_n 0, 1) := by decide +kernel
theorem dL_law_952 : decode cL_law 952 = .ok (.iload_n 3, 1) := by decide +kernel
theorem dL_law_953 : decode cL_law 953 = .ok (.iconst 1, 1) := by decide +kernel
theorem dL_law_954 : decode cL_law 954 = .ok (.iadd, 1) := by decide +kernel
theorem dL_law_955 : decode cL_law 955 = .ok (.iaload, 1) := by decide +kernel
theorem dL_law_956 : decode cL_law 956 = .ok (.aload_n 0, 1) := by decide +kernel
theorem dL_law_957 : decode cL_law 957 = .ok (.iload_n 3, 1) := by decide +kernel
theorem dL_law_958 : decode cL_law 958 = .ok (.iconst 2, 1) := by decide +kernel
theorem dL_law_959 : decode cL_law 959 = .ok (.iadd, 1) := by decide +kernel
theorem dL_law_960 : decode cL_law 960 = .ok (.iaload, 1) := by decide +kernel
theorem dL_law_961 : decode cL_law 961 = .ok (.invokevirtual 130, 3) := by decide +kernel
theorem dL_law_964 : decode cL_law 964 = .ok (.aload_n 2, 1) := by decide +kernel
theorem dL_law_965 : decode cL_law 965 = .ok (.aload_n 0, 1) := by decide +kernel
theorem dL_law_966 : decode cL_law 966 = .ok (.iload_n 3, 1) := by decide +kernel
theorem dL_law_967 : decode cL_law 967 = .ok (.iconst 1, 1) := by decide +kernel
theorem dL_law_968 : decode cL_law 968 = .ok (.iadd, 1) := by decide +kernel
theorem dL_law_969 : decode cL_law 969 = .ok (.iaload, 1) := by decide +kernel
theorem dL_law_970 : decode cL_law 970 = .ok (.aload_n 0, 1) := by decide +kernel
theorem dL_law_971 : decode cL_law 971 = .ok (.iload_n 3, 1) := by decide +kernel
theorem dL_law_972 : decode cL_law 972 = .ok (.iconst 2, 1) := by decide +kernel
theorem dL_law_973 : decode cL_law 973 = .ok (.iadd, 1) := by decide +kernel
theorem dL_law_974 : decode cL_law 974 = .ok (.iaload, 1) := by decide +kernel
theorem dL_law_975 : decode cL_law 975 = .ok (.invokevirtual 133, 3) := by decide +kernel
theorem dL_law_978 : decode cL_law 978 = .ok (.if_icmp .eq 237, 3) := by decide +kernel
theorem dL_law_981 : decode cL_law 981 = .ok (.iconst 0, 1) := by decide +kernel
theorem dL_law_982 : decode cL_law 982 = .ok (.ireturn, 1) := by decide +kernel
theorem dL_law_983 : decode cL_law 983 = .ok (.aload_n 1, 1) := by decide +kernel
theorem dL_law_984 : decode cL_law 984 = .ok (.aload_n 0, 1) := by decide +kernel
theorem dL_law_985 : decode cL_law 985 = .ok (.iload_n 3, 1) := by decide +kernel
theorem dL_law_986 : decode cL_law 986 = .ok (.iconst 1, 1) := by decide +kernel
theorem dL_law_987 : decode cL_law 987 = .ok (.iadd, 1) := by decide +kernel
theorem dL_law_988 : decode cL_law 988 = .ok (.iaload, 1) := by decide +kernel
theorem dL_law_989 : decode cL_law 989 = .ok (.invokevirtual 134, 3) := by decide +kernel
theorem dL_law_992 : decode cL_law 992 = .ok (.aload_n 2, 1) := by decide +kernel
theorem dL_law_993 : decode cL_law 993 = .ok (.aload_n 0, 1) := by decide +kernel
theorem dL_law_994 : decode cL_law 994 = .ok (.iload_n 3, 1) := by decide +kernel
theorem dL_law_995 : decode cL_law 995 = .ok (.iconst 1, 1) := by decide +kernel
theorem dL_law_996 : decode cL_law 996 = .ok (.iadd, 1) := by decide +kernel
theorem dL_law_997 : decode cL_law 997 = .ok (.iaload, 1) := by decide +kernel
theorem dL_law_998 : decode cL_law 998 = .ok (.invokevirtual 137, 3) := by decide +kernel
theorem dL_law_1001 : decode cL_law 1001 = .ok (.if_icmp .eq 214, 3) := by decide +kernel
theorem dL_law_1004 : decode cL_law 1004 = .ok (.iconst 0, 1) := by decide +kernel
theorem dL_law_1005 : decode cL_law 1005 = .ok (.ireturn, 1) := by decide +kernel
theorem dL_law_1006 : decode cL_law 1006 = .ok (.aload_n 1, 1) := by decide +kernel
theorem dL_law_1007 : decode cL_law 1007 = .ok (.aload_n 0, 1) := by decide +kernel
theorem dL_law_1008 : decode cL_law 1008 = .ok (.iload_n 3, 1) := by decide +kernel
theorem dL_law_1009 : decode cL_law 1009 = .ok (.iconst 1, 1) := by decide +kernel
theorem dL_law_1010 : decode cL_law 1010 = .ok (.iadd, 1) := by decide +kernel
theorem dL_law_1011 : decode cL_law 1011 = .ok (.iaload, 1) := by decide +kernel
theorem dL_law_1012 : decode cL_law 1012 = .ok (.invokevirtual 138, 3) := by decide +kernel
theorem dL_law_1015 : decode cL_law 1015 = .ok (.aload_n 2, 1) := by decide +kernel
theorem dL_law_1016 : decode cL_law 1016 = .ok (.aload_n 0, 1) := by decide +kernel
theorem dL_law_1017 : decode cL_law 1017 = .ok (.iload_n 3, 1) := by decide +kernel
theorem dL_law_1018 : decode cL_law 1018 = .ok (.iconst 1, 1) := by decide +kernel
theorem dL_law_1019 : decode cL_law 1019 = .ok (.iadd, 1) := by decide +kernel
theorem dL_law_1020 : decode cL_law 1020 = .ok (.iaload, 1) := by decide +kernel
theorem dL_law_1021 : decode cL_law 1021 = .ok (.invokevirtual 141, 3) := by decide +kernel
theorem dL_law_1024 : decode cL_law 1024 = .ok (.if_icmp .eq 191, 3) := by decide +kernel
theorem dL_law_1027 : decode cL_law 1027 = .ok (.iconst 0, 1) := by decide +kernel
theorem dL_law_1028 : decode cL_law 1028 = .ok (.ireturn, 1) := by decide +kernel
theorem dL_law_1029 : decode cL_law 1029 = .ok (.aload_n 1, 1) := by decide +kernel
theorem dL_law_1030 : decode cL_law 1030 = .ok (.aload_n 0, 1) := by decide +kernel
theorem dL_law_1031 : decode cL_law 1031 = .ok (.iload_n 3, 1) := by decide +kernel
theorem dL_law_1032 : decode cL_law 1032 = .ok (.iconst 1, 1) := by decide +kernel
theorem dL_law_1033 : decode cL_law 1033 = .ok (.iadd, 1) := by decide +kernel
theorem dL_law_1034 : decode cL_law 1034 = .ok (.iaload, 1) := by decide +kernel
theorem dL_law_1035 : decode cL_law 1035 = .ok (.invokevirtual 142, 3) := by decide +kernel
theorem dL_law_1038 : decode cL_law 1038 = .ok (.aload_n 2, 1) := by decide +kernel
theorem dL_law_1039 : decode cL_law 1039 = .ok (.aload_n 0, 1) := by decide +kernel
theorem dL_law_1040 : decode cL_law 1040 = .ok (.iload_n 3, 1) := by decide +kernel
theorem dL_law_1041 : decode cL_law 1041 = .ok (.iconst 1, 1) := by decide +kernel
theorem dL_law_1042 : decode cL_law 1042 = .ok (.iadd, 1) := by decide +kernel
theorem dL_law_1043 : decode cL_law 1043 = .ok (.iaload, 1) := by decide +kernel
theorem dL_law_1044 : decode cL_law 1044 = .ok (.invokevirtual 145, 3) := by decide +kernel
theorem dL_law_1047 : decode cL_law 1047 = .ok (.if_icmp .eq 168, 3) := by decide +kernel
theorem dL_law_1050 : decode cL_law 1050 = .ok (.iconst 0, 1) := by decide +kernel
theorem dL_law_1051 : decode cL_law 1051 = .ok (.ireturn, 1) := by decide +kernel
theorem dL_law_1052 : decode cL_law 1052 = .ok (.aload_n 1, 1) := by decide +kernel
theorem dL_law_1053 : decode cL_law 1053 = .ok (.invokevirtual 146, 3) := by decide +kernel
theorem dL_law_1056 : decode cL_law 1056 = .ok (.aload_n 2, 1) := by decide +kernel
theorem dL_law_1057 : decode cL_law 1057 = .ok (.invokevirtual 149, 3) := by decide +kernel
theorem dL_law_1060 : decode cL_law 1060 = .ok (.if_icmp .eq 155, 3) := by decide +kernel
theorem dL_law_1063 : decode cL_law 1063 = .ok (.iconst 0, 1) := by decide +kernel
theorem dL_law_1064 : decode cL_law 1064 = .ok (.ireturn, 1) := by decide +kernel
theorem dL_law_1065 : decode cL_law 1065 = .ok (.aload_n 1, 1) := by decide +kernel
theorem dL_law_1066 : decode cL_law 1066 = .ok (.aload_n 0, 1) := by decide +kernel
theorem dL_law_1067 : decode cL_law 1067 = .ok (.iload_n 3, 1) := by decide +kernel
theorem dL_law_1068 : decode cL_law 1068 = .ok (.iconst 1, 1) := by decide +kernel
theorem dL_law_1069 : decode cL_law 1069 = .ok (.iadd, 1) := by decide +kernel
theorem dL_law_1070 : decode cL_law 1070 = .ok (.iaload, 1) := by decide +kernel
theorem dL_law_1071 : decode cL_law 1071 = .ok (.invokevirtual 150, 3) := by decide +kernel
theorem dL_law_1074 : decode cL_law 1074 = .ok (.aload_n 2, 1) := by decide +kernel
theorem dL_law_1075 : decode cL_law 1075 = .ok (.aload_n 0, 1) := by decide +kernel
theorem dL_law_1076 : decode cL_law 1076 = .ok (.iload_n 3, 1) := by decide +kernel
theorem dL_law_1077 : decode cL_law 1077 = .ok (.iconst 1, 1) := by decide +kernel
theorem dL_law_1078 : decode cL_law 1078 = .ok (.iadd, 1) := by decide +kernel
theorem dL_law_1079 : decode cL_law 1079 = .ok (.iaload, 1) := by decide +kernel
theorem dL_law_1080 : decode cL_law 1080 = .ok (.invokevirtual 153, 3) := by decide +kernel
theorem dL_law_1083 : decode cL_law 1083 = .ok (.if_icmp .eq 132, 3) := by decide +kernel
theorem dL_law_1086 : decode cL_law 1086 = .ok (.iconst 0, 1) := by decide +kernel
theorem dL_law_1087 : decode cL_law 1087 = .ok (.ireturn, 1) := by decide +kernel
theorem dL_law_1088 : decode cL_law 1088 = .ok (.aload_n 1, 1) := by decide +kernel
theorem dL_law_1089 : decode cL_law 1089 = .ok (.invokevirtual 154, 3) := by decide +kernel
theorem dL_law_1092 : decode cL_law 1092 = .ok (.aload_n 2, 1) := by decide +kernel
theorem dL_law_1093 : decode cL_law 1093 = .ok (.invokevirtual 157, 3) := by decide +kernel
theorem dL_law_1096 : decode cL_law 1096 = .ok (.if_icmp .eq 119, 3) := by decide +kernel
theorem dL_law_1099 : decode cL_law 1099 = .ok (.iconst 0, 1) := by decide +kernel
theorem dL_law_1100 : decode cL_law 1100 = .ok (.ireturn, 1) := by decide +kernel
theorem dL_law_1101 : decode cL_law 1101 = .ok (.aload_n 1, 1) := by decide +kernel
theorem dL_law_1102 : decode cL_law 1102 = .ok (.invokevirtual 158, 3) := by decide +kernel
theorem dL_law_1105 : decode cL_law 1105 = .ok (.aload_n 2, 1) := by decide +kernel
theorem dL_law_1106 : decode cL_law 1106 = .ok (.invokevirtual 162, 3) := by decide +kernel
theorem dL_law_1109 : decode cL_law 1109 = .ok (.lcmp, 1) := by decide +kernel
theorem dL_law_1110 : decode cL_law 1110 = .ok (.ifCond .eq 105, 3) := by decide +kernel
theorem dL_law_1113 : decode cL_law 1113 = .ok (.iconst 0, 1) := by decide +kernel
theorem dL_law_1114 : decode cL_law 1114 = .ok (.ireturn, 1) := by decide +kernel
theorem dL_law_1115 : decode cL_law 1115 = .ok (.aload_n 1, 1) := by decide +kernel
theorem dL_law_1116 : decode cL_law 1116 = .ok (.invokevirtual 163, 3) := by decide +kernel
theorem dL_law_1119 : decode cL_law 1119 = .ok (.aload_n 2, 1) := by decide +kernel
theorem dL_law_1120 : decode cL_law 1120 = .ok (.invokevirtual 166, 3) := by decide +kernel
theorem dL_law_1123 : decode cL_law 1123 = .ok (.lcmp, 1) := by decide +kernel
theorem dL_law_1124 : decode cL_law 1124 = .ok (.ifCond .eq 91, 3) := by decide +kernel
theorem dL_law_1127 : decode cL_law 1127 = .ok (.iconst 0, 1) := by decide +kernel
theorem dL_law_1128 : decode cL_law 1128 = .ok (.ireturn, 1) := by decide +kernel
theorem dL_law_1129 : decode cL_law 1129 = .ok (.aload_n 1, 1) := by decide +kernel
theorem dL_law_1130 : decode cL_law 1130 = .ok (.aload_n 0, 1) := by decide +kernel
theorem dL_law_1131 : decode cL_law 1131 = .ok (.iload_n 3, 1) := by decide +kernel
theorem dL_law_1132 : decode cL_law 1132 = .ok (.iconst 1, 1) := by decide +kernel
theorem dL_law_1133 : decode cL_law 1133 = .ok (.iadd, 1) := by decide +kernel
theorem dL_law_1134 : decode cL_law 1134 = .ok (.iaload, 1) := by decide +kernel
theorem dL_law_1135 : decode cL_law 1135 = .ok (.invokevirtual 167, 3) := by decide +kernel
theorem dL_law_1138 : decode cL_law 1138 = .ok (.aload_n 2, 1) := by decide +kernel
theorem dL_law_1139 : decode cL_law 1139 = .ok (.aload_n 0, 1) := by decide +kernel
theorem dL_law_1140 : decode cL_law 1140 = .ok (.iload_n 3, 1) := by decide +kernel
theorem dL_law_1141 : decode cL_law 1141 = .ok (.iconst 1, 1) := by decide +kernel
theorem dL_law_1142 : decode cL_law 1142 = .ok (.iadd, 1) := by decide +kernel
theorem dL_law_1143 : decode cL_law 1143 = .ok (.iaload, 1) := by decide +kernel
theorem dL_law_1144 : decode cL_law 1144 = .ok (.invokevirtual 170, 3) := by decide +kernel
theorem dL_law_1147 : decode cL_law 1147 = .ok (.if_icmp .eq 68, 3) := by decide +kernel
theorem dL_law_1150 : decode cL_law 1150 = .ok (.iconst 0, 1) := by decide +kernel
theorem dL_law_1151 : decode cL_law 1151 = .ok (.ireturn, 1) := by decide +kernel
theorem dL_law_1152 : decode cL_law 1152 = .ok (.aload_n 1, 1) := by decide +kernel
theorem dL_law_1153 : decode cL_law 1153 = .ok (.invokevirtual 171, 3) := by decide +kernel
theorem dL_law_1156 : decode cL_law 1156 = .ok (.aload_n 2, 1) := by decide +kernel
theorem dL_law_1157 : decode cL_law 1157 = .ok (.invokevirtual 174, 3) := by decide +kernel
theorem dL_law_1160 : decode cL_law 1160 = .ok (.if_icmp .eq 55, 3) := by decide +kernel
theorem dL_law_1163 : decode cL_law 1163 = .ok (.iconst 0, 1) := by decide +kernel
theorem dL_law_1164 : decode cL_law 1164 = .ok (.ireturn, 1) := by decide +kernel
theorem dL_law_1165 : decode cL_law 1165 = .ok (.aload_n 1, 1) := by decide +kernel
theorem dL_law_1166 : decode cL_law 1166 = .ok (.invokevirtual 175, 3) := by decide +kernel
theorem dL_law_1169 : decode cL_law 1169 = .ok (.aload_n 2, 1) := by decide +kernel
theorem dL_law_1170 : decode cL_law 1170 = .ok (.invokevirtual 178, 3) := by decide +kernel
theorem dL_law_1173 : decode cL_law 1173 = .ok (.if_icmp .eq 42, 3) := by decide +kernel
theorem dL_law_1176 : decode cL_law 1176 = .ok (.iconst 0, 1) := by decide +kernel
theorem dL_law_1177 : decode cL_law 1177 = .ok (.ireturn, 1) := by decide +kernel
theorem dL_law_1178 : decode cL_law 1178 = .ok (.aload_n 1, 1) := by decide +kernel
theorem dL_law_1179 : decode cL_law 1179 = .ok (.aload_n 0, 1) := by decide +kernel
theorem dL_law_1180 : decode cL_law 1180 = .ok (.iload_n 3, 1) := by decide +kernel
theorem dL_law_1181 : decode cL_law 1181 = .ok (.iconst 1, 1) := by decide +kernel
theorem dL_law_1182 : decode cL_law 1182 = .ok (.iadd, 1) := by decide +kernel
theorem dL_law_1183 : decode cL_law 1183 = .ok (.iaload, 1) := by decide +kernel
theorem dL_law_1184 : decode cL_law 1184 = .ok (.invokevirtual 179, 3) := by decide +kernel
theorem dL_law_1187 : decode cL_law 1187 = .ok (.aload_n 2, 1) := by decide +kernel
theorem dL_law_1188 : decode cL_law 1188 = .ok (.aload_n 0, 1) := by decide +kernel
theorem dL_law_1189 : decode cL_law 1189 = .ok (.iload_n 3, 1) := by decide +kernel
theorem dL_law_1190 : decode cL_law 1190 = .ok (.iconst 1, 1) := by decide +kernel
theorem dL_law_1191 : decode cL_law 1191 = .ok (.iadd, 1) := by decide +kernel
theorem dL_law_1192 : decode cL_law 1192 = .ok (.iaload, 1) := by decide +kernel
theorem dL_law_1193 : decode cL_law 1193 = .ok (.invokevirtual 182, 3) := by decide +kernel
theorem dL_law_1196 : decode cL_law 1196 = .ok (.if_icmp .eq 19, 3) := by decide +kernel
theorem dL_law_1199 : decode cL_law 1199 = .ok (.iconst 0, 1) := by decide +kernel
theorem dL_law_1200 : decode cL_law 1200 = .ok (.ireturn, 1) := by decide +kernel
theorem dL_law_1201 : decode cL_law 1201 = .ok (.aload_n 1, 1) := by decide +kernel
theorem dL_law_1202 : decode cL_law 1202 = .ok (.invokevirtual 183, 3) := by decide +kernel
theorem dL_law_1205 : decode cL_law 1205 = .ok (.aload_n 2, 1) := by decide +kernel
theorem dL_law_1206 : decode cL_law 1206 = .ok (.invokevirtual 186, 3) := by decide +kernel
theorem dL_law_1209 : decode cL_law 1209 = .ok (.lcmp, 1) := by decide +kernel
theorem dL_law_1210 : decode cL_law 1210 = .ok (.ifCond .eq 5, 3) := by decide +kernel
theorem dL_law_1213 : decode cL_law 1213 = .ok (.iconst 0, 1) := by decide +kernel
theorem dL_law_1214 : decode cL_law 1214 = .ok (.ireturn, 1) := by decide +kernel
theorem dL_law_1215 : decode cL_law 1215 = .ok (.iinc 3 6, 3) := by decide +kernel
theorem dL_law_1218 : decode cL_law 1218 = .ok (.goto (-1200), 3) := by decide +kernel
theorem dL_law_1221 : decode cL_law 1221 = .ok (.iconst 1, 1) := by decide +kernel
theorem dL_law_1222 : decode cL_law 1222 = .ok (.ireturn, 1) := by decide +kernel
end
