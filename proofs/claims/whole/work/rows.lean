section
-- ===== PART A: goes FIRST, ahead of the names: the tables' words, and 'selects' of the private methods out of them =====
/-- a private method of a class that the tables say can be made, by its rows of tables_1 -/
def lw_okq (q : MethodName × Nat) : Prop := (q.1.cls ≠ "java/lang/invoke/MethodHandle" ∧ q.1.cls ≠ "java/lang/invoke/VarHandle") ∧ Cond.instantiable q.1.cls q.2 ∈ tables_1 ∧ Cond.privateMethod q.1 ∈ tables_1 ∧ Cond.instanceMethod q.1 ∈ tables_1
theorem lw_p0 : lw_okq (⟨"OddFridays", "refuseBad", "()I"⟩, 16) := ⟨⟨by decide +kernel, by decide +kernel⟩, List.mem_of_getElem? (i := 22) (by decide +kernel), List.mem_of_getElem? (i := 278) (by decide +kernel), List.mem_of_getElem? (i := 279) (by decide +kernel)⟩
theorem lw_p1 : lw_okq (⟨"OddFridays", "refuseNo", "()I"⟩, 16) := ⟨⟨by decide +kernel, by decide +kernel⟩, List.mem_of_getElem? (i := 22) (by decide +kernel), List.mem_of_getElem? (i := 312) (by decide +kernel), List.mem_of_getElem? (i := 313) (by decide +kernel)⟩
theorem lw_p2 : lw_okq (⟨"OddFridays", "refuseFull", "()I"⟩, 16) := ⟨⟨by decide +kernel, by decide +kernel⟩, List.mem_of_getElem? (i := 22) (by decide +kernel), List.mem_of_getElem? (i := 336) (by decide +kernel), List.mem_of_getElem? (i := 337) (by decide +kernel)⟩
theorem lw_p3 : lw_okq (⟨"OddFridays$Reader", "scan", "()V"⟩, 10) := ⟨⟨by decide +kernel, by decide +kernel⟩, List.mem_of_getElem? (i := 140) (by decide +kernel), List.mem_of_getElem? (i := 352) (by decide +kernel), List.mem_of_getElem? (i := 353) (by decide +kernel)⟩
theorem lw_p4 : lw_okq (⟨"OddFridays$Reader", "byteAt", "(I)I"⟩, 10) := ⟨⟨by decide +kernel, by decide +kernel⟩, List.mem_of_getElem? (i := 140) (by decide +kernel), List.mem_of_getElem? (i := 356) (by decide +kernel), List.mem_of_getElem? (i := 357) (by decide +kernel)⟩
theorem lw_p5 : lw_okq (⟨"OddFridays$Reader", "passWord", "()V"⟩, 10) := ⟨⟨by decide +kernel, by decide +kernel⟩, List.mem_of_getElem? (i := 140) (by decide +kernel), List.mem_of_getElem? (i := 363) (by decide +kernel), List.mem_of_getElem? (i := 364) (by decide +kernel)⟩
theorem lw_p6 : lw_okq (⟨"OddFridays$Reader", "passNumber", "()V"⟩, 10) := ⟨⟨by decide +kernel, by decide +kernel⟩, List.mem_of_getElem? (i := 140) (by decide +kernel), List.mem_of_getElem? (i := 370) (by decide +kernel), List.mem_of_getElem? (i := 371) (by decide +kernel)⟩
theorem lw_p7 : lw_okq (⟨"OddFridays$Reader", "parseStreet", "()V"⟩, 10) := ⟨⟨by decide +kernel, by decide +kernel⟩, List.mem_of_getElem? (i := 140) (by decide +kernel), List.mem_of_getElem? (i := 374) (by decide +kernel), List.mem_of_getElem? (i := 375) (by decide +kernel)⟩
theorem lw_p8 : lw_okq (⟨"OddFridays$Reader", "expectWord", "(Ljava/lang/String;)V"⟩, 10) := ⟨⟨by decide +kernel, by decide +kernel⟩, List.mem_of_getElem? (i := 140) (by decide +kernel), List.mem_of_getElem? (i := 379) (by decide +kernel), List.mem_of_getElem? (i := 380) (by decide +kernel)⟩
theorem lw_p9 : lw_okq (⟨"OddFridays$Reader", "tokenIs", "(Ljava/lang/String;)Z"⟩, 10) := ⟨⟨by decide +kernel, by decide +kernel⟩, List.mem_of_getElem? (i := 140) (by decide +kernel), List.mem_of_getElem? (i := 383) (by decide +kernel), List.mem_of_getElem? (i := 384) (by decide +kernel)⟩
theorem lw_p10 : lw_okq (⟨"OddFridays$Reader", "expectNumber", "(I)I"⟩, 10) := ⟨⟨by decide +kernel, by decide +kernel⟩, List.mem_of_getElem? (i := 140) (by decide +kernel), List.mem_of_getElem? (i := 435) (by decide +kernel), List.mem_of_getElem? (i := 436) (by decide +kernel)⟩
theorem lw_p11 : lw_okq (⟨"OddFridays$Reader", "expectStop", "()V"⟩, 10) := ⟨⟨by decide +kernel, by decide +kernel⟩, List.mem_of_getElem? (i := 140) (by decide +kernel), List.mem_of_getElem? (i := 439) (by decide +kernel), List.mem_of_getElem? (i := 440) (by decide +kernel)⟩
theorem lw_p12 : lw_okq (⟨"OddFridays$Reader", "parseHouse", "()V"⟩, 10) := ⟨⟨by decide +kernel, by decide +kernel⟩, List.mem_of_getElem? (i := 140) (by decide +kernel), List.mem_of_getElem? (i := 443) (by decide +kernel), List.mem_of_getElem? (i := 444) (by decide +kernel)⟩
theorem lw_p13 : lw_okq (⟨"OddFridays", "refuseBadApart", "()I"⟩, 16) := ⟨⟨by decide +kernel, by decide +kernel⟩, List.mem_of_getElem? (i := 22) (by decide +kernel), List.mem_of_getElem? (i := 552) (by decide +kernel), List.mem_of_getElem? (i := 553) (by decide +kernel)⟩
theorem lw_p14 : lw_okq (⟨"OddFridays$Peace", "gather", "([I)V"⟩, 7) := ⟨⟨by decide +kernel, by decide +kernel⟩, List.mem_of_getElem? (i := 112) (by decide +kernel), List.mem_of_getElem? (i := 560) (by decide +kernel), List.mem_of_getElem? (i := 561) (by decide +kernel)⟩
theorem lw_p15 : lw_okq (⟨"OddFridays$Peace", "comers", "(II)I"⟩, 7) := ⟨⟨by decide +kernel, by decide +kernel⟩, List.mem_of_getElem? (i := 112) (by decide +kernel), List.mem_of_getElem? (i := 569) (by decide +kernel), List.mem_of_getElem? (i := 570) (by decide +kernel)⟩
def lw_privs_1 : List (MethodName × Nat) := [(⟨"OddFridays", "refuseBad", "()I"⟩, 16), (⟨"OddFridays", "refuseNo", "()I"⟩, 16), (⟨"OddFridays", "refuseFull", "()I"⟩, 16), (⟨"OddFridays$Reader", "scan", "()V"⟩, 10), (⟨"OddFridays$Reader", "byteAt", "(I)I"⟩, 10), (⟨"OddFridays$Reader", "passWord", "()V"⟩, 10), (⟨"OddFridays$Reader", "passNumber", "()V"⟩, 10), (⟨"OddFridays$Reader", "parseStreet", "()V"⟩, 10), (⟨"OddFridays$Reader", "expectWord", "(Ljava/lang/String;)V"⟩, 10), (⟨"OddFridays$Reader", "tokenIs", "(Ljava/lang/String;)Z"⟩, 10), (⟨"OddFridays$Reader", "expectNumber", "(I)I"⟩, 10), (⟨"OddFridays$Reader", "expectStop", "()V"⟩, 10), (⟨"OddFridays$Reader", "parseHouse", "()V"⟩, 10), (⟨"OddFridays", "refuseBadApart", "()I"⟩, 16), (⟨"OddFridays$Peace", "gather", "([I)V"⟩, 7), (⟨"OddFridays$Peace", "comers", "(II)I"⟩, 7)]
theorem lw_r1 : ∀ q ∈ lw_privs_1, lw_okq q := List.forall_mem_cons.mpr ⟨lw_p0, List.forall_mem_cons.mpr ⟨lw_p1, List.forall_mem_cons.mpr ⟨lw_p2, List.forall_mem_cons.mpr ⟨lw_p3, List.forall_mem_cons.mpr ⟨lw_p4, List.forall_mem_cons.mpr ⟨lw_p5, List.forall_mem_cons.mpr ⟨lw_p6, List.forall_mem_cons.mpr ⟨lw_p7, List.forall_mem_cons.mpr ⟨lw_p8, List.forall_mem_cons.mpr ⟨lw_p9, List.forall_mem_cons.mpr ⟨lw_p10, List.forall_mem_cons.mpr ⟨lw_p11, List.forall_mem_cons.mpr ⟨lw_p12, List.forall_mem_cons.mpr ⟨lw_p13, List.forall_mem_cons.mpr ⟨lw_p14, List.forall_mem_cons.mpr ⟨lw_p15, fun _ h => absurd h List.not_mem_nil⟩⟩⟩⟩⟩⟩⟩⟩⟩⟩⟩⟩⟩⟩⟩⟩
theorem lw_p16 : lw_okq (⟨"OddFridays$Peace", "sumOver", "(II)I"⟩, 7) := ⟨⟨by decide +kernel, by decide +kernel⟩, List.mem_of_getElem? (i := 112) (by decide +kernel), List.mem_of_getElem? (i := 573) (by decide +kernel), List.mem_of_getElem? (i := 574) (by decide +kernel)⟩
theorem lw_p17 : lw_okq (⟨"OddFridays$Peace", "firstComer", "(II)I"⟩, 7) := ⟨⟨by decide +kernel, by decide +kernel⟩, List.mem_of_getElem? (i := 112) (by decide +kernel), List.mem_of_getElem? (i := 581) (by decide +kernel), List.mem_of_getElem? (i := 582) (by decide +kernel)⟩
theorem lw_p18 : lw_okq (⟨"OddFridays$Peace", "leastOver", "(II)I"⟩, 7) := ⟨⟨by decide +kernel, by decide +kernel⟩, List.mem_of_getElem? (i := 112) (by decide +kernel), List.mem_of_getElem? (i := 593) (by decide +kernel), List.mem_of_getElem? (i := 594) (by decide +kernel)⟩
theorem lw_p19 : lw_okq (⟨"OddFridays$Peace", "settleApart", "([I)V"⟩, 7) := ⟨⟨by decide +kernel, by decide +kernel⟩, List.mem_of_getElem? (i := 112) (by decide +kernel), List.mem_of_getElem? (i := 608) (by decide +kernel), List.mem_of_getElem? (i := 609) (by decide +kernel)⟩
theorem lw_p20 : lw_okq (⟨"OddFridays$Peace", "endsOf", "(I)I"⟩, 7) := ⟨⟨by decide +kernel, by decide +kernel⟩, List.mem_of_getElem? (i := 112) (by decide +kernel), List.mem_of_getElem? (i := 613) (by decide +kernel), List.mem_of_getElem? (i := 614) (by decide +kernel)⟩
theorem lw_p21 : lw_okq (⟨"OddFridays$Peace", "isApart", "(I)Z"⟩, 7) := ⟨⟨by decide +kernel, by decide +kernel⟩, List.mem_of_getElem? (i := 112) (by decide +kernel), List.mem_of_getElem? (i := 628) (by decide +kernel), List.mem_of_getElem? (i := 629) (by decide +kernel)⟩
theorem lw_p22 : lw_okq (⟨"OddFridays$Peace", "housesOf", "(I)I"⟩, 7) := ⟨⟨by decide +kernel, by decide +kernel⟩, List.mem_of_getElem? (i := 112) (by decide +kernel), List.mem_of_getElem? (i := 632) (by decide +kernel), List.mem_of_getElem? (i := 633) (by decide +kernel)⟩
theorem lw_p23 : lw_okq (⟨"OddFridays", "followChain", "(I)I"⟩, 16) := ⟨⟨by decide +kernel, by decide +kernel⟩, List.mem_of_getElem? (i := 22) (by decide +kernel), List.mem_of_getElem? (i := 640) (by decide +kernel), List.mem_of_getElem? (i := 641) (by decide +kernel)⟩
theorem lw_p24 : lw_okq (⟨"OddFridays", "isLink", "(I)Z"⟩, 16) := ⟨⟨by decide +kernel, by decide +kernel⟩, List.mem_of_getElem? (i := 22) (by decide +kernel), List.mem_of_getElem? (i := 644) (by decide +kernel), List.mem_of_getElem? (i := 645) (by decide +kernel)⟩
theorem lw_p25 : lw_okq (⟨"OddFridays", "gatherFits", "()I"⟩, 16) := ⟨⟨by decide +kernel, by decide +kernel⟩, List.mem_of_getElem? (i := 22) (by decide +kernel), List.mem_of_getElem? (i := 692) (by decide +kernel), List.mem_of_getElem? (i := 693) (by decide +kernel)⟩
theorem lw_p26 : lw_okq (⟨"OddFridays", "agreesWithReadings", "(I)Z"⟩, 16) := ⟨⟨by decide +kernel, by decide +kernel⟩, List.mem_of_getElem? (i := 22) (by decide +kernel), List.mem_of_getElem? (i := 696) (by decide +kernel), List.mem_of_getElem? (i := 697) (by decide +kernel)⟩
theorem lw_p27 : lw_okq (⟨"OddFridays", "greaterPart", "(III)I"⟩, 16) := ⟨⟨by decide +kernel, by decide +kernel⟩, List.mem_of_getElem? (i := 22) (by decide +kernel), List.mem_of_getElem? (i := 704) (by decide +kernel), List.mem_of_getElem? (i := 705) (by decide +kernel)⟩
theorem lw_p28 : lw_okq (⟨"OddFridays", "agreesWithNotes", "(I)Z"⟩, 16) := ⟨⟨by decide +kernel, by decide +kernel⟩, List.mem_of_getElem? (i := 22) (by decide +kernel), List.mem_of_getElem? (i := 721) (by decide +kernel), List.mem_of_getElem? (i := 722) (by decide +kernel)⟩
theorem lw_p29 : lw_okq (⟨"OddFridays", "emptyBehind", "(I)I"⟩, 16) := ⟨⟨by decide +kernel, by decide +kernel⟩, List.mem_of_getElem? (i := 22) (by decide +kernel), List.mem_of_getElem? (i := 733) (by decide +kernel), List.mem_of_getElem? (i := 734) (by decide +kernel)⟩
theorem lw_p30 : lw_okq (⟨"OddFridays", "fillTrial", "(J)J"⟩, 16) := ⟨⟨by decide +kernel, by decide +kernel⟩, List.mem_of_getElem? (i := 22) (by decide +kernel), List.mem_of_getElem? (i := 751) (by decide +kernel), List.mem_of_getElem? (i := 752) (by decide +kernel)⟩
theorem lw_p31 : lw_okq (⟨"OddFridays", "imageAt", "(I)LOddFridays$State;"⟩, 16) := ⟨⟨by decide +kernel, by decide +kernel⟩, List.mem_of_getElem? (i := 22) (by decide +kernel), List.mem_of_getElem? (i := 768) (by decide +kernel), List.mem_of_getElem? (i := 769) (by decide +kernel)⟩
def lw_privs_2 : List (MethodName × Nat) := [(⟨"OddFridays$Peace", "sumOver", "(II)I"⟩, 7), (⟨"OddFridays$Peace", "firstComer", "(II)I"⟩, 7), (⟨"OddFridays$Peace", "leastOver", "(II)I"⟩, 7), (⟨"OddFridays$Peace", "settleApart", "([I)V"⟩, 7), (⟨"OddFridays$Peace", "endsOf", "(I)I"⟩, 7), (⟨"OddFridays$Peace", "isApart", "(I)Z"⟩, 7), (⟨"OddFridays$Peace", "housesOf", "(I)I"⟩, 7), (⟨"OddFridays", "followChain", "(I)I"⟩, 16), (⟨"OddFridays", "isLink", "(I)Z"⟩, 16), (⟨"OddFridays", "gatherFits", "()I"⟩, 16), (⟨"OddFridays", "agreesWithReadings", "(I)Z"⟩, 16), (⟨"OddFridays", "greaterPart", "(III)I"⟩, 16), (⟨"OddFridays", "agreesWithNotes", "(I)Z"⟩, 16), (⟨"OddFridays", "emptyBehind", "(I)I"⟩, 16), (⟨"OddFridays", "fillTrial", "(J)J"⟩, 16), (⟨"OddFridays", "imageAt", "(I)LOddFridays$State;"⟩, 16)]
theorem lw_r2 : ∀ q ∈ lw_privs_2, lw_okq q := List.forall_mem_cons.mpr ⟨lw_p16, List.forall_mem_cons.mpr ⟨lw_p17, List.forall_mem_cons.mpr ⟨lw_p18, List.forall_mem_cons.mpr ⟨lw_p19, List.forall_mem_cons.mpr ⟨lw_p20, List.forall_mem_cons.mpr ⟨lw_p21, List.forall_mem_cons.mpr ⟨lw_p22, List.forall_mem_cons.mpr ⟨lw_p23, List.forall_mem_cons.mpr ⟨lw_p24, List.forall_mem_cons.mpr ⟨lw_p25, List.forall_mem_cons.mpr ⟨lw_p26, List.forall_mem_cons.mpr ⟨lw_p27, List.forall_mem_cons.mpr ⟨lw_p28, List.forall_mem_cons.mpr ⟨lw_p29, List.forall_mem_cons.mpr ⟨lw_p30, List.forall_mem_cons.mpr ⟨lw_p31, fun _ h => absurd h List.not_mem_nil⟩⟩⟩⟩⟩⟩⟩⟩⟩⟩⟩⟩⟩⟩⟩⟩
theorem lw_p32 : lw_okq (⟨"OddFridays", "tally", "(I)I"⟩, 16) := ⟨⟨by decide +kernel, by decide +kernel⟩, List.mem_of_getElem? (i := 22) (by decide +kernel), List.mem_of_getElem? (i := 788) (by decide +kernel), List.mem_of_getElem? (i := 789) (by decide +kernel)⟩
theorem lw_p33 : lw_okq (⟨"OddFridaysModel", "bad", "(I)I"⟩, 25) := ⟨⟨by decide +kernel, by decide +kernel⟩, List.mem_of_getElem? (i := 801) (by decide +kernel), List.mem_of_getElem? (i := 895) (by decide +kernel), List.mem_of_getElem? (i := 896) (by decide +kernel)⟩
theorem lw_p34 : lw_okq (⟨"OddFridaysModel", "lived", "()I"⟩, 25) := ⟨⟨by decide +kernel, by decide +kernel⟩, List.mem_of_getElem? (i := 801) (by decide +kernel), List.mem_of_getElem? (i := 899) (by decide +kernel), List.mem_of_getElem? (i := 900) (by decide +kernel)⟩
theorem lw_p35 : lw_okq (⟨"OddFridaysModel", "law", "()I"⟩, 25) := ⟨⟨by decide +kernel, by decide +kernel⟩, List.mem_of_getElem? (i := 801) (by decide +kernel), List.mem_of_getElem? (i := 913) (by decide +kernel), List.mem_of_getElem? (i := 914) (by decide +kernel)⟩
theorem lw_p36 : lw_okq (⟨"OddFridaysModel", "keep", "()V"⟩, 25) := ⟨⟨by decide +kernel, by decide +kernel⟩, List.mem_of_getElem? (i := 801) (by decide +kernel), List.mem_of_getElem? (i := 917) (by decide +kernel), List.mem_of_getElem? (i := 918) (by decide +kernel)⟩
theorem lw_p37 : lw_okq (⟨"OddFridaysModel", "no", "()I"⟩, 25) := ⟨⟨by decide +kernel, by decide +kernel⟩, List.mem_of_getElem? (i := 801) (by decide +kernel), List.mem_of_getElem? (i := 934) (by decide +kernel), List.mem_of_getElem? (i := 935) (by decide +kernel)⟩
theorem lw_p38 : lw_okq (⟨"OddFridaysModel", "layHand", "()V"⟩, 25) := ⟨⟨by decide +kernel, by decide +kernel⟩, List.mem_of_getElem? (i := 801) (by decide +kernel), List.mem_of_getElem? (i := 951) (by decide +kernel), List.mem_of_getElem? (i := 952) (by decide +kernel)⟩
theorem lw_p39 : lw_okq (⟨"OddFridaysModel", "isPrime", "(I)Z"⟩, 25) := ⟨⟨by decide +kernel, by decide +kernel⟩, List.mem_of_getElem? (i := 801) (by decide +kernel), List.mem_of_getElem? (i := 955) (by decide +kernel), List.mem_of_getElem? (i := 956) (by decide +kernel)⟩
theorem lw_p40 : lw_okq (⟨"OddFridaysModel", "quarrelsIn", "(I)Z"⟩, 25) := ⟨⟨by decide +kernel, by decide +kernel⟩, List.mem_of_getElem? (i := 801) (by decide +kernel), List.mem_of_getElem? (i := 962) (by decide +kernel), List.mem_of_getElem? (i := 963) (by decide +kernel)⟩
theorem lw_p41 : lw_okq (⟨"OddFridaysModel", "isQuarrel", "(I)Z"⟩, 25) := ⟨⟨by decide +kernel, by decide +kernel⟩, List.mem_of_getElem? (i := 801) (by decide +kernel), List.mem_of_getElem? (i := 966) (by decide +kernel), List.mem_of_getElem? (i := 967) (by decide +kernel)⟩
theorem lw_p42 : lw_okq (⟨"OddFridaysModel", "isPair", "(I)Z"⟩, 25) := ⟨⟨by decide +kernel, by decide +kernel⟩, List.mem_of_getElem? (i := 801) (by decide +kernel), List.mem_of_getElem? (i := 970) (by decide +kernel), List.mem_of_getElem? (i := 971) (by decide +kernel)⟩
theorem lw_p43 : lw_okq (⟨"OddFridaysModel", "mayNow", "(II)Z"⟩, 25) := ⟨⟨by decide +kernel, by decide +kernel⟩, List.mem_of_getElem? (i := 801) (by decide +kernel), List.mem_of_getElem? (i := 974) (by decide +kernel), List.mem_of_getElem? (i := 975) (by decide +kernel)⟩
theorem lw_p44 : lw_okq (⟨"OddFridaysModel", "mayBy", "(IIII)Z"⟩, 25) := ⟨⟨by decide +kernel, by decide +kernel⟩, List.mem_of_getElem? (i := 801) (by decide +kernel), List.mem_of_getElem? (i := 978) (by decide +kernel), List.mem_of_getElem? (i := 979) (by decide +kernel)⟩
theorem lw_p45 : lw_okq (⟨"OddFridaysModel", "manyQuarrels", "()I"⟩, 25) := ⟨⟨by decide +kernel, by decide +kernel⟩, List.mem_of_getElem? (i := 801) (by decide +kernel), List.mem_of_getElem? (i := 996) (by decide +kernel), List.mem_of_getElem? (i := 997) (by decide +kernel)⟩
theorem lw_p46 : lw_okq (⟨"OddFridaysModel", "layOrders", "()V"⟩, 25) := ⟨⟨by decide +kernel, by decide +kernel⟩, List.mem_of_getElem? (i := 801) (by decide +kernel), List.mem_of_getElem? (i := 1009) (by decide +kernel), List.mem_of_getElem? (i := 1010) (by decide +kernel)⟩
theorem lw_p47 : lw_okq (⟨"OddFridaysModel", "nextLived", "(I)I"⟩, 25) := ⟨⟨by decide +kernel, by decide +kernel⟩, List.mem_of_getElem? (i := 801) (by decide +kernel), List.mem_of_getElem? (i := 1014) (by decide +kernel), List.mem_of_getElem? (i := 1015) (by decide +kernel)⟩
def lw_privs_3 : List (MethodName × Nat) := [(⟨"OddFridays", "tally", "(I)I"⟩, 16), (⟨"OddFridaysModel", "bad", "(I)I"⟩, 25), (⟨"OddFridaysModel", "lived", "()I"⟩, 25), (⟨"OddFridaysModel", "law", "()I"⟩, 25), (⟨"OddFridaysModel", "keep", "()V"⟩, 25), (⟨"OddFridaysModel", "no", "()I"⟩, 25), (⟨"OddFridaysModel", "layHand", "()V"⟩, 25), (⟨"OddFridaysModel", "isPrime", "(I)Z"⟩, 25), (⟨"OddFridaysModel", "quarrelsIn", "(I)Z"⟩, 25), (⟨"OddFridaysModel", "isQuarrel", "(I)Z"⟩, 25), (⟨"OddFridaysModel", "isPair", "(I)Z"⟩, 25), (⟨"OddFridaysModel", "mayNow", "(II)Z"⟩, 25), (⟨"OddFridaysModel", "mayBy", "(IIII)Z"⟩, 25), (⟨"OddFridaysModel", "manyQuarrels", "()I"⟩, 25), (⟨"OddFridaysModel", "layOrders", "()V"⟩, 25), (⟨"OddFridaysModel", "nextLived", "(I)I"⟩, 25)]
theorem lw_r3 : ∀ q ∈ lw_privs_3, lw_okq q := List.forall_mem_cons.mpr ⟨lw_p32, List.forall_mem_cons.mpr ⟨lw_p33, List.forall_mem_cons.mpr ⟨lw_p34, List.forall_mem_cons.mpr ⟨lw_p35, List.forall_mem_cons.mpr ⟨lw_p36, List.forall_mem_cons.mpr ⟨lw_p37, List.forall_mem_cons.mpr ⟨lw_p38, List.forall_mem_cons.mpr ⟨lw_p39, List.forall_mem_cons.mpr ⟨lw_p40, List.forall_mem_cons.mpr ⟨lw_p41, List.forall_mem_cons.mpr ⟨lw_p42, List.forall_mem_cons.mpr ⟨lw_p43, List.forall_mem_cons.mpr ⟨lw_p44, List.forall_mem_cons.mpr ⟨lw_p45, List.forall_mem_cons.mpr ⟨lw_p46, List.forall_mem_cons.mpr ⟨lw_p47, fun _ h => absurd h List.not_mem_nil⟩⟩⟩⟩⟩⟩⟩⟩⟩⟩⟩⟩⟩⟩⟩⟩
theorem lw_p48 : lw_okq (⟨"OddFridaysModel", "judgeOrder", "()V"⟩, 25) := ⟨⟨by decide +kernel, by decide +kernel⟩, List.mem_of_getElem? (i := 801) (by decide +kernel), List.mem_of_getElem? (i := 1018) (by decide +kernel), List.mem_of_getElem? (i := 1019) (by decide +kernel)⟩
theorem lw_p49 : lw_okq (⟨"OddFridaysModel", "lastLived", "(I)I"⟩, 25) := ⟨⟨by decide +kernel, by decide +kernel⟩, List.mem_of_getElem? (i := 801) (by decide +kernel), List.mem_of_getElem? (i := 1022) (by decide +kernel), List.mem_of_getElem? (i := 1023) (by decide +kernel)⟩
theorem lw_p50 : lw_okq (⟨"OddFridaysModel", "nextComer", "(II)I"⟩, 25) := ⟨⟨by decide +kernel, by decide +kernel⟩, List.mem_of_getElem? (i := 801) (by decide +kernel), List.mem_of_getElem? (i := 1026) (by decide +kernel), List.mem_of_getElem? (i := 1027) (by decide +kernel)⟩
theorem lw_p51 : lw_okq (⟨"OddFridaysModel", "isTaken", "(II)Z"⟩, 25) := ⟨⟨by decide +kernel, by decide +kernel⟩, List.mem_of_getElem? (i := 801) (by decide +kernel), List.mem_of_getElem? (i := 1030) (by decide +kernel), List.mem_of_getElem? (i := 1031) (by decide +kernel)⟩
theorem lw_p52 : lw_okq (⟨"OddFridaysModel", "lastsOf", "(I)I"⟩, 25) := ⟨⟨by decide +kernel, by decide +kernel⟩, List.mem_of_getElem? (i := 801) (by decide +kernel), List.mem_of_getElem? (i := 1042) (by decide +kernel), List.mem_of_getElem? (i := 1043) (by decide +kernel)⟩
theorem lw_p53 : lw_okq (⟨"OddFridaysModel", "areApart", "(II)Z"⟩, 25) := ⟨⟨by decide +kernel, by decide +kernel⟩, List.mem_of_getElem? (i := 801) (by decide +kernel), List.mem_of_getElem? (i := 1046) (by decide +kernel), List.mem_of_getElem? (i := 1047) (by decide +kernel)⟩
theorem lw_p54 : lw_okq (⟨"OddFridaysModel", "areAllApart", "(I)Z"⟩, 25) := ⟨⟨by decide +kernel, by decide +kernel⟩, List.mem_of_getElem? (i := 801) (by decide +kernel), List.mem_of_getElem? (i := 1054) (by decide +kernel), List.mem_of_getElem? (i := 1055) (by decide +kernel)⟩
theorem lw_p55 : lw_okq (⟨"OddFridaysModel", "daysTill", "(II)I"⟩, 25) := ⟨⟨by decide +kernel, by decide +kernel⟩, List.mem_of_getElem? (i := 801) (by decide +kernel), List.mem_of_getElem? (i := 1071) (by decide +kernel), List.mem_of_getElem? (i := 1072) (by decide +kernel)⟩
theorem lw_p56 : lw_okq (⟨"OddFridaysModel", "full", "()I"⟩, 25) := ⟨⟨by decide +kernel, by decide +kernel⟩, List.mem_of_getElem? (i := 801) (by decide +kernel), List.mem_of_getElem? (i := 1084) (by decide +kernel), List.mem_of_getElem? (i := 1085) (by decide +kernel)⟩
theorem lw_p57 : lw_okq (⟨"OddFridaysModel", "layCan", "()V"⟩, 25) := ⟨⟨by decide +kernel, by decide +kernel⟩, List.mem_of_getElem? (i := 801) (by decide +kernel), List.mem_of_getElem? (i := 1092) (by decide +kernel), List.mem_of_getElem? (i := 1093) (by decide +kernel)⟩
theorem lw_p58 : lw_okq (⟨"OddFridaysModel", "canBe", "(I)Z"⟩, 25) := ⟨⟨by decide +kernel, by decide +kernel⟩, List.mem_of_getElem? (i := 801) (by decide +kernel), List.mem_of_getElem? (i := 1096) (by decide +kernel), List.mem_of_getElem? (i := 1097) (by decide +kernel)⟩
theorem lw_p59 : lw_okq (⟨"OddFridaysModel", "greaterPart", "(I)I"⟩, 25) := ⟨⟨by decide +kernel, by decide +kernel⟩, List.mem_of_getElem? (i := 801) (by decide +kernel), List.mem_of_getElem? (i := 1104) (by decide +kernel), List.mem_of_getElem? (i := 1105) (by decide +kernel)⟩
theorem lw_p60 : lw_okq (⟨"OddFridaysModel", "isLawSo", "(I)Z"⟩, 25) := ⟨⟨by decide +kernel, by decide +kernel⟩, List.mem_of_getElem? (i := 801) (by decide +kernel), List.mem_of_getElem? (i := 1116) (by decide +kernel), List.mem_of_getElem? (i := 1117) (by decide +kernel)⟩
theorem lw_p61 : lw_okq (⟨"OddFridaysModel", "fraction", "(JJ)V"⟩, 25) := ⟨⟨by decide +kernel, by decide +kernel⟩, List.mem_of_getElem? (i := 801) (by decide +kernel), List.mem_of_getElem? (i := 1133) (by decide +kernel), List.mem_of_getElem? (i := 1134) (by decide +kernel)⟩
theorem lw_p62 : lw_okq (⟨"OddFridaysModel", "lookAt", "(I)V"⟩, 25) := ⟨⟨by decide +kernel, by decide +kernel⟩, List.mem_of_getElem? (i := 801) (by decide +kernel), List.mem_of_getElem? (i := 1161) (by decide +kernel), List.mem_of_getElem? (i := 1162) (by decide +kernel)⟩
theorem lw_p63 : lw_okq (⟨"OddFridaysModel", "takesFirst", "()Z"⟩, 25) := ⟨⟨by decide +kernel, by decide +kernel⟩, List.mem_of_getElem? (i := 801) (by decide +kernel), List.mem_of_getElem? (i := 1175) (by decide +kernel), List.mem_of_getElem? (i := 1176) (by decide +kernel)⟩
def lw_privs_4 : List (MethodName × Nat) := [(⟨"OddFridaysModel", "judgeOrder", "()V"⟩, 25), (⟨"OddFridaysModel", "lastLived", "(I)I"⟩, 25), (⟨"OddFridaysModel", "nextComer", "(II)I"⟩, 25), (⟨"OddFridaysModel", "isTaken", "(II)Z"⟩, 25), (⟨"OddFridaysModel", "lastsOf", "(I)I"⟩, 25), (⟨"OddFridaysModel", "areApart", "(II)Z"⟩, 25), (⟨"OddFridaysModel", "areAllApart", "(I)Z"⟩, 25), (⟨"OddFridaysModel", "daysTill", "(II)I"⟩, 25), (⟨"OddFridaysModel", "full", "()I"⟩, 25), (⟨"OddFridaysModel", "layCan", "()V"⟩, 25), (⟨"OddFridaysModel", "canBe", "(I)Z"⟩, 25), (⟨"OddFridaysModel", "greaterPart", "(I)I"⟩, 25), (⟨"OddFridaysModel", "isLawSo", "(I)Z"⟩, 25), (⟨"OddFridaysModel", "fraction", "(JJ)V"⟩, 25), (⟨"OddFridaysModel", "lookAt", "(I)V"⟩, 25), (⟨"OddFridaysModel", "takesFirst", "()Z"⟩, 25)]
theorem lw_r4 : ∀ q ∈ lw_privs_4, lw_okq q := List.forall_mem_cons.mpr ⟨lw_p48, List.forall_mem_cons.mpr ⟨lw_p49, List.forall_mem_cons.mpr ⟨lw_p50, List.forall_mem_cons.mpr ⟨lw_p51, List.forall_mem_cons.mpr ⟨lw_p52, List.forall_mem_cons.mpr ⟨lw_p53, List.forall_mem_cons.mpr ⟨lw_p54, List.forall_mem_cons.mpr ⟨lw_p55, List.forall_mem_cons.mpr ⟨lw_p56, List.forall_mem_cons.mpr ⟨lw_p57, List.forall_mem_cons.mpr ⟨lw_p58, List.forall_mem_cons.mpr ⟨lw_p59, List.forall_mem_cons.mpr ⟨lw_p60, List.forall_mem_cons.mpr ⟨lw_p61, List.forall_mem_cons.mpr ⟨lw_p62, List.forall_mem_cons.mpr ⟨lw_p63, fun _ h => absurd h List.not_mem_nil⟩⟩⟩⟩⟩⟩⟩⟩⟩⟩⟩⟩⟩⟩⟩⟩
theorem lw_p64 : lw_okq (⟨"OddFridaysModel", "isWord", "(IIIIIII)Z"⟩, 25) := ⟨⟨by decide +kernel, by decide +kernel⟩, List.mem_of_getElem? (i := 801) (by decide +kernel), List.mem_of_getElem? (i := 1179) (by decide +kernel), List.mem_of_getElem? (i := 1180) (by decide +kernel)⟩
theorem lw_p65 : lw_okq (⟨"OddFridaysModel", "goBehind", "()V"⟩, 25) := ⟨⟨by decide +kernel, by decide +kernel⟩, List.mem_of_getElem? (i := 801) (by decide +kernel), List.mem_of_getElem? (i := 1183) (by decide +kernel), List.mem_of_getElem? (i := 1184) (by decide +kernel)⟩
theorem lw_p66 : lw_okq (⟨"OddFridaysModel", "takes", "(III)Z"⟩, 25) := ⟨⟨by decide +kernel, by decide +kernel⟩, List.mem_of_getElem? (i := 801) (by decide +kernel), List.mem_of_getElem? (i := 1187) (by decide +kernel), List.mem_of_getElem? (i := 1188) (by decide +kernel)⟩
theorem lw_p67 : lw_okq (⟨"OddFridaysModel", "takesHouse", "()Z"⟩, 25) := ⟨⟨by decide +kernel, by decide +kernel⟩, List.mem_of_getElem? (i := 801) (by decide +kernel), List.mem_of_getElem? (i := 1191) (by decide +kernel), List.mem_of_getElem? (i := 1192) (by decide +kernel)⟩
theorem lw_p68 : lw_okq (⟨"OddFridaysModel", "counted", "(I)I"⟩, 25) := ⟨⟨by decide +kernel, by decide +kernel⟩, List.mem_of_getElem? (i := 801) (by decide +kernel), List.mem_of_getElem? (i := 1215) (by decide +kernel), List.mem_of_getElem? (i := 1216) (by decide +kernel)⟩
def lw_privs_5 : List (MethodName × Nat) := [(⟨"OddFridaysModel", "isWord", "(IIIIIII)Z"⟩, 25), (⟨"OddFridaysModel", "goBehind", "()V"⟩, 25), (⟨"OddFridaysModel", "takes", "(III)Z"⟩, 25), (⟨"OddFridaysModel", "takesHouse", "()Z"⟩, 25), (⟨"OddFridaysModel", "counted", "(I)I"⟩, 25)]
theorem lw_r5 : ∀ q ∈ lw_privs_5, lw_okq q := List.forall_mem_cons.mpr ⟨lw_p64, List.forall_mem_cons.mpr ⟨lw_p65, List.forall_mem_cons.mpr ⟨lw_p66, List.forall_mem_cons.mpr ⟨lw_p67, List.forall_mem_cons.mpr ⟨lw_p68, fun _ h => absurd h List.not_mem_nil⟩⟩⟩⟩⟩
def lw_privs : List (MethodName × Nat) := lw_privs_1 ++ (lw_privs_2 ++ (lw_privs_3 ++ (lw_privs_4 ++ (lw_privs_5))))
def lw_tbl : List Cond := k2_sels lw_privs ++ tables_1
theorem lw_privs_ok : ∀ q ∈ lw_privs, lw_okq q := by
  show ∀ q ∈ lw_privs_1 ++ (lw_privs_2 ++ (lw_privs_3 ++ (lw_privs_4 ++ (lw_privs_5)))), lw_okq q
  exact List.forall_mem_append.mpr ⟨lw_r1, List.forall_mem_append.mpr ⟨lw_r2, List.forall_mem_append.mpr ⟨lw_r3, List.forall_mem_append.mpr ⟨lw_r4, lw_r5⟩⟩⟩⟩
end
section
def RX0 : String := "OddFridays$Even"
def TX0 : u_T := fun k => match k with
  | _ => ("OddFridays$Plain", "numbers", "LOddFridays$Numbers;", true)
def tyX0 : Nat → FieldType := fun k => match k with
  | _ => .object "OddFridays$Numbers"
abbrev wsX00 : List Cond := u_ws RX0 TX0 1
theorem nmX0 : ∀ a, a < 1 → ∀ b, b < 1 → a ≠ b → (TX0 a).2.1 ≠ (TX0 b).2.1 := by decide +kernel
theorem tyX0_ok : ∀ k, k < 1 → parseFieldDescriptor (TX0 k).2.2.1 = some (tyX0 k) := by decide +kernel
abbrev cX0_init : ByteArray := prog_2_method_1_code
def yX0_init : MethodName := ⟨RX0, "<init>", "(LOddFridays$Numbers;)V"⟩
abbrev cX0_lets : ByteArray := prog_2_method_2_code
def yX0_lets : MethodName := ⟨RX0, "lets", "(III)Z"⟩
def RX1 : String := "OddFridays$Friend"
def TX1 : u_T := fun k => match k with
  | _ => ("OddFridays$Plain", "numbers", "LOddFridays$Numbers;", true)
def tyX1 : Nat → FieldType := fun k => match k with
  | _ => .object "OddFridays$Numbers"
abbrev wsX10 : List Cond := u_ws RX1 TX1 1
theorem nmX1 : ∀ a, a < 1 → ∀ b, b < 1 → a ≠ b → (TX1 a).2.1 ≠ (TX1 b).2.1 := by decide +kernel
theorem tyX1_ok : ∀ k, k < 1 → parseFieldDescriptor (TX1 k).2.2.1 = some (tyX1 k) := by decide +kernel
abbrev cX1_init : ByteArray := prog_3_method_1_code
def yX1_init : MethodName := ⟨RX1, "<init>", "(LOddFridays$Numbers;)V"⟩
abbrev cX1_lets : ByteArray := prog_3_method_2_code
def yX1_lets : MethodName := ⟨RX1, "lets", "(III)Z"⟩
def RX2 : String := "OddFridays$Laws"
def TX2 : u_T := fun k => match k with
  | _ => ("OddFridays$Laws", "kinds", "[LOddFridays$Plain;", true)
def tyX2 : Nat → FieldType := fun k => match k with
  | _ => .array (.object "OddFridays$Plain")
abbrev wsX20 : List Cond := u_ws RX2 TX2 1
theorem nmX2 : ∀ a, a < 1 → ∀ b, b < 1 → a ≠ b → (TX2 a).2.1 ≠ (TX2 b).2.1 := by decide +kernel
theorem tyX2_ok : ∀ k, k < 1 → parseFieldDescriptor (TX2 k).2.2.1 = some (tyX2 k) := by decide +kernel
abbrev cX2_init : ByteArray := prog_4_method_1_code
def yX2_init : MethodName := ⟨RX2, "<init>", "(LOddFridays$Numbers;)V"⟩
abbrev cX2_allows : ByteArray := prog_4_method_2_code
def yX2_allows : MethodName := ⟨RX2, "allows", "(III)Z"⟩
abbrev cX2_quarrelling : ByteArray := prog_4_method_3_code
def yX2_quarrelling : MethodName := ⟨RX2, "quarrelling", "(I[I)I"⟩
abbrev cX2_peacefulTenths : ByteArray := prog_4_method_4_code
def yX2_peacefulTenths : MethodName := ⟨RX2, "peacefulTenths", "(I[II)J"⟩
def RX3 : String := "OddFridays$Numbers"
def TX3 : u_T := fun k => match k with
  | 0 => ("OddFridays$Numbers", "parts", "[I", true)
  | _ => ("OddFridays$Numbers", "squares", "[Z", true)
def tyX3 : Nat → FieldType := fun k => match k with
  | 0 => .array .int
  | _ => .array .boolean
abbrev wsX30 : List Cond := u_ws RX3 TX3 2
theorem nmX3 : ∀ a, a < 2 → ∀ b, b < 2 → a ≠ b → (TX3 a).2.1 ≠ (TX3 b).2.1 := by decide +kernel
theorem tyX3_ok : ∀ k, k < 2 → parseFieldDescriptor (TX3 k).2.2.1 = some (tyX3 k) := by decide +kernel
abbrev cX3_init : ByteArray := prog_5_method_1_code
def yX3_init : MethodName := ⟨RX3, "<init>", "()V"⟩
abbrev cX3_partsOf : ByteArray := prog_5_method_2_code
def yX3_partsOf : MethodName := ⟨RX3, "partsOf", "(I)I"⟩
abbrev cX3_addParts : ByteArray := prog_5_method_3_code
def yX3_addParts : MethodName := ⟨RX3, "addParts", "(I)I"⟩
abbrev cX3_isPrime : ByteArray := prog_5_method_4_code
def yX3_isPrime : MethodName := ⟨RX3, "isPrime", "(I)Z"⟩
abbrev cX3_isSquare : ByteArray := prog_5_method_5_code
def yX3_isSquare : MethodName := ⟨RX3, "isSquare", "(I)Z"⟩
abbrev cX3_areFriends : ByteArray := prog_5_method_6_code
def yX3_areFriends : MethodName := ⟨RX3, "areFriends", "(II)Z"⟩
def RX4 : String := "OddFridays$Peace"
def TX4 : u_T := fun k => match k with
  | 0 => ("OddFridays$Peace", "lawBook", "LOddFridays$Laws;", true)
  | 1 => ("OddFridays$Peace", "people", "[I", true)
  | 2 => ("OddFridays$Peace", "homes", "[I", true)
  | 3 => ("OddFridays$Peace", "good", "[I", true)
  | 4 => ("OddFridays$Peace", "table", "[I", true)
  | 5 => ("OddFridays$Peace", "ends", "[I", true)
  | _ => ("OddFridays$Peace", "many", "I", false)
def tyX4 : Nat → FieldType := fun k => match k with
  | 0 => .object "OddFridays$Laws"
  | 1 => .array .int
  | 2 => .array .int
  | 3 => .array .int
  | 4 => .array .int
  | 5 => .array .int
  | _ => .int
abbrev wsX40 : List Cond := u_ws RX4 TX4 7
theorem nmX4 : ∀ a, a < 7 → ∀ b, b < 7 → a ≠ b → (TX4 a).2.1 ≠ (TX4 b).2.1 := by decide +kernel
theorem tyX4_ok : ∀ k, k < 7 → parseFieldDescriptor (TX4 k).2.2.1 = some (tyX4 k) := by decide +kernel
abbrev cX4_init : ByteArray := prog_6_method_1_code
def yX4_init : MethodName := ⟨RX4, "<init>", "(LOddFridays$Laws;)V"⟩
abbrev cX4_bothOf : ByteArray := prog_6_method_2_code
def yX4_bothOf : MethodName := ⟨RX4, "bothOf", "(I)I"⟩
abbrev cX4_fewestAway : ByteArray := prog_6_method_3_code
def yX4_fewestAway : MethodName := ⟨RX4, "fewestAway", "(I)I"⟩
abbrev cX4_settle : ByteArray := prog_6_method_4_code
def yX4_settle : MethodName := ⟨RX4, "settle", "(I[I)V"⟩
abbrev cX4_gather : ByteArray := prog_6_method_5_code
def yX4_gather : MethodName := ⟨RX4, "gather", "([I)V"⟩
abbrev cX4_comers : ByteArray := prog_6_method_6_code
def yX4_comers : MethodName := ⟨RX4, "comers", "(II)I"⟩
abbrev cX4_countOrders : ByteArray := prog_6_method_7_code
def yX4_countOrders : MethodName := ⟨RX4, "countOrders", "()I"⟩
abbrev cX4_sumOver : ByteArray := prog_6_method_8_code
def yX4_sumOver : MethodName := ⟨RX4, "sumOver", "(II)I"⟩
abbrev cX4_inFirstOrder : ByteArray := prog_6_method_9_code
def yX4_inFirstOrder : MethodName := ⟨RX4, "inFirstOrder", "(I)I"⟩
abbrev cX4_firstComer : ByteArray := prog_6_method_10_code
def yX4_firstComer : MethodName := ⟨RX4, "firstComer", "(II)I"⟩
abbrev cX4_leastMoved : ByteArray := prog_6_method_11_code
def yX4_leastMoved : MethodName := ⟨RX4, "leastMoved", "()I"⟩
abbrev cX4_leastOver : ByteArray := prog_6_method_12_code
def yX4_leastOver : MethodName := ⟨RX4, "leastOver", "(II)I"⟩
abbrev cX4_settleApart : ByteArray := prog_6_method_13_code
def yX4_settleApart : MethodName := ⟨RX4, "settleApart", "([I)V"⟩
abbrev cX4_longestRow : ByteArray := prog_6_method_14_code
def yX4_longestRow : MethodName := ⟨RX4, "longestRow", "([I)I"⟩
abbrev cX4_endsOf : ByteArray := prog_6_method_15_code
def yX4_endsOf : MethodName := ⟨RX4, "endsOf", "(I)I"⟩
abbrev cX4_greatestSet : ByteArray := prog_6_method_16_code
def yX4_greatestSet : MethodName := ⟨RX4, "greatestSet", "([I)I"⟩
abbrev cX4_isApart : ByteArray := prog_6_method_17_code
def yX4_isApart : MethodName := ⟨RX4, "isApart", "(I)Z"⟩
abbrev cX4_housesOf : ByteArray := prog_6_method_18_code
def yX4_housesOf : MethodName := ⟨RX4, "housesOf", "(I)I"⟩
def RX5 : String := "OddFridays$Plain"
def TX5 : u_T := fun k => match k with
  | _ => ("OddFridays$Plain", "numbers", "LOddFridays$Numbers;", true)
def tyX5 : Nat → FieldType := fun k => match k with
  | _ => .object "OddFridays$Numbers"
abbrev wsX50 : List Cond := u_ws RX5 TX5 1
theorem nmX5 : ∀ a, a < 1 → ∀ b, b < 1 → a ≠ b → (TX5 a).2.1 ≠ (TX5 b).2.1 := by decide +kernel
theorem tyX5_ok : ∀ k, k < 1 → parseFieldDescriptor (TX5 k).2.2.1 = some (tyX5 k) := by decide +kernel
abbrev cX5_init : ByteArray := prog_7_method_1_code
def yX5_init : MethodName := ⟨RX5, "<init>", "(LOddFridays$Numbers;)V"⟩
abbrev cX5_lets : ByteArray := prog_7_method_2_code
def yX5_lets : MethodName := ⟨RX5, "lets", "(III)Z"⟩
def RX6 : String := "OddFridays$Prime"
def TX6 : u_T := fun k => match k with
  | _ => ("OddFridays$Plain", "numbers", "LOddFridays$Numbers;", true)
def tyX6 : Nat → FieldType := fun k => match k with
  | _ => .object "OddFridays$Numbers"
abbrev wsX60 : List Cond := u_ws RX6 TX6 1
theorem nmX6 : ∀ a, a < 1 → ∀ b, b < 1 → a ≠ b → (TX6 a).2.1 ≠ (TX6 b).2.1 := by decide +kernel
theorem tyX6_ok : ∀ k, k < 1 → parseFieldDescriptor (TX6 k).2.2.1 = some (tyX6 k) := by decide +kernel
abbrev cX6_init : ByteArray := prog_8_method_1_code
def yX6_init : MethodName := ⟨RX6, "<init>", "(LOddFridays$Numbers;)V"⟩
abbrev cX6_lets : ByteArray := prog_8_method_2_code
def yX6_lets : MethodName := ⟨RX6, "lets", "(III)Z"⟩
def RX7 : String := "OddFridays$Reader"
def TX7 : u_T := fun k => match k with
  | 0 => ("OddFridays$Reader", "row", "[I", true)
  | 1 => ("OddFridays$Reader", "length", "I", false)
  | 2 => ("OddFridays$Reader", "law", "I", false)
  | 3 => ("OddFridays$Reader", "items", "I", false)
  | 4 => ("OddFridays$Reader", "fault", "I", false)
  | 5 => ("OddFridays$Reader", "text", "[B", true)
  | 6 => ("OddFridays$Reader", "at", "I", false)
  | 7 => ("OddFridays$Reader", "token", "I", false)
  | 8 => ("OddFridays$Reader", "start", "I", false)
  | _ => ("OddFridays$Reader", "value", "I", false)
def tyX7 : Nat → FieldType := fun k => match k with
  | 0 => .array .int
  | 1 => .int
  | 2 => .int
  | 3 => .int
  | 4 => .int
  | 5 => .array .byte
  | 6 => .int
  | 7 => .int
  | 8 => .int
  | _ => .int
abbrev wsX70 : List Cond := u_ws RX7 TX7 10
theorem nmX7 : ∀ a, a < 10 → ∀ b, b < 10 → a ≠ b → (TX7 a).2.1 ≠ (TX7 b).2.1 := by decide +kernel
theorem tyX7_ok : ∀ k, k < 10 → parseFieldDescriptor (TX7 k).2.2.1 = some (tyX7 k) := by decide +kernel
abbrev cX7_init : ByteArray := prog_9_method_1_code
def yX7_init : MethodName := ⟨RX7, "<init>", "()V"⟩
abbrev cX7_take : ByteArray := prog_9_method_2_code
def yX7_take : MethodName := ⟨RX7, "take", "(I)Z"⟩
abbrev cX7_parse : ByteArray := prog_9_method_3_code
def yX7_parse : MethodName := ⟨RX7, "parse", "()V"⟩
abbrev cX7_parseStreet : ByteArray := prog_9_method_4_code
def yX7_parseStreet : MethodName := ⟨RX7, "parseStreet", "()V"⟩
abbrev cX7_parseHouse : ByteArray := prog_9_method_5_code
def yX7_parseHouse : MethodName := ⟨RX7, "parseHouse", "()V"⟩
abbrev cX7_expectWord : ByteArray := prog_9_method_6_code
def yX7_expectWord : MethodName := ⟨RX7, "expectWord", "(Ljava/lang/String;)V"⟩
abbrev cX7_tokenIs : ByteArray := prog_9_method_7_code
def yX7_tokenIs : MethodName := ⟨RX7, "tokenIs", "(Ljava/lang/String;)Z"⟩
abbrev cX7_expectNumber : ByteArray := prog_9_method_8_code
def yX7_expectNumber : MethodName := ⟨RX7, "expectNumber", "(I)I"⟩
abbrev cX7_expectStop : ByteArray := prog_9_method_9_code
def yX7_expectStop : MethodName := ⟨RX7, "expectStop", "()V"⟩
abbrev cX7_scan : ByteArray := prog_9_method_10_code
def yX7_scan : MethodName := ⟨RX7, "scan", "()V"⟩
abbrev cX7_passWord : ByteArray := prog_9_method_11_code
def yX7_passWord : MethodName := ⟨RX7, "passWord", "()V"⟩
abbrev cX7_passNumber : ByteArray := prog_9_method_12_code
def yX7_passNumber : MethodName := ⟨RX7, "passNumber", "()V"⟩
abbrev cX7_byteAt : ByteArray := prog_9_method_13_code
def yX7_byteAt : MethodName := ⟨RX7, "byteAt", "(I)I"⟩
abbrev cX7_isLetter : ByteArray := prog_9_method_14_code
def yX7_isLetter : MethodName := ⟨RX7, "isLetter", "(I)Z"⟩
abbrev cX7_isFigure : ByteArray := prog_9_method_15_code
def yX7_isFigure : MethodName := ⟨RX7, "isFigure", "(I)Z"⟩
def RX8 : String := "OddFridays$Shy"
def TX8 : u_T := fun k => match k with
  | _ => ("OddFridays$Plain", "numbers", "LOddFridays$Numbers;", true)
def tyX8 : Nat → FieldType := fun k => match k with
  | _ => .object "OddFridays$Numbers"
abbrev wsX80 : List Cond := u_ws RX8 TX8 1
theorem nmX8 : ∀ a, a < 1 → ∀ b, b < 1 → a ≠ b → (TX8 a).2.1 ≠ (TX8 b).2.1 := by decide +kernel
theorem tyX8_ok : ∀ k, k < 1 → parseFieldDescriptor (TX8 k).2.2.1 = some (tyX8 k) := by decide +kernel
abbrev cX8_init : ByteArray := prog_10_method_1_code
def yX8_init : MethodName := ⟨RX8, "<init>", "(LOddFridays$Numbers;)V"⟩
abbrev cX8_lets : ByteArray := prog_10_method_2_code
def yX8_lets : MethodName := ⟨RX8, "lets", "(III)Z"⟩
def RX9 : String := "OddFridays$Square"
def TX9 : u_T := fun k => match k with
  | _ => ("OddFridays$Plain", "numbers", "LOddFridays$Numbers;", true)
def tyX9 : Nat → FieldType := fun k => match k with
  | _ => .object "OddFridays$Numbers"
abbrev wsX90 : List Cond := u_ws RX9 TX9 1
theorem nmX9 : ∀ a, a < 1 → ∀ b, b < 1 → a ≠ b → (TX9 a).2.1 ≠ (TX9 b).2.1 := by decide +kernel
theorem tyX9_ok : ∀ k, k < 1 → parseFieldDescriptor (TX9 k).2.2.1 = some (tyX9 k) := by decide +kernel
abbrev cX9_init : ByteArray := prog_11_method_1_code
def yX9_init : MethodName := ⟨RX9, "<init>", "(LOddFridays$Numbers;)V"⟩
abbrev cX9_lets : ByteArray := prog_11_method_2_code
def yX9_lets : MethodName := ⟨RX9, "lets", "(III)Z"⟩
def RX10 : String := "OddFridays$State"
def TX10 : u_T := fun k => match k with
  | 0 => ("OddFridays$State", "row", "[I", true)
  | 1 => ("OddFridays$State", "law", "I", false)
  | 2 => ("OddFridays$State", "readings", "[I", true)
  | 3 => ("OddFridays$State", "readingCount", "I", false)
  | 4 => ("OddFridays$State", "notes", "[I", true)
  | 5 => ("OddFridays$State", "noteCount", "I", false)
  | 6 => ("OddFridays$State", "pastCount", "I", false)
  | _ => ("OddFridays$State", "past", "[I", true)
def tyX10 : Nat → FieldType := fun k => match k with
  | 0 => .array .int
  | 1 => .int
  | 2 => .array .int
  | 3 => .int
  | 4 => .array .int
  | 5 => .int
  | 6 => .int
  | _ => .array .int
abbrev wsX100 : List Cond := u_ws RX10 TX10 8
theorem nmX10 : ∀ a, a < 8 → ∀ b, b < 8 → a ≠ b → (TX10 a).2.1 ≠ (TX10 b).2.1 := by decide +kernel
theorem tyX10_ok : ∀ k, k < 8 → parseFieldDescriptor (TX10 k).2.2.1 = some (tyX10 k) := by decide +kernel
abbrev cX10_init : ByteArray := prog_12_method_1_code
def yX10_init : MethodName := ⟨RX10, "<init>", "()V"⟩
abbrev cX10_begin : ByteArray := prog_12_method_2_code
def yX10_begin : MethodName := ⟨RX10, "begin", "(I)V"⟩
abbrev cX10_copyFrom : ByteArray := prog_12_method_3_code
def yX10_copyFrom : MethodName := ⟨RX10, "copyFrom", "(LOddFridays$State;)V"⟩
abbrev cX10_living : ByteArray := prog_12_method_4_code
def yX10_living : MethodName := ⟨RX10, "living", "()I"⟩
abbrev cX10_remember : ByteArray := prog_12_method_5_code
def yX10_remember : MethodName := ⟨RX10, "remember", "()V"⟩
abbrev cX10_goBack : ByteArray := prog_12_method_6_code
def yX10_goBack : MethodName := ⟨RX10, "goBack", "()Z"⟩
abbrev cX10_addReading : ByteArray := prog_12_method_7_code
def yX10_addReading : MethodName := ⟨RX10, "addReading", "(II)V"⟩
abbrev cX10_addNote : ByteArray := prog_12_method_8_code
def yX10_addNote : MethodName := ⟨RX10, "addNote", "(III)V"⟩
abbrev cX10_addThree : ByteArray := prog_12_method_9_code
def yX10_addThree : MethodName := ⟨RX10, "addThree", "([IIIII)V"⟩
def RX11 : String := "OddFridays"
def TX11 : u_T := fun k => match k with
  | 0 => ("OddFridays", "numbers", "LOddFridays$Numbers;", true)
  | 1 => ("OddFridays", "lawBook", "LOddFridays$Laws;", true)
  | 2 => ("OddFridays", "peace", "LOddFridays$Peace;", true)
  | 3 => ("OddFridays", "reader", "LOddFridays$Reader;", true)
  | 4 => ("OddFridays", "now", "LOddFridays$State;", true)
  | 5 => ("OddFridays", "images", "[LOddFridays$State;", true)
  | 6 => ("OddFridays", "imageKept", "[Z", true)
  | 7 => ("OddFridays", "trial", "[I", true)
  | 8 => ("OddFridays", "fits", "[I", true)
  | 9 => ("OddFridays", "links", "[I", true)
  | 10 => ("OddFridays", "linkCount", "I", false)
  | 11 => ("OddFridays", "above", "J", false)
  | 12 => ("OddFridays", "below", "J", false)
  | 13 => ("OddFridays", "bads", "I", false)
  | 14 => ("OddFridays", "noes", "I", false)
  | _ => ("OddFridays", "fulls", "I", false)
def tyX11 : Nat → FieldType := fun k => match k with
  | 0 => .object "OddFridays$Numbers"
  | 1 => .object "OddFridays$Laws"
  | 2 => .object "OddFridays$Peace"
  | 3 => .object "OddFridays$Reader"
  | 4 => .object "OddFridays$State"
  | 5 => .array (.object "OddFridays$State")
  | 6 => .array .boolean
  | 7 => .array .int
  | 8 => .array .int
  | 9 => .array .int
  | 10 => .int
  | 11 => .long
  | 12 => .long
  | 13 => .int
  | 14 => .int
  | _ => .int
abbrev wsX110 : List Cond := u_ws RX11 TX11 16
theorem nmX11 : ∀ a, a < 16 → ∀ b, b < 16 → a ≠ b → (TX11 a).2.1 ≠ (TX11 b).2.1 := by decide +kernel
theorem tyX11_ok : ∀ k, k < 16 → parseFieldDescriptor (TX11 k).2.2.1 = some (tyX11 k) := by decide +kernel
abbrev cX11_init : ByteArray := prog_1_method_1_code
def yX11_init : MethodName := ⟨RX11, "<init>", "()V"⟩
abbrev cX11_street : ByteArray := prog_1_method_2_code
def yX11_street : MethodName := ⟨RX11, "street", "(II)I"⟩
abbrev cX11_rule : ByteArray := prog_1_method_3_code
def yX11_rule : MethodName := ⟨RX11, "rule", "(II)I"⟩
abbrev cX11_house : ByteArray := prog_1_method_4_code
def yX11_house : MethodName := ⟨RX11, "house", "(II)I"⟩
abbrev cX11_birthday : ByteArray := prog_1_method_5_code
def yX11_birthday : MethodName := ⟨RX11, "birthday", "(I)I"⟩
abbrev cX11_swap : ByteArray := prog_1_method_6_code
def yX11_swap : MethodName := ⟨RX11, "swap", "(II)I"⟩
abbrev cX11_undo : ByteArray := prog_1_method_7_code
def yX11_undo : MethodName := ⟨RX11, "undo", "()I"⟩
abbrev cX11_type : ByteArray := prog_1_method_8_code
def yX11_type : MethodName := ⟨RX11, "type", "(I)I"⟩
abbrev cX11_clear : ByteArray := prog_1_method_9_code
def yX11_clear : MethodName := ⟨RX11, "clear", "()I"⟩
abbrev cX11_read : ByteArray := prog_1_method_10_code
def yX11_read : MethodName := ⟨RX11, "read", "()I"⟩
abbrev cX11_of : ByteArray := prog_1_method_11_code
def yX11_of : MethodName := ⟨RX11, "of", "(II)I"⟩
abbrev cX11_may : ByteArray := prog_1_method_12_code
def yX11_may : MethodName := ⟨RX11, "may", "(II)I"⟩
abbrev cX11_quarrels : ByteArray := prog_1_method_13_code
def yX11_quarrels : MethodName := ⟨RX11, "quarrels", "(I)I"⟩
abbrev cX11_away : ByteArray := prog_1_method_14_code
def yX11_away : MethodName := ⟨RX11, "away", "()I"⟩
abbrev cX11_orders : ByteArray := prog_1_method_15_code
def yX11_orders : MethodName := ⟨RX11, "orders", "(I)I"⟩
abbrev cX11_moved : ByteArray := prog_1_method_16_code
def yX11_moved : MethodName := ⟨RX11, "moved", "()I"⟩
abbrev cX11_longest : ByteArray := prog_1_method_17_code
def yX11_longest : MethodName := ⟨RX11, "longest", "()I"⟩
abbrev cX11_greatest : ByteArray := prog_1_method_18_code
def yX11_greatest : MethodName := ⟨RX11, "greatest", "(I)I"⟩
abbrev cX11_chain : ByteArray := prog_1_method_19_code
def yX11_chain : MethodName := ⟨RX11, "chain", "(II)I"⟩
abbrev cX11_meet : ByteArray := prog_1_method_20_code
def yX11_meet : MethodName := ⟨RX11, "meet", "()I"⟩
abbrev cX11_next : ByteArray := prog_1_method_21_code
def yX11_next : MethodName := ⟨RX11, "next", "(I)I"⟩
abbrev cX11_reading : ByteArray := prog_1_method_22_code
def yX11_reading : MethodName := ⟨RX11, "reading", "(II)I"⟩
abbrev cX11_who : ByteArray := prog_1_method_23_code
def yX11_who : MethodName := ⟨RX11, "who", "(I)I"⟩
abbrev cX11_tryNext : ByteArray := prog_1_method_24_code
def yX11_tryNext : MethodName := ⟨RX11, "tryNext", "()I"⟩
abbrev cX11_note : ByteArray := prog_1_method_25_code
def yX11_note : MethodName := ⟨RX11, "note", "(III)I"⟩
abbrev cX11_laws : ByteArray := prog_1_method_26_code
def yX11_laws : MethodName := ⟨RX11, "laws", "(I)I"⟩
abbrev cX11_forget : ByteArray := prog_1_method_27_code
def yX11_forget : MethodName := ⟨RX11, "forget", "(I)I"⟩
abbrev cX11_split : ByteArray := prog_1_method_28_code
def yX11_split : MethodName := ⟨RX11, "split", "(I)I"⟩
abbrev cX11_odds : ByteArray := prog_1_method_29_code
def yX11_odds : MethodName := ⟨RX11, "odds", "(I)I"⟩
abbrev cX11_streets : ByteArray := prog_1_method_30_code
def yX11_streets : MethodName := ⟨RX11, "streets", "(II)I"⟩
abbrev cX11_part : ByteArray := prog_1_method_31_code
def yX11_part : MethodName := ⟨RX11, "part", "(I)J"⟩
abbrev cX11_image : ByteArray := prog_1_method_32_code
def yX11_image : MethodName := ⟨RX11, "image", "(I)I"⟩
abbrev cX11_from : ByteArray := prog_1_method_33_code
def yX11_from : MethodName := ⟨RX11, "from", "(I)I"⟩
abbrev cX11_status : ByteArray := prog_1_method_34_code
def yX11_status : MethodName := ⟨RX11, "status", "(I)I"⟩
abbrev cX11_count : ByteArray := prog_1_method_35_code
def yX11_count : MethodName := ⟨RX11, "count", "(I)I"⟩
abbrev cX11_digest : ByteArray := prog_1_method_36_code
def yX11_digest : MethodName := ⟨RX11, "digest", "()J"⟩
abbrev cX11_refuseBad : ByteArray := prog_1_method_37_code
def yX11_refuseBad : MethodName := ⟨RX11, "refuseBad", "()I"⟩
abbrev cX11_refuseBadApart : ByteArray := prog_1_method_38_code
def yX11_refuseBadApart : MethodName := ⟨RX11, "refuseBadApart", "()I"⟩
abbrev cX11_refuseNo : ByteArray := prog_1_method_39_code
def yX11_refuseNo : MethodName := ⟨RX11, "refuseNo", "()I"⟩
abbrev cX11_refuseFull : ByteArray := prog_1_method_40_code
def yX11_refuseFull : MethodName := ⟨RX11, "refuseFull", "()I"⟩
abbrev cX11_isLaw : ByteArray := prog_1_method_41_code
def yX11_isLaw : MethodName := ⟨RX11, "isLaw", "(II)Z"⟩
abbrev cX11_isHouse : ByteArray := prog_1_method_42_code
def yX11_isHouse : MethodName := ⟨RX11, "isHouse", "(I)Z"⟩
abbrev cX11_isNumber : ByteArray := prog_1_method_43_code
def yX11_isNumber : MethodName := ⟨RX11, "isNumber", "(I)Z"⟩
abbrev cX11_isBit : ByteArray := prog_1_method_44_code
def yX11_isBit : MethodName := ⟨RX11, "isBit", "(I)Z"⟩
abbrev cX11_bit : ByteArray := prog_1_method_45_code
def yX11_bit : MethodName := ⟨RX11, "bit", "(Z)I"⟩
abbrev cX11_followChain : ByteArray := prog_1_method_46_code
def yX11_followChain : MethodName := ⟨RX11, "followChain", "(I)I"⟩
abbrev cX11_isLink : ByteArray := prog_1_method_47_code
def yX11_isLink : MethodName := ⟨RX11, "isLink", "(I)Z"⟩
abbrev cX11_firstShared : ByteArray := prog_1_method_48_code
def yX11_firstShared : MethodName := ⟨RX11, "firstShared", "(IIII)I"⟩
abbrev cX11_isThere : ByteArray := prog_1_method_49_code
def yX11_isThere : MethodName := ⟨RX11, "isThere", "(III)Z"⟩
abbrev cX11_sharedStep : ByteArray := prog_1_method_50_code
def yX11_sharedStep : MethodName := ⟨RX11, "sharedStep", "(II)I"⟩
abbrev cX11_waitFrom : ByteArray := prog_1_method_51_code
def yX11_waitFrom : MethodName := ⟨RX11, "waitFrom", "(III)I"⟩
abbrev cX11_commonDivisor : ByteArray := prog_1_method_52_code
def yX11_commonDivisor : MethodName := ⟨RX11, "commonDivisor", "(JJ)J"⟩
abbrev cX11_gatherFits : ByteArray := prog_1_method_53_code
def yX11_gatherFits : MethodName := ⟨RX11, "gatherFits", "()I"⟩
abbrev cX11_agreesWithReadings : ByteArray := prog_1_method_54_code
def yX11_agreesWithReadings : MethodName := ⟨RX11, "agreesWithReadings", "(I)Z"⟩
abbrev cX11_greaterPart : ByteArray := prog_1_method_55_code
def yX11_greaterPart : MethodName := ⟨RX11, "greaterPart", "(III)I"⟩
abbrev cX11_agreesWithNotes : ByteArray := prog_1_method_56_code
def yX11_agreesWithNotes : MethodName := ⟨RX11, "agreesWithNotes", "(I)Z"⟩
abbrev cX11_emptyBehind : ByteArray := prog_1_method_57_code
def yX11_emptyBehind : MethodName := ⟨RX11, "emptyBehind", "(I)I"⟩
abbrev cX11_fillTrial : ByteArray := prog_1_method_58_code
def yX11_fillTrial : MethodName := ⟨RX11, "fillTrial", "(J)J"⟩
abbrev cX11_imageAt : ByteArray := prog_1_method_59_code
def yX11_imageAt : MethodName := ⟨RX11, "imageAt", "(I)LOddFridays$State;"⟩
abbrev cX11_tally : ByteArray := prog_1_method_60_code
def yX11_tally : MethodName := ⟨RX11, "tally", "(I)I"⟩
abbrev cX11_fold : ByteArray := prog_1_method_61_code
def yX11_fold : MethodName := ⟨RX11, "fold", "(J[II)J"⟩
def RX12 : String := "OddFridaysModel"
def TX12 : u_T := fun k => match k with
  | 0 => ("OddFridaysModel", "now", "[I", true)
  | 1 => ("OddFridaysModel", "kept", "[I", true)
  | 2 => ("OddFridaysModel", "isKept", "[Z", true)
  | 3 => ("OddFridaysModel", "refused", "[I", true)
  | 4 => ("OddFridaysModel", "parts", "[I", true)
  | 5 => ("OddFridaysModel", "above", "J", false)
  | 6 => ("OddFridaysModel", "below", "J", false)
  | 7 => ("OddFridaysModel", "live", "[I", true)
  | 8 => ("OddFridaysModel", "comes", "[I", true)
  | 9 => ("OddFridaysModel", "firstLive", "[I", true)
  | 10 => ("OddFridaysModel", "manyOrders", "I", false)
  | 11 => ("OddFridaysModel", "leastMoved", "I", false)
  | 12 => ("OddFridaysModel", "lasts", "[I", true)
  | 13 => ("OddFridaysModel", "links", "[I", true)
  | 14 => ("OddFridaysModel", "can", "[Z", true)
  | 15 => ("OddFridaysModel", "manyCan", "I", false)
  | 16 => ("OddFridaysModel", "leastCan", "I", false)
  | 17 => ("OddFridaysModel", "bytes", "[I", true)
  | 18 => ("OddFridaysModel", "bytesLong", "I", false)
  | 19 => ("OddFridaysModel", "tokenAt", "I", false)
  | 20 => ("OddFridaysModel", "tokenLong", "I", false)
  | 21 => ("OddFridaysModel", "token", "I", false)
  | 22 => ("OddFridaysModel", "value", "I", false)
  | 23 => ("OddFridaysModel", "anew", "[I", true)
  | _ => ("OddFridaysModel", "values", "[I", true)
def tyX12 : Nat → FieldType := fun k => match k with
  | 0 => .array .int
  | 1 => .array .int
  | 2 => .array .boolean
  | 3 => .array .int
  | 4 => .array .int
  | 5 => .long
  | 6 => .long
  | 7 => .array .int
  | 8 => .array .int
  | 9 => .array .int
  | 10 => .int
  | 11 => .int
  | 12 => .array .int
  | 13 => .array .int
  | 14 => .array .boolean
  | 15 => .int
  | 16 => .int
  | 17 => .array .int
  | 18 => .int
  | 19 => .int
  | 20 => .int
  | 21 => .int
  | 22 => .int
  | 23 => .array .int
  | _ => .array .int
abbrev wsX120 : List Cond := u_ws RX12 TX12 25
theorem nmX12 : ∀ a, a < 25 → ∀ b, b < 25 → a ≠ b → (TX12 a).2.1 ≠ (TX12 b).2.1 := by decide +kernel
theorem tyX12_ok : ∀ k, k < 25 → parseFieldDescriptor (TX12 k).2.2.1 = some (tyX12 k) := by decide +kernel
abbrev cX12_init : ByteArray := prog_14_method_1_code
def yX12_init : MethodName := ⟨RX12, "<init>", "()V"⟩
abbrev cX12_in : ByteArray := prog_14_method_3_code
def yX12_in : MethodName := ⟨RX12, "in", "(JJJ)Z"⟩
abbrev cX12_bad : ByteArray := prog_14_method_4_code
def yX12_bad : MethodName := ⟨RX12, "bad", "(I)I"⟩
abbrev cX12_no : ByteArray := prog_14_method_5_code
def yX12_no : MethodName := ⟨RX12, "no", "()I"⟩
abbrev cX12_full : ByteArray := prog_14_method_6_code
def yX12_full : MethodName := ⟨RX12, "full", "()I"⟩
abbrev cX12_bits : ByteArray := prog_14_method_7_code
def yX12_bits : MethodName := ⟨RX12, "bits", "(I)I"⟩
abbrev cX12_isHouse : ByteArray := prog_14_method_8_code
def yX12_isHouse : MethodName := ⟨RX12, "isHouse", "(I)Z"⟩
abbrev cX12_isNumber : ByteArray := prog_14_method_9_code
def yX12_isNumber : MethodName := ⟨RX12, "isNumber", "(I)Z"⟩
abbrev cX12_isLaw : ByteArray := prog_14_method_10_code
def yX12_isLaw : MethodName := ⟨RX12, "isLaw", "(II)Z"⟩
abbrev cX12_divides : ByteArray := prog_14_method_11_code
def yX12_divides : MethodName := ⟨RX12, "divides", "(II)Z"⟩
abbrev cX12_isSquare : ByteArray := prog_14_method_12_code
def yX12_isSquare : MethodName := ⟨RX12, "isSquare", "(I)Z"⟩
abbrev cX12_isPrime : ByteArray := prog_14_method_13_code
def yX12_isPrime : MethodName := ⟨RX12, "isPrime", "(I)Z"⟩
abbrev cX12_mayBy : ByteArray := prog_14_method_14_code
def yX12_mayBy : MethodName := ⟨RX12, "mayBy", "(IIII)Z"⟩
abbrev cX12_mayNow : ByteArray := prog_14_method_15_code
def yX12_mayNow : MethodName := ⟨RX12, "mayNow", "(II)Z"⟩
abbrev cX12_begin : ByteArray := prog_14_method_16_code
def yX12_begin : MethodName := ⟨RX12, "begin", "([III)V"⟩
abbrev cX12_lived : ByteArray := prog_14_method_17_code
def yX12_lived : MethodName := ⟨RX12, "lived", "()I"⟩
abbrev cX12_law : ByteArray := prog_14_method_18_code
def yX12_law : MethodName := ⟨RX12, "law", "()I"⟩
abbrev cX12_keep : ByteArray := prog_14_method_19_code
def yX12_keep : MethodName := ⟨RX12, "keep", "()V"⟩
abbrev cX12_street : ByteArray := prog_14_method_20_code
def yX12_street : MethodName := ⟨RX12, "street", "(II)I"⟩
abbrev cX12_rule : ByteArray := prog_14_method_21_code
def yX12_rule : MethodName := ⟨RX12, "rule", "(II)I"⟩
abbrev cX12_house : ByteArray := prog_14_method_22_code
def yX12_house : MethodName := ⟨RX12, "house", "(II)I"⟩
abbrev cX12_birthday : ByteArray := prog_14_method_23_code
def yX12_birthday : MethodName := ⟨RX12, "birthday", "(I)I"⟩
abbrev cX12_swap : ByteArray := prog_14_method_24_code
def yX12_swap : MethodName := ⟨RX12, "swap", "(II)I"⟩
abbrev cX12_undo : ByteArray := prog_14_method_25_code
def yX12_undo : MethodName := ⟨RX12, "undo", "()I"⟩
abbrev cX12_layHand : ByteArray := prog_14_method_26_code
def yX12_layHand : MethodName := ⟨RX12, "layHand", "()V"⟩
abbrev cX12_isPair : ByteArray := prog_14_method_27_code
def yX12_isPair : MethodName := ⟨RX12, "isPair", "(I)Z"⟩
abbrev cX12_isQuarrel : ByteArray := prog_14_method_28_code
def yX12_isQuarrel : MethodName := ⟨RX12, "isQuarrel", "(I)Z"⟩
abbrev cX12_manyQuarrels : ByteArray := prog_14_method_29_code
def yX12_manyQuarrels : MethodName := ⟨RX12, "manyQuarrels", "()I"⟩
abbrev cX12_quarrelsIn : ByteArray := prog_14_method_30_code
def yX12_quarrelsIn : MethodName := ⟨RX12, "quarrelsIn", "(I)Z"⟩
abbrev cX12_of : ByteArray := prog_14_method_31_code
def yX12_of : MethodName := ⟨RX12, "of", "(II)I"⟩
abbrev cX12_may : ByteArray := prog_14_method_32_code
def yX12_may : MethodName := ⟨RX12, "may", "(II)I"⟩
abbrev cX12_quarrels : ByteArray := prog_14_method_33_code
def yX12_quarrels : MethodName := ⟨RX12, "quarrels", "(I)I"⟩
abbrev cX12_away : ByteArray := prog_14_method_34_code
def yX12_away : MethodName := ⟨RX12, "away", "()I"⟩
abbrev cX12_nextLived : ByteArray := prog_14_method_35_code
def yX12_nextLived : MethodName := ⟨RX12, "nextLived", "(I)I"⟩
abbrev cX12_lastLived : ByteArray := prog_14_method_36_code
def yX12_lastLived : MethodName := ⟨RX12, "lastLived", "(I)I"⟩
abbrev cX12_isTaken : ByteArray := prog_14_method_37_code
def yX12_isTaken : MethodName := ⟨RX12, "isTaken", "(II)Z"⟩
abbrev cX12_nextComer : ByteArray := prog_14_method_38_code
def yX12_nextComer : MethodName := ⟨RX12, "nextComer", "(II)I"⟩
abbrev cX12_judgeOrder : ByteArray := prog_14_method_39_code
def yX12_judgeOrder : MethodName := ⟨RX12, "judgeOrder", "()V"⟩
abbrev cX12_layOrders : ByteArray := prog_14_method_40_code
def yX12_layOrders : MethodName := ⟨RX12, "layOrders", "()V"⟩
abbrev cX12_orders : ByteArray := prog_14_method_41_code
def yX12_orders : MethodName := ⟨RX12, "orders", "(I)I"⟩
abbrev cX12_moved : ByteArray := prog_14_method_42_code
def yX12_moved : MethodName := ⟨RX12, "moved", "()I"⟩
abbrev cX12_areApart : ByteArray := prog_14_method_43_code
def yX12_areApart : MethodName := ⟨RX12, "areApart", "(II)Z"⟩
abbrev cX12_lastsOf : ByteArray := prog_14_method_44_code
def yX12_lastsOf : MethodName := ⟨RX12, "lastsOf", "(I)I"⟩
abbrev cX12_longest : ByteArray := prog_14_method_45_code
def yX12_longest : MethodName := ⟨RX12, "longest", "()I"⟩
abbrev cX12_areAllApart : ByteArray := prog_14_method_46_code
def yX12_areAllApart : MethodName := ⟨RX12, "areAllApart", "(I)Z"⟩
abbrev cX12_greatest : ByteArray := prog_14_method_47_code
def yX12_greatest : MethodName := ⟨RX12, "greatest", "(I)I"⟩
abbrev cX12_partsOf : ByteArray := prog_14_method_48_code
def yX12_partsOf : MethodName := ⟨RX12, "partsOf", "(I)I"⟩
abbrev cX12_chain : ByteArray := prog_14_method_49_code
def yX12_chain : MethodName := ⟨RX12, "chain", "(II)I"⟩
abbrev cX12_daysTill : ByteArray := prog_14_method_50_code
def yX12_daysTill : MethodName := ⟨RX12, "daysTill", "(II)I"⟩
abbrev cX12_meet : ByteArray := prog_14_method_51_code
def yX12_meet : MethodName := ⟨RX12, "meet", "()I"⟩
abbrev cX12_next : ByteArray := prog_14_method_52_code
def yX12_next : MethodName := ⟨RX12, "next", "(I)I"⟩
abbrev cX12_reading : ByteArray := prog_14_method_53_code
def yX12_reading : MethodName := ⟨RX12, "reading", "(II)I"⟩
abbrev cX12_canBe : ByteArray := prog_14_method_54_code
def yX12_canBe : MethodName := ⟨RX12, "canBe", "(I)Z"⟩
abbrev cX12_layCan : ByteArray := prog_14_method_55_code
def yX12_layCan : MethodName := ⟨RX12, "layCan", "()V"⟩
abbrev cX12_who : ByteArray := prog_14_method_56_code
def yX12_who : MethodName := ⟨RX12, "who", "(I)I"⟩
abbrev cX12_greaterPart : ByteArray := prog_14_method_57_code
def yX12_greaterPart : MethodName := ⟨RX12, "greaterPart", "(I)I"⟩
abbrev cX12_tryNext : ByteArray := prog_14_method_58_code
def yX12_tryNext : MethodName := ⟨RX12, "tryNext", "()I"⟩
abbrev cX12_note : ByteArray := prog_14_method_59_code
def yX12_note : MethodName := ⟨RX12, "note", "(III)I"⟩
abbrev cX12_isLawSo : ByteArray := prog_14_method_60_code
def yX12_isLawSo : MethodName := ⟨RX12, "isLawSo", "(I)Z"⟩
abbrev cX12_laws : ByteArray := prog_14_method_61_code
def yX12_laws : MethodName := ⟨RX12, "laws", "(I)I"⟩
abbrev cX12_forget : ByteArray := prog_14_method_62_code
def yX12_forget : MethodName := ⟨RX12, "forget", "(I)I"⟩
abbrev cX12_split : ByteArray := prog_14_method_63_code
def yX12_split : MethodName := ⟨RX12, "split", "(I)I"⟩
abbrev cX12_fraction : ByteArray := prog_14_method_64_code
def yX12_fraction : MethodName := ⟨RX12, "fraction", "(JJ)V"⟩
abbrev cX12_odds : ByteArray := prog_14_method_65_code
def yX12_odds : MethodName := ⟨RX12, "odds", "(I)I"⟩
abbrev cX12_streets : ByteArray := prog_14_method_66_code
def yX12_streets : MethodName := ⟨RX12, "streets", "(II)I"⟩
abbrev cX12_type : ByteArray := prog_14_method_67_code
def yX12_type : MethodName := ⟨RX12, "type", "(I)I"⟩
abbrev cX12_clear : ByteArray := prog_14_method_68_code
def yX12_clear : MethodName := ⟨RX12, "clear", "()I"⟩
abbrev cX12_isSmall : ByteArray := prog_14_method_69_code
def yX12_isSmall : MethodName := ⟨RX12, "isSmall", "(I)Z"⟩
abbrev cX12_isFigure : ByteArray := prog_14_method_70_code
def yX12_isFigure : MethodName := ⟨RX12, "isFigure", "(I)Z"⟩
abbrev cX12_lookAt : ByteArray := prog_14_method_71_code
def yX12_lookAt : MethodName := ⟨RX12, "lookAt", "(I)V"⟩
abbrev cX12_goBehind : ByteArray := prog_14_method_72_code
def yX12_goBehind : MethodName := ⟨RX12, "goBehind", "()V"⟩
abbrev cX12_isWord : ByteArray := prog_14_method_73_code
def yX12_isWord : MethodName := ⟨RX12, "isWord", "(IIIIIII)Z"⟩
abbrev cX12_takes : ByteArray := prog_14_method_74_code
def yX12_takes : MethodName := ⟨RX12, "takes", "(III)Z"⟩
abbrev cX12_takesFirst : ByteArray := prog_14_method_75_code
def yX12_takesFirst : MethodName := ⟨RX12, "takesFirst", "()Z"⟩
abbrev cX12_takesHouse : ByteArray := prog_14_method_76_code
def yX12_takesHouse : MethodName := ⟨RX12, "takesHouse", "()Z"⟩
abbrev cX12_read : ByteArray := prog_14_method_77_code
def yX12_read : MethodName := ⟨RX12, "read", "()I"⟩
abbrev cX12_part : ByteArray := prog_14_method_78_code
def yX12_part : MethodName := ⟨RX12, "part", "(I)J"⟩
abbrev cX12_image : ByteArray := prog_14_method_79_code
def yX12_image : MethodName := ⟨RX12, "image", "(I)I"⟩
abbrev cX12_from : ByteArray := prog_14_method_80_code
def yX12_from : MethodName := ⟨RX12, "from", "(I)I"⟩
abbrev cX12_status : ByteArray := prog_14_method_81_code
def yX12_status : MethodName := ⟨RX12, "status", "(I)I"⟩
abbrev cX12_counted : ByteArray := prog_14_method_82_code
def yX12_counted : MethodName := ⟨RX12, "counted", "(I)I"⟩
abbrev cX12_count : ByteArray := prog_14_method_83_code
def yX12_count : MethodName := ⟨RX12, "count", "(I)I"⟩
abbrev cX12_digest : ByteArray := prog_14_method_84_code
def yX12_digest : MethodName := ⟨RX12, "digest", "()J"⟩
def RJ6 : String := "java/lang/Integer"
abbrev cJ6_bitCount_0f7a4 : ByteArray := prog_15_method_49_code
def yJ6_bitCount_0f7a4 : MethodName := ⟨RJ6, "bitCount", "(I)I"⟩
def RJ9 : String := "java/lang/Math"
abbrev cJ9_abs_0f7a4 : ByteArray := prog_16_method_59_code
def yJ9_abs_0f7a4 : MethodName := ⟨RJ9, "abs", "(I)I"⟩
abbrev cJ9_max_7cf53 : ByteArray := prog_16_method_65_code
def yJ9_max_7cf53 : MethodName := ⟨RJ9, "max", "(II)I"⟩
abbrev cJ9_min_7cf53 : ByteArray := prog_16_method_69_code
def yJ9_min_7cf53 : MethodName := ⟨RJ9, "min", "(II)I"⟩
abbrev cJ9_min_f86c9 : ByteArray := prog_16_method_70_code
def yJ9_min_f86c9 : MethodName := ⟨RJ9, "min", "(JJ)J"⟩
def RJ0 : String := "java/lang/String"
abbrev cJ0_length_8abf5 : ByteArray := prog_17_method_54_code
def yJ0_length_8abf5 : MethodName := ⟨RJ0, "length", "()I"⟩
abbrev cJ0_charAt_5068e : ByteArray := prog_17_method_56_code
def yJ0_charAt_5068e : MethodName := ⟨RJ0, "charAt", "(I)C"⟩
abbrev cJ0_coder_7d493 : ByteArray := prog_17_method_152_code
def yJ0_coder_7d493 : MethodName := ⟨RJ0, "coder", "()B"⟩
abbrev cJ0_isLatin1_aae02 : ByteArray := prog_17_method_154_code
def yJ0_isLatin1_aae02 : MethodName := ⟨RJ0, "isLatin1", "()Z"⟩
abbrev cJ0_checkIndex_df160 : ByteArray := prog_17_method_155_code
def yJ0_checkIndex_df160 : MethodName := ⟨RJ0, "checkIndex", "(II)V"⟩
def RJ1 : String := "java/lang/StringLatin1"
abbrev cJ1_charAt_3b067 : ByteArray := prog_18_method_2_code
def yJ1_charAt_3b067 : MethodName := ⟨RJ1, "charAt", "([BI)C"⟩
def RJ2 : String := "java/lang/StringUTF16"
abbrev cJ2_getChar_3b067 : ByteArray := prog_19_method_5_code
def yJ2_getChar_3b067 : MethodName := ⟨RJ2, "getChar", "([BI)C"⟩
abbrev cJ2_length_9d52b : ByteArray := prog_19_method_6_code
def yJ2_length_9d52b : MethodName := ⟨RJ2, "length", "([B)I"⟩
abbrev cJ2_charAt_3b067 : ByteArray := prog_19_method_83_code
def yJ2_charAt_3b067 : MethodName := ⟨RJ2, "charAt", "([BI)C"⟩
abbrev cJ2_checkIndex_2214a : ByteArray := prog_19_method_91_code
def yJ2_checkIndex_2214a : MethodName := ⟨RJ2, "checkIndex", "(I[B)V"⟩
def RJ10 : String := "java/lang/System"
def RJ3 : String := "jdk/internal/util/Preconditions"
abbrev cJ3_checkIndex_8e157 : ByteArray := prog_21_method_11_code
def yJ3_checkIndex_8e157 : MethodName := ⟨RJ3, "checkIndex", "(IILjava/util/function/BiFunction;)I"⟩
def RL : String := "OddFridaysLaw"
abbrev cL_law : ByteArray := code
def yL_law : MethodName := ⟨RL, "law", "([I)Z"⟩
abbrev vwCl : List vw_C := [(RX0, TX0, 1), (RX1, TX1, 1), (RX2, TX2, 1), (RX3, TX3, 2), (RX4, TX4, 7), (RX5, TX5, 1), (RX6, TX6, 1), (RX7, TX7, 10), (RX8, TX8, 1), (RX9, TX9, 1), (RX10, TX10, 8), (RX11, TX11, 16), (RX12, TX12, 25)]
end
section
theorem dX0_init_0 : decode cX0_init 0 = .ok (.aload_n 0, 1) := by decide +kernel
theorem dX0_init_1 : decode cX0_init 1 = .ok (.aload_n 1, 1) := by decide +kernel
theorem dX0_init_2 : decode cX0_init 2 = .ok (.invokespecial 1, 3) := by decide +kernel
theorem dX0_init_5 : decode cX0_init 5 = .ok (.return_, 1) := by decide +kernel
theorem dX0_lets_0 : decode cX0_lets 0 = .ok (.iload_n 1, 1) := by decide +kernel
theorem dX0_lets_1 : decode cX0_lets 1 = .ok (.iload_n 2, 1) := by decide +kernel
theorem dX0_lets_2 : decode cX0_lets 2 = .ok (.iadd, 1) := by decide +kernel
theorem dX0_lets_3 : decode cX0_lets 3 = .ok (.iconst 2, 1) := by decide +kernel
theorem dX0_lets_4 : decode cX0_lets 4 = .ok (.irem, 1) := by decide +kernel
theorem dX0_lets_5 : decode cX0_lets 5 = .ok (.ifCond .ne 17, 3) := by decide +kernel
theorem dX0_lets_8 : decode cX0_lets 8 = .ok (.aload_n 0, 1) := by decide +kernel
theorem dX0_lets_9 : decode cX0_lets 9 = .ok (.iload_n 1, 1) := by decide +kernel
theorem dX0_lets_10 : decode cX0_lets 10 = .ok (.iload_n 2, 1) := by decide +kernel
theorem dX0_lets_11 : decode cX0_lets 11 = .ok (.iload_n 3, 1) := by decide +kernel
theorem dX0_lets_12 : decode cX0_lets 12 = .ok (.invokespecial 7, 3) := by decide +kernel
theorem dX0_lets_15 : decode cX0_lets 15 = .ok (.ifCond .eq 7, 3) := by decide +kernel
theorem dX0_lets_18 : decode cX0_lets 18 = .ok (.iconst 1, 1) := by decide +kernel
theorem dX0_lets_19 : decode cX0_lets 19 = .ok (.goto 4, 3) := by decide +kernel
theorem dX0_lets_22 : decode cX0_lets 22 = .ok (.iconst 0, 1) := by decide +kernel
theorem dX0_lets_23 : decode cX0_lets 23 = .ok (.ireturn, 1) := by decide +kernel
theorem dX1_init_0 : decode cX1_init 0 = .ok (.aload_n 0, 1) := by decide +kernel
theorem dX1_init_1 : decode cX1_init 1 = .ok (.aload_n 1, 1) := by decide +kernel
theorem dX1_init_2 : decode cX1_init 2 = .ok (.invokespecial 1, 3) := by decide +kernel
theorem dX1_init_5 : decode cX1_init 5 = .ok (.return_, 1) := by decide +kernel
theorem dX1_lets_0 : decode cX1_lets 0 = .ok (.aload_n 0, 1) := by decide +kernel
theorem dX1_lets_1 : decode cX1_lets 1 = .ok (.iload_n 1, 1) := by decide +kernel
theorem dX1_lets_2 : decode cX1_lets 2 = .ok (.iload_n 2, 1) := by decide +kernel
theorem dX1_lets_3 : decode cX1_lets 3 = .ok (.iload_n 3, 1) := by decide +kernel
theorem dX1_lets_4 : decode cX1_lets 4 = .ok (.invokespecial 7, 3) := by decide +kernel
theorem dX1_lets_7 : decode cX1_lets 7 = .ok (.ifCond .ne 15, 3) := by decide +kernel
theorem dX1_lets_10 : decode cX1_lets 10 = .ok (.aload_n 0, 1) := by decide +kernel
theorem dX1_lets_11 : decode cX1_lets 11 = .ok (.getfield 11, 3) := by decide +kernel
theorem dX1_lets_14 : decode cX1_lets 14 = .ok (.iload_n 1, 1) := by decide +kernel
theorem dX1_lets_15 : decode cX1_lets 15 = .ok (.iload_n 2, 1) := by decide +kernel
theorem dX1_lets_16 : decode cX1_lets 16 = .ok (.invokevirtual 17, 3) := by decide +kernel
theorem dX1_lets_19 : decode cX1_lets 19 = .ok (.ifCond .eq 7, 3) := by decide +kernel
theorem dX1_lets_22 : decode cX1_lets 22 = .ok (.iconst 1, 1) := by decide +kernel
theorem dX1_lets_23 : decode cX1_lets 23 = .ok (.goto 4, 3) := by decide +kernel
theorem dX1_lets_26 : decode cX1_lets 26 = .ok (.iconst 0, 1) := by decide +kernel
theorem dX1_lets_27 : decode cX1_lets 27 = .ok (.ireturn, 1) := by decide +kernel
theorem dX2_init_0 : decode cX2_init 0 = .ok (.aload_n 0, 1) := by decide +kernel
theorem dX2_init_1 : decode cX2_init 1 = .ok (.invokespecial 3, 3) := by decide +kernel
theorem dX2_init_4 : decode cX2_init 4 = .ok (.aload_n 0, 1) := by decide +kernel
theorem dX2_init_5 : decode cX2_init 5 = .ok (.bipush 6, 2) := by decide +kernel
theorem dX2_init_7 : decode cX2_init 7 = .ok (.anewarray 9, 3) := by decide +kernel
theorem dX2_init_10 : decode cX2_init 10 = .ok (.putfield 11, 3) := by decide +kernel
theorem dX2_init_13 : decode cX2_init 13 = .ok (.aload_n 0, 1) := by decide +kernel
theorem dX2_init_14 : decode cX2_init 14 = .ok (.getfield 11, 3) := by decide +kernel
theorem dX2_init_17 : decode cX2_init 17 = .ok (.iconst 0, 1) := by decide +kernel
theorem dX2_init_18 : decode cX2_init 18 = .ok (.new 9, 3) := by decide +kernel
theorem dX2_init_21 : decode cX2_init 21 = .ok (.dup, 1) := by decide +kernel
theorem dX2_init_22 : decode cX2_init 22 = .ok (.aload_n 1, 1) := by decide +kernel
theorem dX2_init_23 : decode cX2_init 23 = .ok (.invokespecial 17, 3) := by decide +kernel
theorem dX2_init_26 : decode cX2_init 26 = .ok (.aastore, 1) := by decide +kernel
theorem dX2_init_27 : decode cX2_init 27 = .ok (.aload_n 0, 1) := by decide +kernel
theorem dX2_init_28 : decode cX2_init 28 = .ok (.getfield 11, 3) := by decide +kernel
theorem dX2_init_31 : decode cX2_init 31 = .ok (.iconst 1, 1) := by decide +kernel
theorem dX2_init_32 : decode cX2_init 32 = .ok (.new 20, 3) := by decide +kernel
theorem dX2_init_35 : decode cX2_init 35 = .ok (.dup, 1) := by decide +kernel
theorem dX2_init_36 : decode cX2_init 36 = .ok (.aload_n 1, 1) := by decide +kernel
theorem dX2_init_37 : decode cX2_init 37 = .ok (.invokespecial 22, 3) := by decide +kernel
theorem dX2_init_40 : decode cX2_init 40 = .ok (.aastore, 1) := by decide +kernel
theorem dX2_init_41 : decode cX2_init 41 = .ok (.aload_n 0, 1) := by decide +kernel
theorem dX2_init_42 : decode cX2_init 42 = .ok (.getfield 11, 3) := by decide +kernel
theorem dX2_init_45 : decode cX2_init 45 = .ok (.iconst 2, 1) := by decide +kernel
theorem dX2_init_46 : decode cX2_init 46 = .ok (.new 23, 3) := by decide +kernel
theorem dX2_init_49 : decode cX2_init 49 = .ok (.dup, 1) := by decide +kernel
theorem dX2_init_50 : decode cX2_init 50 = .ok (.aload_n 1, 1) := by decide +kernel
theorem dX2_init_51 : decode cX2_init 51 = .ok (.invokespecial 25, 3) := by decide +kernel
theorem dX2_init_54 : decode cX2_init 54 = .ok (.aastore, 1) := by decide +kernel
theorem dX2_init_55 : decode cX2_init 55 = .ok (.aload_n 0, 1) := by decide +kernel
theorem dX2_init_56 : decode cX2_init 56 = .ok (.getfield 11, 3) := by decide +kernel
theorem dX2_init_59 : decode cX2_init 59 = .ok (.iconst 3, 1) := by decide +kernel
theorem dX2_init_60 : decode cX2_init 60 = .ok (.new 26, 3) := by decide +kernel
theorem dX2_init_63 : decode cX2_init 63 = .ok (.dup, 1) := by decide +kernel
theorem dX2_init_64 : decode cX2_init 64 = .ok (.aload_n 1, 1) := by decide +kernel
theorem dX2_init_65 : decode cX2_init 65 = .ok (.invokespecial 28, 3) := by decide +kernel
theorem dX2_init_68 : decode cX2_init 68 = .ok (.aastore, 1) := by decide +kernel
theorem dX2_init_69 : decode cX2_init 69 = .ok (.aload_n 0, 1) := by decide +kernel
theorem dX2_init_70 : decode cX2_init 70 = .ok (.getfield 11, 3) := by decide +kernel
theorem dX2_init_73 : decode cX2_init 73 = .ok (.iconst 4, 1) := by decide +kernel
theorem dX2_init_74 : decode cX2_init 74 = .ok (.new 29, 3) := by decide +kernel
theorem dX2_init_77 : decode cX2_init 77 = .ok (.dup, 1) := by decide +kernel
theorem dX2_init_78 : decode cX2_init 78 = .ok (.aload_n 1, 1) := by decide +kernel
theorem dX2_init_79 : decode cX2_init 79 = .ok (.invokespecial 31, 3) := by decide +kernel
theorem dX2_init_82 : decode cX2_init 82 = .ok (.aastore, 1) := by decide +kernel
theorem dX2_init_83 : decode cX2_init 83 = .ok (.aload_n 0, 1) := by decide +kernel
theorem dX2_init_84 : decode cX2_init 84 = .ok (.getfield 11, 3) := by decide +kernel
theorem dX2_init_87 : decode cX2_init 87 = .ok (.iconst 5, 1) := by decide +kernel
theorem dX2_init_88 : decode cX2_init 88 = .ok (.new 32, 3) := by decide +kernel
theorem dX2_init_91 : decode cX2_init 91 = .ok (.dup, 1) := by decide +kernel
theorem dX2_init_92 : decode cX2_init 92 = .ok (.aload_n 1, 1) := by decide +kernel
theorem dX2_init_93 : decode cX2_init 93 = .ok (.invokespecial 34, 3) := by decide +kernel
theorem dX2_init_96 : decode cX2_init 96 = .ok (.aastore, 1) := by decide +kernel
theorem dX2_init_97 : decode cX2_init 97 = .ok (.return_, 1) := by decide +kernel
theorem dX2_allows_0 : decode cX2_allows 0 = .ok (.iload_n 2, 1) := by decide +kernel
theorem dX2_allows_1 : decode cX2_allows 1 = .ok (.ifCond .eq 17, 3) := by decide +kernel
theorem dX2_allows_4 : decode cX2_allows 4 = .ok (.iload_n 3, 1) := by decide +kernel
theorem dX2_allows_5 : decode cX2_allows 5 = .ok (.ifCond .eq 13, 3) := by decide +kernel
theorem dX2_allows_8 : decode cX2_allows 8 = .ok (.iload_n 1, 1) := by decide +kernel
theorem dX2_allows_9 : decode cX2_allows 9 = .ok (.ifCond .lt 9, 3) := by decide +kernel
theorem dX2_allows_12 : decode cX2_allows 12 = .ok (.iload_n 1, 1) := by decide +kernel
theorem dX2_allows_13 : decode cX2_allows 13 = .ok (.bipush 60, 2) := by decide +kernel
theorem dX2_allows_15 : decode cX2_allows 15 = .ok (.if_icmp .lt 5, 3) := by decide +kernel
theorem dX2_allows_18 : decode cX2_allows 18 = .ok (.iconst 1, 1) := by decide +kernel
theorem dX2_allows_19 : decode cX2_allows 19 = .ok (.ireturn, 1) := by decide +kernel
theorem dX2_allows_20 : decode cX2_allows 20 = .ok (.aload_n 0, 1) := by decide +kernel
theorem dX2_allows_21 : decode cX2_allows 21 = .ok (.getfield 11, 3) := by decide +kernel
theorem dX2_allows_24 : decode cX2_allows 24 = .ok (.iload_n 1, 1) := by decide +kernel
theorem dX2_allows_25 : decode cX2_allows 25 = .ok (.bipush 10, 2) := by decide +kernel
theorem dX2_allows_27 : decode cX2_allows 27 = .ok (.idiv, 1) := by decide +kernel
theorem dX2_allows_28 : decode cX2_allows 28 = .ok (.aaload, 1) := by decide +kernel
theorem dX2_allows_29 : decode cX2_allows 29 = .ok (.astore 4, 2) := by decide +kernel
theorem dX2_allows_31 : decode cX2_allows 31 = .ok (.aload 4, 2) := by decide +kernel
theorem dX2_allows_33 : decode cX2_allows 33 = .ok (.ifnull 17, 3) := by decide +kernel
theorem dX2_allows_36 : decode cX2_allows 36 = .ok (.aload 4, 2) := by decide +kernel
theorem dX2_allows_38 : decode cX2_allows 38 = .ok (.iload_n 2, 1) := by decide +kernel
theorem dX2_allows_39 : decode cX2_allows 39 = .ok (.iload_n 3, 1) := by decide +kernel
theorem dX2_allows_40 : decode cX2_allows 40 = .ok (.iload_n 1, 1) := by decide +kernel
theorem dX2_allows_41 : decode cX2_allows 41 = .ok (.bipush 10, 2) := by decide +kernel
theorem dX2_allows_43 : decode cX2_allows 43 = .ok (.irem, 1) := by decide +kernel
theorem dX2_allows_44 : decode cX2_allows 44 = .ok (.invokevirtual 35, 3) := by decide +kernel
theorem dX2_allows_47 : decode cX2_allows 47 = .ok (.ifCond .eq 7, 3) := by decide +kernel
theorem dX2_allows_50 : decode cX2_allows 50 = .ok (.iconst 1, 1) := by decide +kernel
theorem dX2_allows_51 : decode cX2_allows 51 = .ok (.goto 4, 3) := by decide +kernel
theorem dX2_allows_54 : decode cX2_allows 54 = .ok (.iconst 0, 1) := by decide +kernel
theorem dX2_allows_55 : decode cX2_allows 55 = .ok (.ireturn, 1) := by decide +kernel
theorem dX2_quarrelling_0 : decode cX2_quarrelling 0 = .ok (.iconst 0, 1) := by decide +kernel
theorem dX2_quarrelling_1 : decode cX2_quarrelling 1 = .ok (.istore_n 3, 1) := by decide +kernel
theorem dX2_quarrelling_2 : decode cX2_quarrelling 2 = .ok (.iconst 0, 1) := by decide +kernel
theorem dX2_quarrelling_3 : decode cX2_quarrelling 3 = .ok (.istore 4, 2) := by decide +kernel
theorem dX2_quarrelling_5 : decode cX2_quarrelling 5 = .ok (.iload 4, 2) := by decide +kernel
theorem dX2_quarrelling_7 : decode cX2_quarrelling 7 = .ok (.iconst 1, 1) := by decide +kernel
theorem dX2_quarrelling_8 : decode cX2_quarrelling 8 = .ok (.iadd, 1) := by decide +kernel
theorem dX2_quarrelling_9 : decode cX2_quarrelling 9 = .ok (.aload_n 2, 1) := by decide +kernel
theorem dX2_quarrelling_10 : decode cX2_quarrelling 10 = .ok (.arraylength, 1) := by decide +kernel
theorem dX2_quarrelling_11 : decode cX2_quarrelling 11 = .ok (.if_icmp .ge 34, 3) := by decide +kernel
theorem dX2_quarrelling_14 : decode cX2_quarrelling 14 = .ok (.aload_n 0, 1) := by decide +kernel
theorem dX2_quarrelling_15 : decode cX2_quarrelling 15 = .ok (.iload_n 1, 1) := by decide +kernel
theorem dX2_quarrelling_16 : decode cX2_quarrelling 16 = .ok (.aload_n 2, 1) := by decide +kernel
theorem dX2_quarrelling_17 : decode cX2_quarrelling 17 = .ok (.iload 4, 2) := by decide +kernel
theorem dX2_quarrelling_19 : decode cX2_quarrelling 19 = .ok (.iaload, 1) := by decide +kernel
theorem dX2_quarrelling_20 : decode cX2_quarrelling 20 = .ok (.aload_n 2, 1) := by decide +kernel
theorem dX2_quarrelling_21 : decode cX2_quarrelling 21 = .ok (.iload 4, 2) := by decide +kernel
theorem dX2_quarrelling_23 : decode cX2_quarrelling 23 = .ok (.iconst 1, 1) := by decide +kernel
theorem dX2_quarrelling_24 : decode cX2_quarrelling 24 = .ok (.iadd, 1) := by decide +kernel
theorem dX2_quarrelling_25 : decode cX2_quarrelling 25 = .ok (.iaload, 1) := by decide +kernel
theorem dX2_quarrelling_26 : decode cX2_quarrelling 26 = .ok (.invokevirtual 39, 3) := by decide +kernel
theorem dX2_quarrelling_29 : decode cX2_quarrelling 29 = .ok (.ifCond .ne 10, 3) := by decide +kernel
theorem dX2_quarrelling_32 : decode cX2_quarrelling 32 = .ok (.iload_n 3, 1) := by decide +kernel
theorem dX2_quarrelling_33 : decode cX2_quarrelling 33 = .ok (.iconst 1, 1) := by decide +kernel
theorem dX2_quarrelling_34 : decode cX2_quarrelling 34 = .ok (.iload 4, 2) := by decide +kernel
theorem dX2_quarrelling_36 : decode cX2_quarrelling 36 = .ok (.ishl, 1) := by decide +kernel
theorem dX2_quarrelling_37 : decode cX2_quarrelling 37 = .ok (.ior, 1) := by decide +kernel
theorem dX2_quarrelling_38 : decode cX2_quarrelling 38 = .ok (.istore_n 3, 1) := by decide +kernel
theorem dX2_quarrelling_39 : decode cX2_quarrelling 39 = .ok (.iinc 4 1, 3) := by decide +kernel
theorem dX2_quarrelling_42 : decode cX2_quarrelling 42 = .ok (.goto (-37), 3) := by decide +kernel
theorem dX2_quarrelling_45 : decode cX2_quarrelling 45 = .ok (.iload_n 3, 1) := by decide +kernel
theorem dX2_quarrelling_46 : decode cX2_quarrelling 46 = .ok (.ireturn, 1) := by decide +kernel
theorem dX2_peacefulTenths_0 : decode cX2_peacefulTenths 0 = .ok (.iconst 0, 1) := by decide +kernel
theorem dX2_peacefulTenths_1 : decode cX2_peacefulTenths 1 = .ok (.istore 4, 2) := by decide +kernel
theorem dX2_peacefulTenths_3 : decode cX2_peacefulTenths 3 = .ok (.iconst 0, 1) := by decide +kernel
theorem dX2_peacefulTenths_4 : decode cX2_peacefulTenths 4 = .ok (.istore 5, 2) := by decide +kernel
theorem dX2_peacefulTenths_6 : decode cX2_peacefulTenths 6 = .ok (.lconst 1, 1) := by decide +kernel
theorem dX2_peacefulTenths_7 : decode cX2_peacefulTenths 7 = .ok (.lstore 6, 2) := by decide +kernel
theorem dX2_peacefulTenths_9 : decode cX2_peacefulTenths 9 = .ok (.lconst 0, 1) := by decide +kernel
theorem dX2_peacefulTenths_10 : decode cX2_peacefulTenths 10 = .ok (.lstore 8, 2) := by decide +kernel
theorem dX2_peacefulTenths_12 : decode cX2_peacefulTenths 12 = .ok (.iconst 0, 1) := by decide +kernel
theorem dX2_peacefulTenths_13 : decode cX2_peacefulTenths 13 = .ok (.istore 10, 2) := by decide +kernel
theorem dX2_peacefulTenths_15 : decode cX2_peacefulTenths 15 = .ok (.iload 10, 2) := by decide +kernel
theorem dX2_peacefulTenths_17 : decode cX2_peacefulTenths 17 = .ok (.aload_n 2, 1) := by decide +kernel
theorem dX2_peacefulTenths_18 : decode cX2_peacefulTenths 18 = .ok (.arraylength, 1) := by decide +kernel
theorem dX2_peacefulTenths_19 : decode cX2_peacefulTenths 19 = .ok (.if_icmp .ge 169, 3) := by decide +kernel
theorem dX2_peacefulTenths_22 : decode cX2_peacefulTenths 22 = .ok (.aload_n 2, 1) := by decide +kernel
theorem dX2_peacefulTenths_23 : decode cX2_peacefulTenths 23 = .ok (.iload 10, 2) := by decide +kernel
theorem dX2_peacefulTenths_25 : decode cX2_peacefulTenths 25 = .ok (.iaload, 1) := by decide +kernel
theorem dX2_peacefulTenths_26 : decode cX2_peacefulTenths 26 = .ok (.istore 11, 2) := by decide +kernel
theorem dX2_peacefulTenths_28 : decode cX2_peacefulTenths 28 = .ok (.iload 11, 2) := by decide +kernel
theorem dX2_peacefulTenths_30 : decode cX2_peacefulTenths 30 = .ok (.ifCond .eq 11, 3) := by decide +kernel
theorem dX2_peacefulTenths_33 : decode cX2_peacefulTenths 33 = .ok (.iload 11, 2) := by decide +kernel
theorem dX2_peacefulTenths_35 : decode cX2_peacefulTenths 35 = .ok (.sipush 300, 3) := by decide +kernel
theorem dX2_peacefulTenths_38 : decode cX2_peacefulTenths 38 = .ok (.if_icmp .lt 8, 3) := by decide +kernel
theorem dX2_peacefulTenths_41 : decode cX2_peacefulTenths 41 = .ok (.iload 11, 2) := by decide +kernel
theorem dX2_peacefulTenths_43 : decode cX2_peacefulTenths 43 = .ok (.goto 7, 3) := by decide +kernel
theorem dX2_peacefulTenths_46 : decode cX2_peacefulTenths 46 = .ok (.iload 11, 2) := by decide +kernel
theorem dX2_peacefulTenths_48 : decode cX2_peacefulTenths 48 = .ok (.iconst 1, 1) := by decide +kernel
theorem dX2_peacefulTenths_49 : decode cX2_peacefulTenths 49 = .ok (.iadd, 1) := by decide +kernel
theorem dX2_peacefulTenths_50 : decode cX2_peacefulTenths 50 = .ok (.istore 12, 2) := by decide +kernel
theorem dX2_peacefulTenths_52 : decode cX2_peacefulTenths 52 = .ok (.aload_n 0, 1) := by decide +kernel
theorem dX2_peacefulTenths_53 : decode cX2_peacefulTenths 53 = .ok (.iload_n 1, 1) := by decide +kernel
theorem dX2_peacefulTenths_54 : decode cX2_peacefulTenths 54 = .ok (.iload 4, 2) := by decide +kernel
theorem dX2_peacefulTenths_56 : decode cX2_peacefulTenths 56 = .ok (.iload 11, 2) := by decide +kernel
theorem dX2_peacefulTenths_58 : decode cX2_peacefulTenths 58 = .ok (.invokevirtual 39, 3) := by decide +kernel
theorem dX2_peacefulTenths_61 : decode cX2_peacefulTenths 61 = .ok (.ifCond .eq 8, 3) := by decide +kernel
theorem dX2_peacefulTenths_64 : decode cX2_peacefulTenths 64 = .ok (.lload 6, 2) := by decide +kernel
theorem dX2_peacefulTenths_66 : decode cX2_peacefulTenths 66 = .ok (.goto 4, 3) := by decide +kernel
theorem dX2_peacefulTenths_69 : decode cX2_peacefulTenths 69 = .ok (.lconst 0, 1) := by decide +kernel
theorem dX2_peacefulTenths_70 : decode cX2_peacefulTenths 70 = .ok (.lstore 13, 2) := by decide +kernel
theorem dX2_peacefulTenths_72 : decode cX2_peacefulTenths 72 = .ok (.lload 13, 2) := by decide +kernel
theorem dX2_peacefulTenths_74 : decode cX2_peacefulTenths 74 = .ok (.aload_n 0, 1) := by decide +kernel
theorem dX2_peacefulTenths_75 : decode cX2_peacefulTenths 75 = .ok (.iload_n 1, 1) := by decide +kernel
theorem dX2_peacefulTenths_76 : decode cX2_peacefulTenths 76 = .ok (.iload 5, 2) := by decide +kernel
theorem dX2_peacefulTenths_78 : decode cX2_peacefulTenths 78 = .ok (.iload 11, 2) := by decide +kernel
theorem dX2_peacefulTenths_80 : decode cX2_peacefulTenths 80 = .ok (.invokevirtual 39, 3) := by decide +kernel
theorem dX2_peacefulTenths_83 : decode cX2_peacefulTenths 83 = .ok (.ifCond .eq 8, 3) := by decide +kernel
theorem dX2_peacefulTenths_86 : decode cX2_peacefulTenths 86 = .ok (.lload 8, 2) := by decide +kernel
theorem dX2_peacefulTenths_88 : decode cX2_peacefulTenths 88 = .ok (.goto 4, 3) := by decide +kernel
theorem dX2_peacefulTenths_91 : decode cX2_peacefulTenths 91 = .ok (.lconst 0, 1) := by decide +kernel
theorem dX2_peacefulTenths_92 : decode cX2_peacefulTenths 92 = .ok (.ladd, 1) := by decide +kernel
theorem dX2_peacefulTenths_93 : decode cX2_peacefulTenths 93 = .ok (.lstore 13, 2) := by decide +kernel
theorem dX2_peacefulTenths_95 : decode cX2_peacefulTenths 95 = .ok (.aload_n 0, 1) := by decide +kernel
theorem dX2_peacefulTenths_96 : decode cX2_peacefulTenths 96 = .ok (.iload_n 1, 1) := by decide +kernel
theorem dX2_peacefulTenths_97 : decode cX2_peacefulTenths 97 = .ok (.iload 4, 2) := by decide +kernel
theorem dX2_peacefulTenths_99 : decode cX2_peacefulTenths 99 = .ok (.iload 12, 2) := by decide +kernel
theorem dX2_peacefulTenths_101 : decode cX2_peacefulTenths 101 = .ok (.invokevirtual 39, 3) := by decide +kernel
theorem dX2_peacefulTenths_104 : decode cX2_peacefulTenths 104 = .ok (.ifCond .eq 8, 3) := by decide +kernel
theorem dX2_peacefulTenths_107 : decode cX2_peacefulTenths 107 = .ok (.lload 6, 2) := by decide +kernel
theorem dX2_peacefulTenths_109 : decode cX2_peacefulTenths 109 = .ok (.goto 4, 3) := by decide +kernel
theorem dX2_peacefulTenths_112 : decode cX2_peacefulTenths 112 = .ok (.lconst 0, 1) := by decide +kernel
theorem dX2_peacefulTenths_113 : decode cX2_peacefulTenths 113 = .ok (.lstore 15, 2) := by decide +kernel
theorem dX2_peacefulTenths_115 : decode cX2_peacefulTenths 115 = .ok (.lload 15, 2) := by decide +kernel
theorem dX2_peacefulTenths_117 : decode cX2_peacefulTenths 117 = .ok (.aload_n 0, 1) := by decide +kernel
theorem dX2_peacefulTenths_118 : decode cX2_peacefulTenths 118 = .ok (.iload_n 1, 1) := by decide +kernel
theorem dX2_peacefulTenths_119 : decode cX2_peacefulTenths 119 = .ok (.iload 5, 2) := by decide +kernel
theorem dX2_peacefulTenths_121 : decode cX2_peacefulTenths 121 = .ok (.iload 12, 2) := by decide +kernel
theorem dX2_peacefulTenths_123 : decode cX2_peacefulTenths 123 = .ok (.invokevirtual 39, 3) := by decide +kernel
theorem dX2_peacefulTenths_126 : decode cX2_peacefulTenths 126 = .ok (.ifCond .eq 8, 3) := by decide +kernel
theorem dX2_peacefulTenths_129 : decode cX2_peacefulTenths 129 = .ok (.lload 8, 2) := by decide +kernel
theorem dX2_peacefulTenths_131 : decode cX2_peacefulTenths 131 = .ok (.goto 4, 3) := by decide +kernel
theorem dX2_peacefulTenths_134 : decode cX2_peacefulTenths 134 = .ok (.lconst 0, 1) := by decide +kernel
theorem dX2_peacefulTenths_135 : decode cX2_peacefulTenths 135 = .ok (.ladd, 1) := by decide +kernel
theorem dX2_peacefulTenths_136 : decode cX2_peacefulTenths 136 = .ok (.lstore 15, 2) := by decide +kernel
theorem dX2_peacefulTenths_138 : decode cX2_peacefulTenths 138 = .ok (.iload 11, 2) := by decide +kernel
theorem dX2_peacefulTenths_140 : decode cX2_peacefulTenths 140 = .ok (.ifCond .ne 8, 3) := by decide +kernel
theorem dX2_peacefulTenths_143 : decode cX2_peacefulTenths 143 = .ok (.lload 13, 2) := by decide +kernel
theorem dX2_peacefulTenths_145 : decode cX2_peacefulTenths 145 = .ok (.goto 11, 3) := by decide +kernel
theorem dX2_peacefulTenths_148 : decode cX2_peacefulTenths 148 = .ok (.lload 13, 2) := by decide +kernel
theorem dX2_peacefulTenths_150 : decode cX2_peacefulTenths 150 = .ok (.bipush 10, 2) := by decide +kernel
theorem dX2_peacefulTenths_152 : decode cX2_peacefulTenths 152 = .ok (.iload_n 3, 1) := by decide +kernel
theorem dX2_peacefulTenths_153 : decode cX2_peacefulTenths 153 = .ok (.isub, 1) := by decide +kernel
theorem dX2_peacefulTenths_154 : decode cX2_peacefulTenths 154 = .ok (.i2l, 1) := by decide +kernel
theorem dX2_peacefulTenths_155 : decode cX2_peacefulTenths 155 = .ok (.lmul, 1) := by decide +kernel
theorem dX2_peacefulTenths_156 : decode cX2_peacefulTenths 156 = .ok (.lstore 6, 2) := by decide +kernel
theorem dX2_peacefulTenths_158 : decode cX2_peacefulTenths 158 = .ok (.iload 11, 2) := by decide +kernel
theorem dX2_peacefulTenths_160 : decode cX2_peacefulTenths 160 = .ok (.ifCond .ne 7, 3) := by decide +kernel
theorem dX2_peacefulTenths_163 : decode cX2_peacefulTenths 163 = .ok (.lconst 0, 1) := by decide +kernel
theorem dX2_peacefulTenths_164 : decode cX2_peacefulTenths 164 = .ok (.goto 8, 3) := by decide +kernel
theorem dX2_peacefulTenths_167 : decode cX2_peacefulTenths 167 = .ok (.lload 15, 2) := by decide +kernel
theorem dX2_peacefulTenths_169 : decode cX2_peacefulTenths 169 = .ok (.iload_n 3, 1) := by decide +kernel
theorem dX2_peacefulTenths_170 : decode cX2_peacefulTenths 170 = .ok (.i2l, 1) := by decide +kernel
theorem dX2_peacefulTenths_171 : decode cX2_peacefulTenths 171 = .ok (.lmul, 1) := by decide +kernel
theorem dX2_peacefulTenths_172 : decode cX2_peacefulTenths 172 = .ok (.lstore 8, 2) := by decide +kernel
theorem dX2_peacefulTenths_174 : decode cX2_peacefulTenths 174 = .ok (.iload 11, 2) := by decide +kernel
theorem dX2_peacefulTenths_176 : decode cX2_peacefulTenths 176 = .ok (.istore 4, 2) := by decide +kernel
theorem dX2_peacefulTenths_178 : decode cX2_peacefulTenths 178 = .ok (.iload 12, 2) := by decide +kernel
theorem dX2_peacefulTenths_180 : decode cX2_peacefulTenths 180 = .ok (.istore 5, 2) := by decide +kernel
theorem dX2_peacefulTenths_182 : decode cX2_peacefulTenths 182 = .ok (.iinc 10 1, 3) := by decide +kernel
theorem dX2_peacefulTenths_185 : decode cX2_peacefulTenths 185 = .ok (.goto (-170), 3) := by decide +kernel
theorem dX2_peacefulTenths_188 : decode cX2_peacefulTenths 188 = .ok (.lload 6, 2) := by decide +kernel
theorem dX2_peacefulTenths_190 : decode cX2_peacefulTenths 190 = .ok (.lload 8, 2) := by decide +kernel
theorem dX2_peacefulTenths_192 : decode cX2_peacefulTenths 192 = .ok (.ladd, 1) := by decide +kernel
theorem dX2_peacefulTenths_193 : decode cX2_peacefulTenths 193 = .ok (.lreturn, 1) := by decide +kernel
theorem dX3_init_0 : decode cX3_init 0 = .ok (.aload_n 0, 1) := by decide +kernel
theorem dX3_init_1 : decode cX3_init 1 = .ok (.invokespecial 3, 3) := by decide +kernel
theorem dX3_init_4 : decode cX3_init 4 = .ok (.aload_n 0, 1) := by decide +kernel
theorem dX3_init_5 : decode cX3_init 5 = .ok (.sipush 301, 3) := by decide +kernel
theorem dX3_init_8 : decode cX3_init 8 = .ok (.newarray .int, 2) := by decide +kernel
theorem dX3_init_10 : decode cX3_init 10 = .ok (.putfield 9, 3) := by decide +kernel
theorem dX3_init_13 : decode cX3_init 13 = .ok (.aload_n 0, 1) := by decide +kernel
theorem dX3_init_14 : decode cX3_init 14 = .ok (.sipush 301, 3) := by decide +kernel
theorem dX3_init_17 : decode cX3_init 17 = .ok (.newarray .boolean, 2) := by decide +kernel
theorem dX3_init_19 : decode cX3_init 19 = .ok (.putfield 15, 3) := by decide +kernel
theorem dX3_init_22 : decode cX3_init 22 = .ok (.iconst 1, 1) := by decide +kernel
theorem dX3_init_23 : decode cX3_init 23 = .ok (.istore_n 1, 1) := by decide +kernel
theorem dX3_init_24 : decode cX3_init 24 = .ok (.iload_n 1, 1) := by decide +kernel
theorem dX3_init_25 : decode cX3_init 25 = .ok (.iload_n 1, 1) := by decide +kernel
theorem dX3_init_26 : decode cX3_init 26 = .ok (.imul, 1) := by decide +kernel
theorem dX3_init_27 : decode cX3_init 27 = .ok (.sipush 300, 3) := by decide +kernel
theorem dX3_init_30 : decode cX3_init 30 = .ok (.if_icmp .gt 18, 3) := by decide +kernel
theorem dX3_init_33 : decode cX3_init 33 = .ok (.aload_n 0, 1) := by decide +kernel
theorem dX3_init_34 : decode cX3_init 34 = .ok (.getfield 15, 3) := by decide +kernel
theorem dX3_init_37 : decode cX3_init 37 = .ok (.iload_n 1, 1) := by decide +kernel
theorem dX3_init_38 : decode cX3_init 38 = .ok (.iload_n 1, 1) := by decide +kernel
theorem dX3_init_39 : decode cX3_init 39 = .ok (.imul, 1) := by decide +kernel
theorem dX3_init_40 : decode cX3_init 40 = .ok (.iconst 1, 1) := by decide +kernel
theorem dX3_init_41 : decode cX3_init 41 = .ok (.bastore, 1) := by decide +kernel
theorem dX3_init_42 : decode cX3_init 42 = .ok (.iinc 1 1, 3) := by decide +kernel
theorem dX3_init_45 : decode cX3_init 45 = .ok (.goto (-21), 3) := by decide +kernel
theorem dX3_init_48 : decode cX3_init 48 = .ok (.iconst 1, 1) := by decide +kernel
theorem dX3_init_49 : decode cX3_init 49 = .ok (.istore_n 1, 1) := by decide +kernel
theorem dX3_init_50 : decode cX3_init 50 = .ok (.iload_n 1, 1) := by decide +kernel
theorem dX3_init_51 : decode cX3_init 51 = .ok (.sipush 150, 3) := by decide +kernel
theorem dX3_init_54 : decode cX3_init 54 = .ok (.if_icmp .gt 37, 3) := by decide +kernel
theorem dX3_init_57 : decode cX3_init 57 = .ok (.iconst 2, 1) := by decide +kernel
theorem dX3_init_58 : decode cX3_init 58 = .ok (.iload_n 1, 1) := by decide +kernel
theorem dX3_init_59 : decode cX3_init 59 = .ok (.imul, 1) := by decide +kernel
theorem dX3_init_60 : decode cX3_init 60 = .ok (.istore_n 2, 1) := by decide +kernel
theorem dX3_init_61 : decode cX3_init 61 = .ok (.iload_n 2, 1) := by decide +kernel
theorem dX3_init_62 : decode cX3_init 62 = .ok (.sipush 300, 3) := by decide +kernel
theorem dX3_init_65 : decode cX3_init 65 = .ok (.if_icmp .gt 20, 3) := by decide +kernel
theorem dX3_init_68 : decode cX3_init 68 = .ok (.aload_n 0, 1) := by decide +kernel
theorem dX3_init_69 : decode cX3_init 69 = .ok (.getfield 9, 3) := by decide +kernel
theorem dX3_init_72 : decode cX3_init 72 = .ok (.iload_n 2, 1) := by decide +kernel
theorem dX3_init_73 : decode cX3_init 73 = .ok (.dup2, 1) := by decide +kernel
theorem dX3_init_74 : decode cX3_init 74 = .ok (.iaload, 1) := by decide +kernel
theorem dX3_init_75 : decode cX3_init 75 = .ok (.iload_n 1, 1) := by decide +kernel
theorem dX3_init_76 : decode cX3_init 76 = .ok (.iadd, 1) := by decide +kernel
theorem dX3_init_77 : decode cX3_init 77 = .ok (.iastore, 1) := by decide +kernel
theorem dX3_init_78 : decode cX3_init 78 = .ok (.iload_n 2, 1) := by decide +kernel
theorem dX3_init_79 : decode cX3_init 79 = .ok (.iload_n 1, 1) := by decide +kernel
theorem dX3_init_80 : decode cX3_init 80 = .ok (.iadd, 1) := by decide +kernel
theorem dX3_init_81 : decode cX3_init 81 = .ok (.istore_n 2, 1) := by decide +kernel
theorem dX3_init_82 : decode cX3_init 82 = .ok (.goto (-21), 3) := by decide +kernel
theorem dX3_init_85 : decode cX3_init 85 = .ok (.iinc 1 1, 3) := by decide +kernel
theorem dX3_init_88 : decode cX3_init 88 = .ok (.goto (-38), 3) := by decide +kernel
theorem dX3_init_91 : decode cX3_init 91 = .ok (.return_, 1) := by decide +kernel
theorem dX3_partsOf_0 : decode cX3_partsOf 0 = .ok (.iload_n 1, 1) := by decide +kernel
theorem dX3_partsOf_1 : decode cX3_partsOf 1 = .ok (.iconst 1, 1) := by decide +kernel
theorem dX3_partsOf_2 : decode cX3_partsOf 2 = .ok (.if_icmp .ge 5, 3) := by decide +kernel
theorem dX3_partsOf_5 : decode cX3_partsOf 5 = .ok (.iconst 0, 1) := by decide +kernel
theorem dX3_partsOf_6 : decode cX3_partsOf 6 = .ok (.ireturn, 1) := by decide +kernel
theorem dX3_partsOf_7 : decode cX3_partsOf 7 = .ok (.iload_n 1, 1) := by decide +kernel
theorem dX3_partsOf_8 : decode cX3_partsOf 8 = .ok (.sipush 300, 3) := by decide +kernel
theorem dX3_partsOf_11 : decode cX3_partsOf 11 = .ok (.if_icmp .gt 12, 3) := by decide +kernel
theorem dX3_partsOf_14 : decode cX3_partsOf 14 = .ok (.aload_n 0, 1) := by decide +kernel
theorem dX3_partsOf_15 : decode cX3_partsOf 15 = .ok (.getfield 9, 3) := by decide +kernel
theorem dX3_partsOf_18 : decode cX3_partsOf 18 = .ok (.iload_n 1, 1) := by decide +kernel
theorem dX3_partsOf_19 : decode cX3_partsOf 19 = .ok (.iaload, 1) := by decide +kernel
theorem dX3_partsOf_20 : decode cX3_partsOf 20 = .ok (.goto 7, 3) := by decide +kernel
theorem dX3_partsOf_23 : decode cX3_partsOf 23 = .ok (.iload_n 1, 1) := by decide +kernel
theorem dX3_partsOf_24 : decode cX3_partsOf 24 = .ok (.invokestatic 19, 3) := by decide +kernel
theorem dX3_partsOf_27 : decode cX3_partsOf 27 = .ok (.ireturn, 1) := by decide +kernel
theorem dX3_addParts_0 : decode cX3_addParts 0 = .ok (.iconst 1, 1) := by decide +kernel
theorem dX3_addParts_1 : decode cX3_addParts 1 = .ok (.istore_n 1, 1) := by decide +kernel
theorem dX3_addParts_2 : decode cX3_addParts 2 = .ok (.iconst 2, 1) := by decide +kernel
theorem dX3_addParts_3 : decode cX3_addParts 3 = .ok (.istore_n 2, 1) := by decide +kernel
theorem dX3_addParts_4 : decode cX3_addParts 4 = .ok (.iload_n 2, 1) := by decide +kernel
theorem dX3_addParts_5 : decode cX3_addParts 5 = .ok (.sipush 9999, 3) := by decide +kernel
theorem dX3_addParts_8 : decode cX3_addParts 8 = .ok (.if_icmp .gt 41, 3) := by decide +kernel
theorem dX3_addParts_11 : decode cX3_addParts 11 = .ok (.iload_n 2, 1) := by decide +kernel
theorem dX3_addParts_12 : decode cX3_addParts 12 = .ok (.iload_n 2, 1) := by decide +kernel
theorem dX3_addParts_13 : decode cX3_addParts 13 = .ok (.imul, 1) := by decide +kernel
theorem dX3_addParts_14 : decode cX3_addParts 14 = .ok (.iload_n 0, 1) := by decide +kernel
theorem dX3_addParts_15 : decode cX3_addParts 15 = .ok (.if_icmp .gt 34, 3) := by decide +kernel
theorem dX3_addParts_18 : decode cX3_addParts 18 = .ok (.iload_n 0, 1) := by decide +kernel
theorem dX3_addParts_19 : decode cX3_addParts 19 = .ok (.iload_n 2, 1) := by decide +kernel
theorem dX3_addParts_20 : decode cX3_addParts 20 = .ok (.irem, 1) := by decide +kernel
theorem dX3_addParts_21 : decode cX3_addParts 21 = .ok (.ifCond .ne 22, 3) := by decide +kernel
theorem dX3_addParts_24 : decode cX3_addParts 24 = .ok (.iload_n 0, 1) := by decide +kernel
theorem dX3_addParts_25 : decode cX3_addParts 25 = .ok (.iload_n 2, 1) := by decide +kernel
theorem dX3_addParts_26 : decode cX3_addParts 26 = .ok (.idiv, 1) := by decide +kernel
theorem dX3_addParts_27 : decode cX3_addParts 27 = .ok (.istore_n 3, 1) := by decide +kernel
theorem dX3_addParts_28 : decode cX3_addParts 28 = .ok (.iload_n 1, 1) := by decide +kernel
theorem dX3_addParts_29 : decode cX3_addParts 29 = .ok (.iload_n 3, 1) := by decide +kernel
theorem dX3_addParts_30 : decode cX3_addParts 30 = .ok (.iload_n 2, 1) := by decide +kernel
theorem dX3_addParts_31 : decode cX3_addParts 31 = .ok (.if_icmp .ne 7, 3) := by decide +kernel
theorem dX3_addParts_34 : decode cX3_addParts 34 = .ok (.iload_n 2, 1) := by decide +kernel
theorem dX3_addParts_35 : decode cX3_addParts 35 = .ok (.goto 6, 3) := by decide +kernel
theorem dX3_addParts_38 : decode cX3_addParts 38 = .ok (.iload_n 2, 1) := by decide +kernel
theorem dX3_addParts_39 : decode cX3_addParts 39 = .ok (.iload_n 3, 1) := by decide +kernel
theorem dX3_addParts_40 : decode cX3_addParts 40 = .ok (.iadd, 1) := by decide +kernel
theorem dX3_addParts_41 : decode cX3_addParts 41 = .ok (.iadd, 1) := by decide +kernel
theorem dX3_addParts_42 : decode cX3_addParts 42 = .ok (.istore_n 1, 1) := by decide +kernel
theorem dX3_addParts_43 : decode cX3_addParts 43 = .ok (.iinc 2 1, 3) := by decide +kernel
theorem dX3_addParts_46 : decode cX3_addParts 46 = .ok (.goto (-42), 3) := by decide +kernel
theorem dX3_addParts_49 : decode cX3_addParts 49 = .ok (.iload_n 1, 1) := by decide +kernel
theorem dX3_addParts_50 : decode cX3_addParts 50 = .ok (.ireturn, 1) := by decide +kernel
theorem dX3_isPrime_0 : decode cX3_isPrime 0 = .ok (.iload_n 1, 1) := by decide +kernel
theorem dX3_isPrime_1 : decode cX3_isPrime 1 = .ok (.invokestatic 23, 3) := by decide +kernel
theorem dX3_isPrime_4 : decode cX3_isPrime 4 = .ok (.ifCond .eq 17, 3) := by decide +kernel
theorem dX3_isPrime_7 : decode cX3_isPrime 7 = .ok (.aload_n 0, 1) := by decide +kernel
theorem dX3_isPrime_8 : decode cX3_isPrime 8 = .ok (.getfield 9, 3) := by decide +kernel
theorem dX3_isPrime_11 : decode cX3_isPrime 11 = .ok (.iload_n 1, 1) := by decide +kernel
theorem dX3_isPrime_12 : decode cX3_isPrime 12 = .ok (.iaload, 1) := by decide +kernel
theorem dX3_isPrime_13 : decode cX3_isPrime 13 = .ok (.iconst 1, 1) := by decide +kernel
theorem dX3_isPrime_14 : decode cX3_isPrime 14 = .ok (.if_icmp .ne 7, 3) := by decide +kernel
theorem dX3_isPrime_17 : decode cX3_isPrime 17 = .ok (.iconst 1, 1) := by decide +kernel
theorem dX3_isPrime_18 : decode cX3_isPrime 18 = .ok (.goto 4, 3) := by decide +kernel
theorem dX3_isPrime_21 : decode cX3_isPrime 21 = .ok (.iconst 0, 1) := by decide +kernel
theorem dX3_isPrime_22 : decode cX3_isPrime 22 = .ok (.ireturn, 1) := by decide +kernel
theorem dX3_isSquare_0 : decode cX3_isSquare 0 = .ok (.iload_n 1, 1) := by decide +kernel
theorem dX3_isSquare_1 : decode cX3_isSquare 1 = .ok (.invokestatic 23, 3) := by decide +kernel
theorem dX3_isSquare_4 : decode cX3_isSquare 4 = .ok (.ifCond .eq 16, 3) := by decide +kernel
theorem dX3_isSquare_7 : decode cX3_isSquare 7 = .ok (.aload_n 0, 1) := by decide +kernel
theorem dX3_isSquare_8 : decode cX3_isSquare 8 = .ok (.getfield 15, 3) := by decide +kernel
theorem dX3_isSquare_11 : decode cX3_isSquare 11 = .ok (.iload_n 1, 1) := by decide +kernel
theorem dX3_isSquare_12 : decode cX3_isSquare 12 = .ok (.baload, 1) := by decide +kernel
theorem dX3_isSquare_13 : decode cX3_isSquare 13 = .ok (.ifCond .eq 7, 3) := by decide +kernel
theorem dX3_isSquare_16 : decode cX3_isSquare 16 = .ok (.iconst 1, 1) := by decide +kernel
theorem dX3_isSquare_17 : decode cX3_isSquare 17 = .ok (.goto 4, 3) := by decide +kernel
theorem dX3_isSquare_20 : decode cX3_isSquare 20 = .ok (.iconst 0, 1) := by decide +kernel
theorem dX3_isSquare_21 : decode cX3_isSquare 21 = .ok (.ireturn, 1) := by decide +kernel
theorem dX3_areFriends_0 : decode cX3_areFriends 0 = .ok (.aload_n 0, 1) := by decide +kernel
theorem dX3_areFriends_1 : decode cX3_areFriends 1 = .ok (.iload_n 1, 1) := by decide +kernel
theorem dX3_areFriends_2 : decode cX3_areFriends 2 = .ok (.invokevirtual 27, 3) := by decide +kernel
theorem dX3_areFriends_5 : decode cX3_areFriends 5 = .ok (.iload_n 2, 1) := by decide +kernel
theorem dX3_areFriends_6 : decode cX3_areFriends 6 = .ok (.if_icmp .ne 16, 3) := by decide +kernel
theorem dX3_areFriends_9 : decode cX3_areFriends 9 = .ok (.aload_n 0, 1) := by decide +kernel
theorem dX3_areFriends_10 : decode cX3_areFriends 10 = .ok (.iload_n 2, 1) := by decide +kernel
theorem dX3_areFriends_11 : decode cX3_areFriends 11 = .ok (.invokevirtual 27, 3) := by decide +kernel
theorem dX3_areFriends_14 : decode cX3_areFriends 14 = .ok (.iload_n 1, 1) := by decide +kernel
theorem dX3_areFriends_15 : decode cX3_areFriends 15 = .ok (.if_icmp .ne 7, 3) := by decide +kernel
theorem dX3_areFriends_18 : decode cX3_areFriends 18 = .ok (.iconst 1, 1) := by decide +kernel
theorem dX3_areFriends_19 : decode cX3_areFriends 19 = .ok (.goto 4, 3) := by decide +kernel
theorem dX3_areFriends_22 : decode cX3_areFriends 22 = .ok (.iconst 0, 1) := by decide +kernel
theorem dX3_areFriends_23 : decode cX3_areFriends 23 = .ok (.ireturn, 1) := by decide +kernel
theorem dX4_init_0 : decode cX4_init 0 = .ok (.aload_n 0, 1) := by decide +kernel
theorem dX4_init_1 : decode cX4_init 1 = .ok (.invokespecial 3, 3) := by decide +kernel
theorem dX4_init_4 : decode cX4_init 4 = .ok (.aload_n 0, 1) := by decide +kernel
theorem dX4_init_5 : decode cX4_init 5 = .ok (.bipush 8, 2) := by decide +kernel
theorem dX4_init_7 : decode cX4_init 7 = .ok (.newarray .int, 2) := by decide +kernel
theorem dX4_init_9 : decode cX4_init 9 = .ok (.putfield 9, 3) := by decide +kernel
theorem dX4_init_12 : decode cX4_init 12 = .ok (.aload_n 0, 1) := by decide +kernel
theorem dX4_init_13 : decode cX4_init 13 = .ok (.bipush 8, 2) := by decide +kernel
theorem dX4_init_15 : decode cX4_init 15 = .ok (.newarray .int, 2) := by decide +kernel
theorem dX4_init_17 : decode cX4_init 17 = .ok (.putfield 15, 3) := by decide +kernel
theorem dX4_init_20 : decode cX4_init 20 = .ok (.aload_n 0, 1) := by decide +kernel
theorem dX4_init_21 : decode cX4_init 21 = .ok (.bipush 8, 2) := by decide +kernel
theorem dX4_init_23 : decode cX4_init 23 = .ok (.newarray .int, 2) := by decide +kernel
theorem dX4_init_25 : decode cX4_init 25 = .ok (.putfield 18, 3) := by decide +kernel
theorem dX4_init_28 : decode cX4_init 28 = .ok (.aload_n 0, 1) := by decide +kernel
theorem dX4_init_29 : decode cX4_init 29 = .ok (.sipush 2048, 3) := by decide +kernel
theorem dX4_init_32 : decode cX4_init 32 = .ok (.newarray .int, 2) := by decide +kernel
theorem dX4_init_34 : decode cX4_init 34 = .ok (.putfield 21, 3) := by decide +kernel
theorem dX4_init_37 : decode cX4_init 37 = .ok (.aload_n 0, 1) := by decide +kernel
theorem dX4_init_38 : decode cX4_init 38 = .ok (.sipush 256, 3) := by decide +kernel
theorem dX4_init_41 : decode cX4_init 41 = .ok (.newarray .int, 2) := by decide +kernel
theorem dX4_init_43 : decode cX4_init 43 = .ok (.putfield 24, 3) := by decide +kernel
theorem dX4_init_46 : decode cX4_init 46 = .ok (.aload_n 0, 1) := by decide +kernel
theorem dX4_init_47 : decode cX4_init 47 = .ok (.aload_n 1, 1) := by decide +kernel
theorem dX4_init_48 : decode cX4_init 48 = .ok (.putfield 27, 3) := by decide +kernel
theorem dX4_init_51 : decode cX4_init 51 = .ok (.return_, 1) := by decide +kernel
theorem dX4_bothOf_0 : decode cX4_bothOf 0 = .ok (.iload_n 0, 1) := by decide +kernel
theorem dX4_bothOf_1 : decode cX4_bothOf 1 = .ok (.iload_n 0, 1) := by decide +kernel
theorem dX4_bothOf_2 : decode cX4_bothOf 2 = .ok (.iconst 1, 1) := by decide +kernel
theorem dX4_bothOf_3 : decode cX4_bothOf 3 = .ok (.ishl, 1) := by decide +kernel
theorem dX4_bothOf_4 : decode cX4_bothOf 4 = .ok (.ior, 1) := by decide +kernel
theorem dX4_bothOf_5 : decode cX4_bothOf 5 = .ok (.ireturn, 1) := by decide +kernel
theorem dX4_fewestAway_0 : decode cX4_fewestAway 0 = .ok (.sipush 255, 3) := by decide +kernel
theorem dX4_fewestAway_3 : decode cX4_fewestAway 3 = .ok (.istore_n 1, 1) := by decide +kernel
theorem dX4_fewestAway_4 : decode cX4_fewestAway 4 = .ok (.iconst 0, 1) := by decide +kernel
theorem dX4_fewestAway_5 : decode cX4_fewestAway 5 = .ok (.istore_n 2, 1) := by decide +kernel
theorem dX4_fewestAway_6 : decode cX4_fewestAway 6 = .ok (.iload_n 2, 1) := by decide +kernel
theorem dX4_fewestAway_7 : decode cX4_fewestAway 7 = .ok (.sipush 256, 3) := by decide +kernel
theorem dX4_fewestAway_10 : decode cX4_fewestAway 10 = .ok (.if_icmp .ge 44, 3) := by decide +kernel
theorem dX4_fewestAway_13 : decode cX4_fewestAway 13 = .ok (.iload_n 0, 1) := by decide +kernel
theorem dX4_fewestAway_14 : decode cX4_fewestAway 14 = .ok (.iload_n 2, 1) := by decide +kernel
theorem dX4_fewestAway_15 : decode cX4_fewestAway 15 = .ok (.iload_n 2, 1) := by decide +kernel
theorem dX4_fewestAway_16 : decode cX4_fewestAway 16 = .ok (.iconst 1, 1) := by decide +kernel
theorem dX4_fewestAway_17 : decode cX4_fewestAway 17 = .ok (.ishr, 1) := by decide +kernel
theorem dX4_fewestAway_18 : decode cX4_fewestAway 18 = .ok (.ior, 1) := by decide +kernel
theorem dX4_fewestAway_19 : decode cX4_fewestAway 19 = .ok (.iconst (-1), 1) := by decide +kernel
theorem dX4_fewestAway_20 : decode cX4_fewestAway 20 = .ok (.ixor, 1) := by decide +kernel
theorem dX4_fewestAway_21 : decode cX4_fewestAway 21 = .ok (.iand, 1) := by decide +kernel
theorem dX4_fewestAway_22 : decode cX4_fewestAway 22 = .ok (.ifCond .ne 7, 3) := by decide +kernel
theorem dX4_fewestAway_25 : decode cX4_fewestAway 25 = .ok (.iconst 1, 1) := by decide +kernel
theorem dX4_fewestAway_26 : decode cX4_fewestAway 26 = .ok (.goto 4, 3) := by decide +kernel
theorem dX4_fewestAway_29 : decode cX4_fewestAway 29 = .ok (.iconst 0, 1) := by decide +kernel
theorem dX4_fewestAway_30 : decode cX4_fewestAway 30 = .ok (.istore_n 3, 1) := by decide +kernel
theorem dX4_fewestAway_31 : decode cX4_fewestAway 31 = .ok (.iload_n 3, 1) := by decide +kernel
theorem dX4_fewestAway_32 : decode cX4_fewestAway 32 = .ok (.ifCond .eq 16, 3) := by decide +kernel
theorem dX4_fewestAway_35 : decode cX4_fewestAway 35 = .ok (.iload_n 2, 1) := by decide +kernel
theorem dX4_fewestAway_36 : decode cX4_fewestAway 36 = .ok (.invokestatic 31, 3) := by decide +kernel
theorem dX4_fewestAway_39 : decode cX4_fewestAway 39 = .ok (.iload_n 1, 1) := by decide +kernel
theorem dX4_fewestAway_40 : decode cX4_fewestAway 40 = .ok (.invokestatic 31, 3) := by decide +kernel
theorem dX4_fewestAway_43 : decode cX4_fewestAway 43 = .ok (.if_icmp .ge 5, 3) := by decide +kernel
theorem dX4_fewestAway_46 : decode cX4_fewestAway 46 = .ok (.iload_n 2, 1) := by decide +kernel
theorem dX4_fewestAway_47 : decode cX4_fewestAway 47 = .ok (.istore_n 1, 1) := by decide +kernel
theorem dX4_fewestAway_48 : decode cX4_fewestAway 48 = .ok (.iinc 2 1, 3) := by decide +kernel
theorem dX4_fewestAway_51 : decode cX4_fewestAway 51 = .ok (.goto (-45), 3) := by decide +kernel
theorem dX4_fewestAway_54 : decode cX4_fewestAway 54 = .ok (.iload_n 1, 1) := by decide +kernel
theorem dX4_fewestAway_55 : decode cX4_fewestAway 55 = .ok (.ireturn, 1) := by decide +kernel
theorem dX4_settle_0 : decode cX4_settle 0 = .ok (.aload_n 0, 1) := by decide +kernel
theorem dX4_settle_1 : decode cX4_settle 1 = .ok (.aload_n 2, 1) := by decide +kernel
theorem dX4_settle_2 : decode cX4_settle 2 = .ok (.invokevirtual 37, 3) := by decide +kernel
theorem dX4_settle_5 : decode cX4_settle 5 = .ok (.iconst 0, 1) := by decide +kernel
theorem dX4_settle_6 : decode cX4_settle 6 = .ok (.istore_n 3, 1) := by decide +kernel
theorem dX4_settle_7 : decode cX4_settle 7 = .ok (.iload_n 3, 1) := by decide +kernel
theorem dX4_settle_8 : decode cX4_settle 8 = .ok (.aload_n 0, 1) := by decide +kernel
theorem dX4_settle_9 : decode cX4_settle 9 = .ok (.getfield 41, 3) := by decide +kernel
theorem dX4_settle_12 : decode cX4_settle 12 = .ok (.if_icmp .ge 71, 3) := by decide +kernel
theorem dX4_settle_15 : decode cX4_settle 15 = .ok (.aload_n 0, 1) := by decide +kernel
theorem dX4_settle_16 : decode cX4_settle 16 = .ok (.getfield 18, 3) := by decide +kernel
theorem dX4_settle_19 : decode cX4_settle 19 = .ok (.iload_n 3, 1) := by decide +kernel
theorem dX4_settle_20 : decode cX4_settle 20 = .ok (.iconst 0, 1) := by decide +kernel
theorem dX4_settle_21 : decode cX4_settle 21 = .ok (.iastore, 1) := by decide +kernel
theorem dX4_settle_22 : decode cX4_settle 22 = .ok (.iconst 0, 1) := by decide +kernel
theorem dX4_settle_23 : decode cX4_settle 23 = .ok (.istore 4, 2) := by decide +kernel
theorem dX4_settle_25 : decode cX4_settle 25 = .ok (.iload 4, 2) := by decide +kernel
theorem dX4_settle_27 : decode cX4_settle 27 = .ok (.aload_n 0, 1) := by decide +kernel
theorem dX4_settle_28 : decode cX4_settle 28 = .ok (.getfield 41, 3) := by decide +kernel
theorem dX4_settle_31 : decode cX4_settle 31 = .ok (.if_icmp .ge 46, 3) := by decide +kernel
theorem dX4_settle_34 : decode cX4_settle 34 = .ok (.aload_n 0, 1) := by decide +kernel
theorem dX4_settle_35 : decode cX4_settle 35 = .ok (.getfield 27, 3) := by decide +kernel
theorem dX4_settle_38 : decode cX4_settle 38 = .ok (.iload_n 1, 1) := by decide +kernel
theorem dX4_settle_39 : decode cX4_settle 39 = .ok (.aload_n 0, 1) := by decide +kernel
theorem dX4_settle_40 : decode cX4_settle 40 = .ok (.getfield 9, 3) := by decide +kernel
theorem dX4_settle_43 : decode cX4_settle 43 = .ok (.iload_n 3, 1) := by decide +kernel
theorem dX4_settle_44 : decode cX4_settle 44 = .ok (.iaload, 1) := by decide +kernel
theorem dX4_settle_45 : decode cX4_settle 45 = .ok (.aload_n 0, 1) := by decide +kernel
theorem dX4_settle_46 : decode cX4_settle 46 = .ok (.getfield 9, 3) := by decide +kernel
theorem dX4_settle_49 : decode cX4_settle 49 = .ok (.iload 4, 2) := by decide +kernel
theorem dX4_settle_51 : decode cX4_settle 51 = .ok (.iaload, 1) := by decide +kernel
theorem dX4_settle_52 : decode cX4_settle 52 = .ok (.invokevirtual 45, 3) := by decide +kernel
theorem dX4_settle_55 : decode cX4_settle 55 = .ok (.ifCond .eq 16, 3) := by decide +kernel
theorem dX4_settle_58 : decode cX4_settle 58 = .ok (.aload_n 0, 1) := by decide +kernel
theorem dX4_settle_59 : decode cX4_settle 59 = .ok (.getfield 18, 3) := by decide +kernel
theorem dX4_settle_62 : decode cX4_settle 62 = .ok (.iload_n 3, 1) := by decide +kernel
theorem dX4_settle_63 : decode cX4_settle 63 = .ok (.dup2, 1) := by decide +kernel
theorem dX4_settle_64 : decode cX4_settle 64 = .ok (.iaload, 1) := by decide +kernel
theorem dX4_settle_65 : decode cX4_settle 65 = .ok (.iconst 1, 1) := by decide +kernel
theorem dX4_settle_66 : decode cX4_settle 66 = .ok (.iload 4, 2) := by decide +kernel
theorem dX4_settle_68 : decode cX4_settle 68 = .ok (.ishl, 1) := by decide +kernel
theorem dX4_settle_69 : decode cX4_settle 69 = .ok (.ior, 1) := by decide +kernel
theorem dX4_settle_70 : decode cX4_settle 70 = .ok (.iastore, 1) := by decide +kernel
theorem dX4_settle_71 : decode cX4_settle 71 = .ok (.iinc 4 1, 3) := by decide +kernel
theorem dX4_settle_74 : decode cX4_settle 74 = .ok (.goto (-49), 3) := by decide +kernel
theorem dX4_settle_77 : decode cX4_settle 77 = .ok (.iinc 3 1, 3) := by decide +kernel
theorem dX4_settle_80 : decode cX4_settle 80 = .ok (.goto (-73), 3) := by decide +kernel
theorem dX4_settle_83 : decode cX4_settle 83 = .ok (.return_, 1) := by decide +kernel
theorem dX4_gather_0 : decode cX4_gather 0 = .ok (.aload_n 0, 1) := by decide +kernel
theorem dX4_gather_1 : decode cX4_gather 1 = .ok (.iconst 0, 1) := by decide +kernel
theorem dX4_gather_2 : decode cX4_gather 2 = .ok (.putfield 41, 3) := by decide +kernel
theorem dX4_gather_5 : decode cX4_gather 5 = .ok (.iconst 0, 1) := by decide +kernel
theorem dX4_gather_6 : decode cX4_gather 6 = .ok (.istore_n 2, 1) := by decide +kernel
theorem dX4_gather_7 : decode cX4_gather 7 = .ok (.iload_n 2, 1) := by decide +kernel
theorem dX4_gather_8 : decode cX4_gather 8 = .ok (.aload_n 1, 1) := by decide +kernel
theorem dX4_gather_9 : decode cX4_gather 9 = .ok (.arraylength, 1) := by decide +kernel
theorem dX4_gather_10 : decode cX4_gather 10 = .ok (.if_icmp .ge 53, 3) := by decide +kernel
theorem dX4_gather_13 : decode cX4_gather 13 = .ok (.iload_n 2, 1) := by decide +kernel
theorem dX4_gather_14 : decode cX4_gather 14 = .ok (.bipush 8, 2) := by decide +kernel
theorem dX4_gather_16 : decode cX4_gather 16 = .ok (.if_icmp .ge 47, 3) := by decide +kernel
theorem dX4_gather_19 : decode cX4_gather 19 = .ok (.aload_n 1, 1) := by decide +kernel
theorem dX4_gather_20 : decode cX4_gather 20 = .ok (.iload_n 2, 1) := by decide +kernel
theorem dX4_gather_21 : decode cX4_gather 21 = .ok (.iaload, 1) := by decide +kernel
theorem dX4_gather_22 : decode cX4_gather 22 = .ok (.ifCond .le 35, 3) := by decide +kernel
theorem dX4_gather_25 : decode cX4_gather 25 = .ok (.aload_n 0, 1) := by decide +kernel
theorem dX4_gather_26 : decode cX4_gather 26 = .ok (.getfield 15, 3) := by decide +kernel
theorem dX4_gather_29 : decode cX4_gather 29 = .ok (.aload_n 0, 1) := by decide +kernel
theorem dX4_gather_30 : decode cX4_gather 30 = .ok (.getfield 41, 3) := by decide +kernel
theorem dX4_gather_33 : decode cX4_gather 33 = .ok (.iload_n 2, 1) := by decide +kernel
theorem dX4_gather_34 : decode cX4_gather 34 = .ok (.iastore, 1) := by decide +kernel
theorem dX4_gather_35 : decode cX4_gather 35 = .ok (.aload_n 0, 1) := by decide +kernel
theorem dX4_gather_36 : decode cX4_gather 36 = .ok (.getfield 9, 3) := by decide +kernel
theorem dX4_gather_39 : decode cX4_gather 39 = .ok (.aload_n 0, 1) := by decide +kernel
theorem dX4_gather_40 : decode cX4_gather 40 = .ok (.getfield 41, 3) := by decide +kernel
theorem dX4_gather_43 : decode cX4_gather 43 = .ok (.aload_n 1, 1) := by decide +kernel
theorem dX4_gather_44 : decode cX4_gather 44 = .ok (.iload_n 2, 1) := by decide +kernel
theorem dX4_gather_45 : decode cX4_gather 45 = .ok (.iaload, 1) := by decide +kernel
theorem dX4_gather_46 : decode cX4_gather 46 = .ok (.iastore, 1) := by decide +kernel
theorem dX4_gather_47 : decode cX4_gather 47 = .ok (.aload_n 0, 1) := by decide +kernel
theorem dX4_gather_48 : decode cX4_gather 48 = .ok (.dup, 1) := by decide +kernel
theorem dX4_gather_49 : decode cX4_gather 49 = .ok (.getfield 41, 3) := by decide +kernel
theorem dX4_gather_52 : decode cX4_gather 52 = .ok (.iconst 1, 1) := by decide +kernel
theorem dX4_gather_53 : decode cX4_gather 53 = .ok (.iadd, 1) := by decide +kernel
theorem dX4_gather_54 : decode cX4_gather 54 = .ok (.putfield 41, 3) := by decide +kernel
theorem dX4_gather_57 : decode cX4_gather 57 = .ok (.iinc 2 1, 3) := by decide +kernel
theorem dX4_gather_60 : decode cX4_gather 60 = .ok (.goto (-53), 3) := by decide +kernel
theorem dX4_gather_63 : decode cX4_gather 63 = .ok (.return_, 1) := by decide +kernel
theorem dX4_comers_0 : decode cX4_comers 0 = .ok (.iload_n 1, 1) := by decide +kernel
theorem dX4_comers_1 : decode cX4_comers 1 = .ok (.invokestatic 31, 3) := by decide +kernel
theorem dX4_comers_4 : decode cX4_comers 4 = .ok (.istore_n 3, 1) := by decide +kernel
theorem dX4_comers_5 : decode cX4_comers 5 = .ok (.iconst 1, 1) := by decide +kernel
theorem dX4_comers_6 : decode cX4_comers 6 = .ok (.aload_n 0, 1) := by decide +kernel
theorem dX4_comers_7 : decode cX4_comers 7 = .ok (.getfield 41, 3) := by decide +kernel
theorem dX4_comers_10 : decode cX4_comers 10 = .ok (.ishl, 1) := by decide +kernel
theorem dX4_comers_11 : decode cX4_comers 11 = .ok (.iconst 1, 1) := by decide +kernel
theorem dX4_comers_12 : decode cX4_comers 12 = .ok (.isub, 1) := by decide +kernel
theorem dX4_comers_13 : decode cX4_comers 13 = .ok (.iload_n 1, 1) := by decide +kernel
theorem dX4_comers_14 : decode cX4_comers 14 = .ok (.iconst (-1), 1) := by decide +kernel
theorem dX4_comers_15 : decode cX4_comers 15 = .ok (.ixor, 1) := by decide +kernel
theorem dX4_comers_16 : decode cX4_comers 16 = .ok (.iand, 1) := by decide +kernel
theorem dX4_comers_17 : decode cX4_comers 17 = .ok (.istore 4, 2) := by decide +kernel
theorem dX4_comers_19 : decode cX4_comers 19 = .ok (.iload_n 3, 1) := by decide +kernel
theorem dX4_comers_20 : decode cX4_comers 20 = .ok (.ifCond .le 34, 3) := by decide +kernel
theorem dX4_comers_23 : decode cX4_comers 23 = .ok (.iload_n 3, 1) := by decide +kernel
theorem dX4_comers_24 : decode cX4_comers 24 = .ok (.aload_n 0, 1) := by decide +kernel
theorem dX4_comers_25 : decode cX4_comers 25 = .ok (.getfield 41, 3) := by decide +kernel
theorem dX4_comers_28 : decode cX4_comers 28 = .ok (.if_icmp .ge 26, 3) := by decide +kernel
theorem dX4_comers_31 : decode cX4_comers 31 = .ok (.aload_n 0, 1) := by decide +kernel
theorem dX4_comers_32 : decode cX4_comers 32 = .ok (.getfield 15, 3) := by decide +kernel
theorem dX4_comers_35 : decode cX4_comers 35 = .ok (.iload_n 3, 1) := by decide +kernel
theorem dX4_comers_36 : decode cX4_comers 36 = .ok (.iconst 1, 1) := by decide +kernel
theorem dX4_comers_37 : decode cX4_comers 37 = .ok (.isub, 1) := by decide +kernel
theorem dX4_comers_38 : decode cX4_comers 38 = .ok (.iaload, 1) := by decide +kernel
theorem dX4_comers_39 : decode cX4_comers 39 = .ok (.iconst 1, 1) := by decide +kernel
theorem dX4_comers_40 : decode cX4_comers 40 = .ok (.iadd, 1) := by decide +kernel
theorem dX4_comers_41 : decode cX4_comers 41 = .ok (.aload_n 0, 1) := by decide +kernel
theorem dX4_comers_42 : decode cX4_comers 42 = .ok (.getfield 15, 3) := by decide +kernel
theorem dX4_comers_45 : decode cX4_comers 45 = .ok (.iload_n 3, 1) := by decide +kernel
theorem dX4_comers_46 : decode cX4_comers 46 = .ok (.iaload, 1) := by decide +kernel
theorem dX4_comers_47 : decode cX4_comers 47 = .ok (.if_icmp .ne 7, 3) := by decide +kernel
theorem dX4_comers_50 : decode cX4_comers 50 = .ok (.iconst 1, 1) := by decide +kernel
theorem dX4_comers_51 : decode cX4_comers 51 = .ok (.goto 4, 3) := by decide +kernel
theorem dX4_comers_54 : decode cX4_comers 54 = .ok (.iconst 0, 1) := by decide +kernel
theorem dX4_comers_55 : decode cX4_comers 55 = .ok (.istore 5, 2) := by decide +kernel
theorem dX4_comers_57 : decode cX4_comers 57 = .ok (.iload 5, 2) := by decide +kernel
theorem dX4_comers_59 : decode cX4_comers 59 = .ok (.ifCond .eq 15, 3) := by decide +kernel
theorem dX4_comers_62 : decode cX4_comers 62 = .ok (.iload 4, 2) := by decide +kernel
theorem dX4_comers_64 : decode cX4_comers 64 = .ok (.aload_n 0, 1) := by decide +kernel
theorem dX4_comers_65 : decode cX4_comers 65 = .ok (.getfield 18, 3) := by decide +kernel
theorem dX4_comers_68 : decode cX4_comers 68 = .ok (.iload_n 2, 1) := by decide +kernel
theorem dX4_comers_69 : decode cX4_comers 69 = .ok (.iaload, 1) := by decide +kernel
theorem dX4_comers_70 : decode cX4_comers 70 = .ok (.iand, 1) := by decide +kernel
theorem dX4_comers_71 : decode cX4_comers 71 = .ok (.goto 5, 3) := by decide +kernel
theorem dX4_comers_74 : decode cX4_comers 74 = .ok (.iload 4, 2) := by decide +kernel
theorem dX4_comers_76 : decode cX4_comers 76 = .ok (.ireturn, 1) := by decide +kernel
theorem dX4_countOrders_0 : decode cX4_countOrders 0 = .ok (.iconst 1, 1) := by decide +kernel
theorem dX4_countOrders_1 : decode cX4_countOrders 1 = .ok (.aload_n 0, 1) := by decide +kernel
theorem dX4_countOrders_2 : decode cX4_countOrders 2 = .ok (.getfield 41, 3) := by decide +kernel
theorem dX4_countOrders_5 : decode cX4_countOrders 5 = .ok (.ishl, 1) := by decide +kernel
theorem dX4_countOrders_6 : decode cX4_countOrders 6 = .ok (.iconst 1, 1) := by decide +kernel
theorem dX4_countOrders_7 : decode cX4_countOrders 7 = .ok (.isub, 1) := by decide +kernel
theorem dX4_countOrders_8 : decode cX4_countOrders 8 = .ok (.istore_n 1, 1) := by decide +kernel
theorem dX4_countOrders_9 : decode cX4_countOrders 9 = .ok (.iload_n 1, 1) := by decide +kernel
theorem dX4_countOrders_10 : decode cX4_countOrders 10 = .ok (.istore_n 2, 1) := by decide +kernel
theorem dX4_countOrders_11 : decode cX4_countOrders 11 = .ok (.iload_n 2, 1) := by decide +kernel
theorem dX4_countOrders_12 : decode cX4_countOrders 12 = .ok (.ifCond .le 65, 3) := by decide +kernel
theorem dX4_countOrders_15 : decode cX4_countOrders 15 = .ok (.iconst 0, 1) := by decide +kernel
theorem dX4_countOrders_16 : decode cX4_countOrders 16 = .ok (.istore_n 3, 1) := by decide +kernel
theorem dX4_countOrders_17 : decode cX4_countOrders 17 = .ok (.iload_n 3, 1) := by decide +kernel
theorem dX4_countOrders_18 : decode cX4_countOrders 18 = .ok (.aload_n 0, 1) := by decide +kernel
theorem dX4_countOrders_19 : decode cX4_countOrders 19 = .ok (.getfield 41, 3) := by decide +kernel
theorem dX4_countOrders_22 : decode cX4_countOrders 22 = .ok (.if_icmp .ge 49, 3) := by decide +kernel
theorem dX4_countOrders_25 : decode cX4_countOrders 25 = .ok (.iload_n 2, 1) := by decide +kernel
theorem dX4_countOrders_26 : decode cX4_countOrders 26 = .ok (.iload_n 3, 1) := by decide +kernel
theorem dX4_countOrders_27 : decode cX4_countOrders 27 = .ok (.ishr, 1) := by decide +kernel
theorem dX4_countOrders_28 : decode cX4_countOrders 28 = .ok (.iconst 1, 1) := by decide +kernel
theorem dX4_countOrders_29 : decode cX4_countOrders 29 = .ok (.iand, 1) := by decide +kernel
theorem dX4_countOrders_30 : decode cX4_countOrders 30 = .ok (.iconst 1, 1) := by decide +kernel
theorem dX4_countOrders_31 : decode cX4_countOrders 31 = .ok (.if_icmp .ne 34, 3) := by decide +kernel
theorem dX4_countOrders_34 : decode cX4_countOrders 34 = .ok (.aload_n 0, 1) := by decide +kernel
theorem dX4_countOrders_35 : decode cX4_countOrders 35 = .ok (.getfield 21, 3) := by decide +kernel
theorem dX4_countOrders_38 : decode cX4_countOrders 38 = .ok (.iload_n 2, 1) := by decide +kernel
theorem dX4_countOrders_39 : decode cX4_countOrders 39 = .ok (.bipush 8, 2) := by decide +kernel
theorem dX4_countOrders_41 : decode cX4_countOrders 41 = .ok (.imul, 1) := by decide +kernel
theorem dX4_countOrders_42 : decode cX4_countOrders 42 = .ok (.iload_n 3, 1) := by decide +kernel
theorem dX4_countOrders_43 : decode cX4_countOrders 43 = .ok (.iadd, 1) := by decide +kernel
theorem dX4_countOrders_44 : decode cX4_countOrders 44 = .ok (.iload_n 2, 1) := by decide +kernel
theorem dX4_countOrders_45 : decode cX4_countOrders 45 = .ok (.iload_n 1, 1) := by decide +kernel
theorem dX4_countOrders_46 : decode cX4_countOrders 46 = .ok (.if_icmp .ne 7, 3) := by decide +kernel
theorem dX4_countOrders_49 : decode cX4_countOrders 49 = .ok (.iconst 1, 1) := by decide +kernel
theorem dX4_countOrders_50 : decode cX4_countOrders 50 = .ok (.goto 14, 3) := by decide +kernel
theorem dX4_countOrders_53 : decode cX4_countOrders 53 = .ok (.aload_n 0, 1) := by decide +kernel
theorem dX4_countOrders_54 : decode cX4_countOrders 54 = .ok (.iload_n 2, 1) := by decide +kernel
theorem dX4_countOrders_55 : decode cX4_countOrders 55 = .ok (.aload_n 0, 1) := by decide +kernel
theorem dX4_countOrders_56 : decode cX4_countOrders 56 = .ok (.iload_n 2, 1) := by decide +kernel
theorem dX4_countOrders_57 : decode cX4_countOrders 57 = .ok (.iload_n 3, 1) := by decide +kernel
theorem dX4_countOrders_58 : decode cX4_countOrders 58 = .ok (.invokevirtual 51, 3) := by decide +kernel
theorem dX4_countOrders_61 : decode cX4_countOrders 61 = .ok (.invokevirtual 55, 3) := by decide +kernel
theorem dX4_countOrders_64 : decode cX4_countOrders 64 = .ok (.iastore, 1) := by decide +kernel
theorem dX4_countOrders_65 : decode cX4_countOrders 65 = .ok (.iinc 3 1, 3) := by decide +kernel
theorem dX4_countOrders_68 : decode cX4_countOrders 68 = .ok (.goto (-51), 3) := by decide +kernel
theorem dX4_countOrders_71 : decode cX4_countOrders 71 = .ok (.iinc 2 (-1), 3) := by decide +kernel
theorem dX4_countOrders_74 : decode cX4_countOrders 74 = .ok (.goto (-63), 3) := by decide +kernel
theorem dX4_countOrders_77 : decode cX4_countOrders 77 = .ok (.iload_n 1, 1) := by decide +kernel
theorem dX4_countOrders_78 : decode cX4_countOrders 78 = .ok (.ifCond .ne 7, 3) := by decide +kernel
theorem dX4_countOrders_81 : decode cX4_countOrders 81 = .ok (.iconst 1, 1) := by decide +kernel
theorem dX4_countOrders_82 : decode cX4_countOrders 82 = .ok (.goto 14, 3) := by decide +kernel
theorem dX4_countOrders_85 : decode cX4_countOrders 85 = .ok (.aload_n 0, 1) := by decide +kernel
theorem dX4_countOrders_86 : decode cX4_countOrders 86 = .ok (.iconst 0, 1) := by decide +kernel
theorem dX4_countOrders_87 : decode cX4_countOrders 87 = .ok (.aload_n 0, 1) := by decide +kernel
theorem dX4_countOrders_88 : decode cX4_countOrders 88 = .ok (.iconst 0, 1) := by decide +kernel
theorem dX4_countOrders_89 : decode cX4_countOrders 89 = .ok (.iconst 0, 1) := by decide +kernel
theorem dX4_countOrders_90 : decode cX4_countOrders 90 = .ok (.invokevirtual 51, 3) := by decide +kernel
theorem dX4_countOrders_93 : decode cX4_countOrders 93 = .ok (.invokevirtual 55, 3) := by decide +kernel
theorem dX4_countOrders_96 : decode cX4_countOrders 96 = .ok (.ireturn, 1) := by decide +kernel
theorem dX4_sumOver_0 : decode cX4_sumOver 0 = .ok (.iconst 0, 1) := by decide +kernel
theorem dX4_sumOver_1 : decode cX4_sumOver 1 = .ok (.istore_n 3, 1) := by decide +kernel
theorem dX4_sumOver_2 : decode cX4_sumOver 2 = .ok (.iconst 0, 1) := by decide +kernel
theorem dX4_sumOver_3 : decode cX4_sumOver 3 = .ok (.istore 4, 2) := by decide +kernel
theorem dX4_sumOver_5 : decode cX4_sumOver 5 = .ok (.iload 4, 2) := by decide +kernel
theorem dX4_sumOver_7 : decode cX4_sumOver 7 = .ok (.aload_n 0, 1) := by decide +kernel
theorem dX4_sumOver_8 : decode cX4_sumOver 8 = .ok (.getfield 41, 3) := by decide +kernel
theorem dX4_sumOver_11 : decode cX4_sumOver 11 = .ok (.if_icmp .ge 39, 3) := by decide +kernel
theorem dX4_sumOver_14 : decode cX4_sumOver 14 = .ok (.iload_n 2, 1) := by decide +kernel
theorem dX4_sumOver_15 : decode cX4_sumOver 15 = .ok (.iload 4, 2) := by decide +kernel
theorem dX4_sumOver_17 : decode cX4_sumOver 17 = .ok (.ishr, 1) := by decide +kernel
theorem dX4_sumOver_18 : decode cX4_sumOver 18 = .ok (.iconst 1, 1) := by decide +kernel
theorem dX4_sumOver_19 : decode cX4_sumOver 19 = .ok (.iand, 1) := by decide +kernel
theorem dX4_sumOver_20 : decode cX4_sumOver 20 = .ok (.iconst 1, 1) := by decide +kernel
theorem dX4_sumOver_21 : decode cX4_sumOver 21 = .ok (.if_icmp .ne 23, 3) := by decide +kernel
theorem dX4_sumOver_24 : decode cX4_sumOver 24 = .ok (.iload_n 3, 1) := by decide +kernel
theorem dX4_sumOver_25 : decode cX4_sumOver 25 = .ok (.aload_n 0, 1) := by decide +kernel
theorem dX4_sumOver_26 : decode cX4_sumOver 26 = .ok (.getfield 21, 3) := by decide +kernel
theorem dX4_sumOver_29 : decode cX4_sumOver 29 = .ok (.iload_n 1, 1) := by decide +kernel
theorem dX4_sumOver_30 : decode cX4_sumOver 30 = .ok (.iconst 1, 1) := by decide +kernel
theorem dX4_sumOver_31 : decode cX4_sumOver 31 = .ok (.iload 4, 2) := by decide +kernel
theorem dX4_sumOver_33 : decode cX4_sumOver 33 = .ok (.ishl, 1) := by decide +kernel
theorem dX4_sumOver_34 : decode cX4_sumOver 34 = .ok (.ior, 1) := by decide +kernel
theorem dX4_sumOver_35 : decode cX4_sumOver 35 = .ok (.bipush 8, 2) := by decide +kernel
theorem dX4_sumOver_37 : decode cX4_sumOver 37 = .ok (.imul, 1) := by decide +kernel
theorem dX4_sumOver_38 : decode cX4_sumOver 38 = .ok (.iload 4, 2) := by decide +kernel
theorem dX4_sumOver_40 : decode cX4_sumOver 40 = .ok (.iadd, 1) := by decide +kernel
theorem dX4_sumOver_41 : decode cX4_sumOver 41 = .ok (.iaload, 1) := by decide +kernel
theorem dX4_sumOver_42 : decode cX4_sumOver 42 = .ok (.iadd, 1) := by decide +kernel
theorem dX4_sumOver_43 : decode cX4_sumOver 43 = .ok (.istore_n 3, 1) := by decide +kernel
theorem dX4_sumOver_44 : decode cX4_sumOver 44 = .ok (.iinc 4 1, 3) := by decide +kernel
theorem dX4_sumOver_47 : decode cX4_sumOver 47 = .ok (.goto (-42), 3) := by decide +kernel
theorem dX4_sumOver_50 : decode cX4_sumOver 50 = .ok (.iload_n 3, 1) := by decide +kernel
theorem dX4_sumOver_51 : decode cX4_sumOver 51 = .ok (.ireturn, 1) := by decide +kernel
theorem dX4_inFirstOrder_0 : decode cX4_inFirstOrder 0 = .ok (.iconst 0, 1) := by decide +kernel
theorem dX4_inFirstOrder_1 : decode cX4_inFirstOrder 1 = .ok (.istore_n 2, 1) := by decide +kernel
theorem dX4_inFirstOrder_2 : decode cX4_inFirstOrder 2 = .ok (.iconst 0, 1) := by decide +kernel
theorem dX4_inFirstOrder_3 : decode cX4_inFirstOrder 3 = .ok (.istore_n 3, 1) := by decide +kernel
theorem dX4_inFirstOrder_4 : decode cX4_inFirstOrder 4 = .ok (.iconst 0, 1) := by decide +kernel
theorem dX4_inFirstOrder_5 : decode cX4_inFirstOrder 5 = .ok (.istore 4, 2) := by decide +kernel
theorem dX4_inFirstOrder_7 : decode cX4_inFirstOrder 7 = .ok (.iload 4, 2) := by decide +kernel
theorem dX4_inFirstOrder_9 : decode cX4_inFirstOrder 9 = .ok (.aload_n 0, 1) := by decide +kernel
theorem dX4_inFirstOrder_10 : decode cX4_inFirstOrder 10 = .ok (.getfield 41, 3) := by decide +kernel
theorem dX4_inFirstOrder_13 : decode cX4_inFirstOrder 13 = .ok (.if_icmp .ge 45, 3) := by decide +kernel
theorem dX4_inFirstOrder_16 : decode cX4_inFirstOrder 16 = .ok (.aload_n 0, 1) := by decide +kernel
theorem dX4_inFirstOrder_17 : decode cX4_inFirstOrder 17 = .ok (.iload_n 2, 1) := by decide +kernel
theorem dX4_inFirstOrder_18 : decode cX4_inFirstOrder 18 = .ok (.aload_n 0, 1) := by decide +kernel
theorem dX4_inFirstOrder_19 : decode cX4_inFirstOrder 19 = .ok (.iload_n 2, 1) := by decide +kernel
theorem dX4_inFirstOrder_20 : decode cX4_inFirstOrder 20 = .ok (.iload_n 3, 1) := by decide +kernel
theorem dX4_inFirstOrder_21 : decode cX4_inFirstOrder 21 = .ok (.invokevirtual 51, 3) := by decide +kernel
theorem dX4_inFirstOrder_24 : decode cX4_inFirstOrder 24 = .ok (.invokevirtual 58, 3) := by decide +kernel
theorem dX4_inFirstOrder_27 : decode cX4_inFirstOrder 27 = .ok (.istore_n 3, 1) := by decide +kernel
theorem dX4_inFirstOrder_28 : decode cX4_inFirstOrder 28 = .ok (.iload_n 2, 1) := by decide +kernel
theorem dX4_inFirstOrder_29 : decode cX4_inFirstOrder 29 = .ok (.iconst 1, 1) := by decide +kernel
theorem dX4_inFirstOrder_30 : decode cX4_inFirstOrder 30 = .ok (.iload_n 3, 1) := by decide +kernel
theorem dX4_inFirstOrder_31 : decode cX4_inFirstOrder 31 = .ok (.ishl, 1) := by decide +kernel
theorem dX4_inFirstOrder_32 : decode cX4_inFirstOrder 32 = .ok (.ior, 1) := by decide +kernel
theorem dX4_inFirstOrder_33 : decode cX4_inFirstOrder 33 = .ok (.istore_n 2, 1) := by decide +kernel
theorem dX4_inFirstOrder_34 : decode cX4_inFirstOrder 34 = .ok (.aload_n 0, 1) := by decide +kernel
theorem dX4_inFirstOrder_35 : decode cX4_inFirstOrder 35 = .ok (.getfield 15, 3) := by decide +kernel
theorem dX4_inFirstOrder_38 : decode cX4_inFirstOrder 38 = .ok (.iload 4, 2) := by decide +kernel
theorem dX4_inFirstOrder_40 : decode cX4_inFirstOrder 40 = .ok (.iaload, 1) := by decide +kernel
theorem dX4_inFirstOrder_41 : decode cX4_inFirstOrder 41 = .ok (.iload_n 1, 1) := by decide +kernel
theorem dX4_inFirstOrder_42 : decode cX4_inFirstOrder 42 = .ok (.if_icmp .ne 10, 3) := by decide +kernel
theorem dX4_inFirstOrder_45 : decode cX4_inFirstOrder 45 = .ok (.aload_n 0, 1) := by decide +kernel
theorem dX4_inFirstOrder_46 : decode cX4_inFirstOrder 46 = .ok (.getfield 9, 3) := by decide +kernel
theorem dX4_inFirstOrder_49 : decode cX4_inFirstOrder 49 = .ok (.iload_n 3, 1) := by decide +kernel
theorem dX4_inFirstOrder_50 : decode cX4_inFirstOrder 50 = .ok (.iaload, 1) := by decide +kernel
theorem dX4_inFirstOrder_51 : decode cX4_inFirstOrder 51 = .ok (.ireturn, 1) := by decide +kernel
theorem dX4_inFirstOrder_52 : decode cX4_inFirstOrder 52 = .ok (.iinc 4 1, 3) := by decide +kernel
theorem dX4_inFirstOrder_55 : decode cX4_inFirstOrder 55 = .ok (.goto (-48), 3) := by decide +kernel
theorem dX4_inFirstOrder_58 : decode cX4_inFirstOrder 58 = .ok (.iconst 0, 1) := by decide +kernel
theorem dX4_inFirstOrder_59 : decode cX4_inFirstOrder 59 = .ok (.ireturn, 1) := by decide +kernel
theorem dX4_firstComer_0 : decode cX4_firstComer 0 = .ok (.iconst 0, 1) := by decide +kernel
theorem dX4_firstComer_1 : decode cX4_firstComer 1 = .ok (.istore_n 3, 1) := by decide +kernel
theorem dX4_firstComer_2 : decode cX4_firstComer 2 = .ok (.iload_n 3, 1) := by decide +kernel
theorem dX4_firstComer_3 : decode cX4_firstComer 3 = .ok (.aload_n 0, 1) := by decide +kernel
theorem dX4_firstComer_4 : decode cX4_firstComer 4 = .ok (.getfield 41, 3) := by decide +kernel
theorem dX4_firstComer_7 : decode cX4_firstComer 7 = .ok (.if_icmp .ge 38, 3) := by decide +kernel
theorem dX4_firstComer_10 : decode cX4_firstComer 10 = .ok (.iload_n 2, 1) := by decide +kernel
theorem dX4_firstComer_11 : decode cX4_firstComer 11 = .ok (.iload_n 3, 1) := by decide +kernel
theorem dX4_firstComer_12 : decode cX4_firstComer 12 = .ok (.ishr, 1) := by decide +kernel
theorem dX4_firstComer_13 : decode cX4_firstComer 13 = .ok (.iconst 1, 1) := by decide +kernel
theorem dX4_firstComer_14 : decode cX4_firstComer 14 = .ok (.iand, 1) := by decide +kernel
theorem dX4_firstComer_15 : decode cX4_firstComer 15 = .ok (.iconst 1, 1) := by decide +kernel
theorem dX4_firstComer_16 : decode cX4_firstComer 16 = .ok (.if_icmp .ne 23, 3) := by decide +kernel
theorem dX4_firstComer_19 : decode cX4_firstComer 19 = .ok (.aload_n 0, 1) := by decide +kernel
theorem dX4_firstComer_20 : decode cX4_firstComer 20 = .ok (.getfield 21, 3) := by decide +kernel
theorem dX4_firstComer_23 : decode cX4_firstComer 23 = .ok (.iload_n 1, 1) := by decide +kernel
theorem dX4_firstComer_24 : decode cX4_firstComer 24 = .ok (.iconst 1, 1) := by decide +kernel
theorem dX4_firstComer_25 : decode cX4_firstComer 25 = .ok (.iload_n 3, 1) := by decide +kernel
theorem dX4_firstComer_26 : decode cX4_firstComer 26 = .ok (.ishl, 1) := by decide +kernel
theorem dX4_firstComer_27 : decode cX4_firstComer 27 = .ok (.ior, 1) := by decide +kernel
theorem dX4_firstComer_28 : decode cX4_firstComer 28 = .ok (.bipush 8, 2) := by decide +kernel
theorem dX4_firstComer_30 : decode cX4_firstComer 30 = .ok (.imul, 1) := by decide +kernel
theorem dX4_firstComer_31 : decode cX4_firstComer 31 = .ok (.iload_n 3, 1) := by decide +kernel
theorem dX4_firstComer_32 : decode cX4_firstComer 32 = .ok (.iadd, 1) := by decide +kernel
theorem dX4_firstComer_33 : decode cX4_firstComer 33 = .ok (.iaload, 1) := by decide +kernel
theorem dX4_firstComer_34 : decode cX4_firstComer 34 = .ok (.ifCond .le 5, 3) := by decide +kernel
theorem dX4_firstComer_37 : decode cX4_firstComer 37 = .ok (.iload_n 3, 1) := by decide +kernel
theorem dX4_firstComer_38 : decode cX4_firstComer 38 = .ok (.ireturn, 1) := by decide +kernel
theorem dX4_firstComer_39 : decode cX4_firstComer 39 = .ok (.iinc 3 1, 3) := by decide +kernel
theorem dX4_firstComer_42 : decode cX4_firstComer 42 = .ok (.goto (-40), 3) := by decide +kernel
theorem dX4_firstComer_45 : decode cX4_firstComer 45 = .ok (.iconst 0, 1) := by decide +kernel
theorem dX4_firstComer_46 : decode cX4_firstComer 46 = .ok (.ireturn, 1) := by decide +kernel
theorem dX4_leastMoved_0 : decode cX4_leastMoved 0 = .ok (.iconst 1, 1) := by decide +kernel
theorem dX4_leastMoved_1 : decode cX4_leastMoved 1 = .ok (.aload_n 0, 1) := by decide +kernel
theorem dX4_leastMoved_2 : decode cX4_leastMoved 2 = .ok (.getfield 41, 3) := by decide +kernel
theorem dX4_leastMoved_5 : decode cX4_leastMoved 5 = .ok (.ishl, 1) := by decide +kernel
theorem dX4_leastMoved_6 : decode cX4_leastMoved 6 = .ok (.iconst 1, 1) := by decide +kernel
theorem dX4_leastMoved_7 : decode cX4_leastMoved 7 = .ok (.isub, 1) := by decide +kernel
theorem dX4_leastMoved_8 : decode cX4_leastMoved 8 = .ok (.istore_n 1, 1) := by decide +kernel
theorem dX4_leastMoved_9 : decode cX4_leastMoved 9 = .ok (.iload_n 1, 1) := by decide +kernel
theorem dX4_leastMoved_10 : decode cX4_leastMoved 10 = .ok (.istore_n 2, 1) := by decide +kernel
theorem dX4_leastMoved_11 : decode cX4_leastMoved 11 = .ok (.iload_n 2, 1) := by decide +kernel
theorem dX4_leastMoved_12 : decode cX4_leastMoved 12 = .ok (.ifCond .le 65, 3) := by decide +kernel
theorem dX4_leastMoved_15 : decode cX4_leastMoved 15 = .ok (.iconst 0, 1) := by decide +kernel
theorem dX4_leastMoved_16 : decode cX4_leastMoved 16 = .ok (.istore_n 3, 1) := by decide +kernel
theorem dX4_leastMoved_17 : decode cX4_leastMoved 17 = .ok (.iload_n 3, 1) := by decide +kernel
theorem dX4_leastMoved_18 : decode cX4_leastMoved 18 = .ok (.aload_n 0, 1) := by decide +kernel
theorem dX4_leastMoved_19 : decode cX4_leastMoved 19 = .ok (.getfield 41, 3) := by decide +kernel
theorem dX4_leastMoved_22 : decode cX4_leastMoved 22 = .ok (.if_icmp .ge 49, 3) := by decide +kernel
theorem dX4_leastMoved_25 : decode cX4_leastMoved 25 = .ok (.iload_n 2, 1) := by decide +kernel
theorem dX4_leastMoved_26 : decode cX4_leastMoved 26 = .ok (.iload_n 3, 1) := by decide +kernel
theorem dX4_leastMoved_27 : decode cX4_leastMoved 27 = .ok (.ishr, 1) := by decide +kernel
theorem dX4_leastMoved_28 : decode cX4_leastMoved 28 = .ok (.iconst 1, 1) := by decide +kernel
theorem dX4_leastMoved_29 : decode cX4_leastMoved 29 = .ok (.iand, 1) := by decide +kernel
theorem dX4_leastMoved_30 : decode cX4_leastMoved 30 = .ok (.iconst 1, 1) := by decide +kernel
theorem dX4_leastMoved_31 : decode cX4_leastMoved 31 = .ok (.if_icmp .ne 34, 3) := by decide +kernel
theorem dX4_leastMoved_34 : decode cX4_leastMoved 34 = .ok (.aload_n 0, 1) := by decide +kernel
theorem dX4_leastMoved_35 : decode cX4_leastMoved 35 = .ok (.getfield 21, 3) := by decide +kernel
theorem dX4_leastMoved_38 : decode cX4_leastMoved 38 = .ok (.iload_n 2, 1) := by decide +kernel
theorem dX4_leastMoved_39 : decode cX4_leastMoved 39 = .ok (.bipush 8, 2) := by decide +kernel
theorem dX4_leastMoved_41 : decode cX4_leastMoved 41 = .ok (.imul, 1) := by decide +kernel
theorem dX4_leastMoved_42 : decode cX4_leastMoved 42 = .ok (.iload_n 3, 1) := by decide +kernel
theorem dX4_leastMoved_43 : decode cX4_leastMoved 43 = .ok (.iadd, 1) := by decide +kernel
theorem dX4_leastMoved_44 : decode cX4_leastMoved 44 = .ok (.iload_n 2, 1) := by decide +kernel
theorem dX4_leastMoved_45 : decode cX4_leastMoved 45 = .ok (.iload_n 1, 1) := by decide +kernel
theorem dX4_leastMoved_46 : decode cX4_leastMoved 46 = .ok (.if_icmp .ne 7, 3) := by decide +kernel
theorem dX4_leastMoved_49 : decode cX4_leastMoved 49 = .ok (.iconst 0, 1) := by decide +kernel
theorem dX4_leastMoved_50 : decode cX4_leastMoved 50 = .ok (.goto 14, 3) := by decide +kernel
theorem dX4_leastMoved_53 : decode cX4_leastMoved 53 = .ok (.aload_n 0, 1) := by decide +kernel
theorem dX4_leastMoved_54 : decode cX4_leastMoved 54 = .ok (.iload_n 2, 1) := by decide +kernel
theorem dX4_leastMoved_55 : decode cX4_leastMoved 55 = .ok (.aload_n 0, 1) := by decide +kernel
theorem dX4_leastMoved_56 : decode cX4_leastMoved 56 = .ok (.iload_n 2, 1) := by decide +kernel
theorem dX4_leastMoved_57 : decode cX4_leastMoved 57 = .ok (.iload_n 3, 1) := by decide +kernel
theorem dX4_leastMoved_58 : decode cX4_leastMoved 58 = .ok (.invokevirtual 51, 3) := by decide +kernel
theorem dX4_leastMoved_61 : decode cX4_leastMoved 61 = .ok (.invokevirtual 61, 3) := by decide +kernel
theorem dX4_leastMoved_64 : decode cX4_leastMoved 64 = .ok (.iastore, 1) := by decide +kernel
theorem dX4_leastMoved_65 : decode cX4_leastMoved 65 = .ok (.iinc 3 1, 3) := by decide +kernel
theorem dX4_leastMoved_68 : decode cX4_leastMoved 68 = .ok (.goto (-51), 3) := by decide +kernel
theorem dX4_leastMoved_71 : decode cX4_leastMoved 71 = .ok (.iinc 2 (-1), 3) := by decide +kernel
theorem dX4_leastMoved_74 : decode cX4_leastMoved 74 = .ok (.goto (-63), 3) := by decide +kernel
theorem dX4_leastMoved_77 : decode cX4_leastMoved 77 = .ok (.iload_n 1, 1) := by decide +kernel
theorem dX4_leastMoved_78 : decode cX4_leastMoved 78 = .ok (.ifCond .ne 7, 3) := by decide +kernel
theorem dX4_leastMoved_81 : decode cX4_leastMoved 81 = .ok (.iconst 0, 1) := by decide +kernel
theorem dX4_leastMoved_82 : decode cX4_leastMoved 82 = .ok (.goto 14, 3) := by decide +kernel
theorem dX4_leastMoved_85 : decode cX4_leastMoved 85 = .ok (.aload_n 0, 1) := by decide +kernel
theorem dX4_leastMoved_86 : decode cX4_leastMoved 86 = .ok (.iconst 0, 1) := by decide +kernel
theorem dX4_leastMoved_87 : decode cX4_leastMoved 87 = .ok (.aload_n 0, 1) := by decide +kernel
theorem dX4_leastMoved_88 : decode cX4_leastMoved 88 = .ok (.iconst 0, 1) := by decide +kernel
theorem dX4_leastMoved_89 : decode cX4_leastMoved 89 = .ok (.iconst 0, 1) := by decide +kernel
theorem dX4_leastMoved_90 : decode cX4_leastMoved 90 = .ok (.invokevirtual 51, 3) := by decide +kernel
theorem dX4_leastMoved_93 : decode cX4_leastMoved 93 = .ok (.invokevirtual 61, 3) := by decide +kernel
theorem dX4_leastMoved_96 : decode cX4_leastMoved 96 = .ok (.ireturn, 1) := by decide +kernel
theorem dX4_leastOver_0 : decode cX4_leastOver 0 = .ok (.iload_n 1, 1) := by decide +kernel
theorem dX4_leastOver_1 : decode cX4_leastOver 1 = .ok (.invokestatic 31, 3) := by decide +kernel
theorem dX4_leastOver_4 : decode cX4_leastOver 4 = .ok (.istore_n 3, 1) := by decide +kernel
theorem dX4_leastOver_5 : decode cX4_leastOver 5 = .ok (.iconst (-1), 1) := by decide +kernel
theorem dX4_leastOver_6 : decode cX4_leastOver 6 = .ok (.istore 4, 2) := by decide +kernel
theorem dX4_leastOver_8 : decode cX4_leastOver 8 = .ok (.iconst 0, 1) := by decide +kernel
theorem dX4_leastOver_9 : decode cX4_leastOver 9 = .ok (.istore 5, 2) := by decide +kernel
theorem dX4_leastOver_11 : decode cX4_leastOver 11 = .ok (.iload 5, 2) := by decide +kernel
theorem dX4_leastOver_13 : decode cX4_leastOver 13 = .ok (.aload_n 0, 1) := by decide +kernel
theorem dX4_leastOver_14 : decode cX4_leastOver 14 = .ok (.getfield 41, 3) := by decide +kernel
theorem dX4_leastOver_17 : decode cX4_leastOver 17 = .ok (.if_icmp .ge 85, 3) := by decide +kernel
theorem dX4_leastOver_20 : decode cX4_leastOver 20 = .ok (.iload_n 2, 1) := by decide +kernel
theorem dX4_leastOver_21 : decode cX4_leastOver 21 = .ok (.iload 5, 2) := by decide +kernel
theorem dX4_leastOver_23 : decode cX4_leastOver 23 = .ok (.ishr, 1) := by decide +kernel
theorem dX4_leastOver_24 : decode cX4_leastOver 24 = .ok (.iconst 1, 1) := by decide +kernel
theorem dX4_leastOver_25 : decode cX4_leastOver 25 = .ok (.iand, 1) := by decide +kernel
theorem dX4_leastOver_26 : decode cX4_leastOver 26 = .ok (.iconst 1, 1) := by decide +kernel
theorem dX4_leastOver_27 : decode cX4_leastOver 27 = .ok (.if_icmp .ne 23, 3) := by decide +kernel
theorem dX4_leastOver_30 : decode cX4_leastOver 30 = .ok (.aload_n 0, 1) := by decide +kernel
theorem dX4_leastOver_31 : decode cX4_leastOver 31 = .ok (.getfield 21, 3) := by decide +kernel
theorem dX4_leastOver_34 : decode cX4_leastOver 34 = .ok (.iload_n 1, 1) := by decide +kernel
theorem dX4_leastOver_35 : decode cX4_leastOver 35 = .ok (.iconst 1, 1) := by decide +kernel
theorem dX4_leastOver_36 : decode cX4_leastOver 36 = .ok (.iload 5, 2) := by decide +kernel
theorem dX4_leastOver_38 : decode cX4_leastOver 38 = .ok (.ishl, 1) := by decide +kernel
theorem dX4_leastOver_39 : decode cX4_leastOver 39 = .ok (.ior, 1) := by decide +kernel
theorem dX4_leastOver_40 : decode cX4_leastOver 40 = .ok (.bipush 8, 2) := by decide +kernel
theorem dX4_leastOver_42 : decode cX4_leastOver 42 = .ok (.imul, 1) := by decide +kernel
theorem dX4_leastOver_43 : decode cX4_leastOver 43 = .ok (.iload 5, 2) := by decide +kernel
theorem dX4_leastOver_45 : decode cX4_leastOver 45 = .ok (.iadd, 1) := by decide +kernel
theorem dX4_leastOver_46 : decode cX4_leastOver 46 = .ok (.iaload, 1) := by decide +kernel
theorem dX4_leastOver_47 : decode cX4_leastOver 47 = .ok (.goto 4, 3) := by decide +kernel
theorem dX4_leastOver_50 : decode cX4_leastOver 50 = .ok (.iconst (-1), 1) := by decide +kernel
theorem dX4_leastOver_51 : decode cX4_leastOver 51 = .ok (.istore 6, 2) := by decide +kernel
theorem dX4_leastOver_53 : decode cX4_leastOver 53 = .ok (.iload 6, 2) := by decide +kernel
theorem dX4_leastOver_55 : decode cX4_leastOver 55 = .ok (.iconst (-1), 1) := by decide +kernel
theorem dX4_leastOver_56 : decode cX4_leastOver 56 = .ok (.if_icmp .eq 40, 3) := by decide +kernel
theorem dX4_leastOver_59 : decode cX4_leastOver 59 = .ok (.iload 5, 2) := by decide +kernel
theorem dX4_leastOver_61 : decode cX4_leastOver 61 = .ok (.iload_n 3, 1) := by decide +kernel
theorem dX4_leastOver_62 : decode cX4_leastOver 62 = .ok (.if_icmp .ne 8, 3) := by decide +kernel
theorem dX4_leastOver_65 : decode cX4_leastOver 65 = .ok (.iload 6, 2) := by decide +kernel
theorem dX4_leastOver_67 : decode cX4_leastOver 67 = .ok (.goto 7, 3) := by decide +kernel
theorem dX4_leastOver_70 : decode cX4_leastOver 70 = .ok (.iload 6, 2) := by decide +kernel
theorem dX4_leastOver_72 : decode cX4_leastOver 72 = .ok (.iconst 1, 1) := by decide +kernel
theorem dX4_leastOver_73 : decode cX4_leastOver 73 = .ok (.iadd, 1) := by decide +kernel
theorem dX4_leastOver_74 : decode cX4_leastOver 74 = .ok (.istore 7, 2) := by decide +kernel
theorem dX4_leastOver_76 : decode cX4_leastOver 76 = .ok (.iload 4, 2) := by decide +kernel
theorem dX4_leastOver_78 : decode cX4_leastOver 78 = .ok (.iconst (-1), 1) := by decide +kernel
theorem dX4_leastOver_79 : decode cX4_leastOver 79 = .ok (.if_icmp .ne 8, 3) := by decide +kernel
theorem dX4_leastOver_82 : decode cX4_leastOver 82 = .ok (.iload 7, 2) := by decide +kernel
theorem dX4_leastOver_84 : decode cX4_leastOver 84 = .ok (.goto 10, 3) := by decide +kernel
theorem dX4_leastOver_87 : decode cX4_leastOver 87 = .ok (.iload 4, 2) := by decide +kernel
theorem dX4_leastOver_89 : decode cX4_leastOver 89 = .ok (.iload 7, 2) := by decide +kernel
theorem dX4_leastOver_91 : decode cX4_leastOver 91 = .ok (.invokestatic 64, 3) := by decide +kernel
theorem dX4_leastOver_94 : decode cX4_leastOver 94 = .ok (.istore 4, 2) := by decide +kernel
theorem dX4_leastOver_96 : decode cX4_leastOver 96 = .ok (.iinc 5 1, 3) := by decide +kernel
theorem dX4_leastOver_99 : decode cX4_leastOver 99 = .ok (.goto (-88), 3) := by decide +kernel
theorem dX4_leastOver_102 : decode cX4_leastOver 102 = .ok (.iload 4, 2) := by decide +kernel
theorem dX4_leastOver_104 : decode cX4_leastOver 104 = .ok (.ireturn, 1) := by decide +kernel
theorem dX4_settleApart_0 : decode cX4_settleApart 0 = .ok (.aload_n 0, 1) := by decide +kernel
theorem dX4_settleApart_1 : decode cX4_settleApart 1 = .ok (.iconst 0, 1) := by decide +kernel
theorem dX4_settleApart_2 : decode cX4_settleApart 2 = .ok (.aload_n 1, 1) := by decide +kernel
theorem dX4_settleApart_3 : decode cX4_settleApart 3 = .ok (.invokevirtual 69, 3) := by decide +kernel
theorem dX4_settleApart_6 : decode cX4_settleApart 6 = .ok (.iconst 0, 1) := by decide +kernel
theorem dX4_settleApart_7 : decode cX4_settleApart 7 = .ok (.istore_n 2, 1) := by decide +kernel
theorem dX4_settleApart_8 : decode cX4_settleApart 8 = .ok (.iload_n 2, 1) := by decide +kernel
theorem dX4_settleApart_9 : decode cX4_settleApart 9 = .ok (.aload_n 0, 1) := by decide +kernel
theorem dX4_settleApart_10 : decode cX4_settleApart 10 = .ok (.getfield 41, 3) := by decide +kernel
theorem dX4_settleApart_13 : decode cX4_settleApart 13 = .ok (.if_icmp .ge 54, 3) := by decide +kernel
theorem dX4_settleApart_16 : decode cX4_settleApart 16 = .ok (.iconst 0, 1) := by decide +kernel
theorem dX4_settleApart_17 : decode cX4_settleApart 17 = .ok (.istore_n 3, 1) := by decide +kernel
theorem dX4_settleApart_18 : decode cX4_settleApart 18 = .ok (.iload_n 3, 1) := by decide +kernel
theorem dX4_settleApart_19 : decode cX4_settleApart 19 = .ok (.aload_n 0, 1) := by decide +kernel
theorem dX4_settleApart_20 : decode cX4_settleApart 20 = .ok (.getfield 41, 3) := by decide +kernel
theorem dX4_settleApart_23 : decode cX4_settleApart 23 = .ok (.if_icmp .ge 38, 3) := by decide +kernel
theorem dX4_settleApart_26 : decode cX4_settleApart 26 = .ok (.aload_n 0, 1) := by decide +kernel
theorem dX4_settleApart_27 : decode cX4_settleApart 27 = .ok (.getfield 9, 3) := by decide +kernel
theorem dX4_settleApart_30 : decode cX4_settleApart 30 = .ok (.iload_n 2, 1) := by decide +kernel
theorem dX4_settleApart_31 : decode cX4_settleApart 31 = .ok (.iaload, 1) := by decide +kernel
theorem dX4_settleApart_32 : decode cX4_settleApart 32 = .ok (.aload_n 0, 1) := by decide +kernel
theorem dX4_settleApart_33 : decode cX4_settleApart 33 = .ok (.getfield 9, 3) := by decide +kernel
theorem dX4_settleApart_36 : decode cX4_settleApart 36 = .ok (.iload_n 3, 1) := by decide +kernel
theorem dX4_settleApart_37 : decode cX4_settleApart 37 = .ok (.iaload, 1) := by decide +kernel
theorem dX4_settleApart_38 : decode cX4_settleApart 38 = .ok (.if_icmp .ne 17, 3) := by decide +kernel
theorem dX4_settleApart_41 : decode cX4_settleApart 41 = .ok (.aload_n 0, 1) := by decide +kernel
theorem dX4_settleApart_42 : decode cX4_settleApart 42 = .ok (.getfield 18, 3) := by decide +kernel
theorem dX4_settleApart_45 : decode cX4_settleApart 45 = .ok (.iload_n 2, 1) := by decide +kernel
theorem dX4_settleApart_46 : decode cX4_settleApart 46 = .ok (.dup2, 1) := by decide +kernel
theorem dX4_settleApart_47 : decode cX4_settleApart 47 = .ok (.iaload, 1) := by decide +kernel
theorem dX4_settleApart_48 : decode cX4_settleApart 48 = .ok (.iconst 1, 1) := by decide +kernel
theorem dX4_settleApart_49 : decode cX4_settleApart 49 = .ok (.iload_n 3, 1) := by decide +kernel
theorem dX4_settleApart_50 : decode cX4_settleApart 50 = .ok (.ishl, 1) := by decide +kernel
theorem dX4_settleApart_51 : decode cX4_settleApart 51 = .ok (.iconst (-1), 1) := by decide +kernel
theorem dX4_settleApart_52 : decode cX4_settleApart 52 = .ok (.ixor, 1) := by decide +kernel
theorem dX4_settleApart_53 : decode cX4_settleApart 53 = .ok (.iand, 1) := by decide +kernel
theorem dX4_settleApart_54 : decode cX4_settleApart 54 = .ok (.iastore, 1) := by decide +kernel
theorem dX4_settleApart_55 : decode cX4_settleApart 55 = .ok (.iinc 3 1, 3) := by decide +kernel
theorem dX4_settleApart_58 : decode cX4_settleApart 58 = .ok (.goto (-40), 3) := by decide +kernel
theorem dX4_settleApart_61 : decode cX4_settleApart 61 = .ok (.iinc 2 1, 3) := by decide +kernel
theorem dX4_settleApart_64 : decode cX4_settleApart 64 = .ok (.goto (-56), 3) := by decide +kernel
theorem dX4_settleApart_67 : decode cX4_settleApart 67 = .ok (.return_, 1) := by decide +kernel
theorem dX4_longestRow_0 : decode cX4_longestRow 0 = .ok (.aload_n 0, 1) := by decide +kernel
theorem dX4_longestRow_1 : decode cX4_longestRow 1 = .ok (.aload_n 1, 1) := by decide +kernel
theorem dX4_longestRow_2 : decode cX4_longestRow 2 = .ok (.invokevirtual 73, 3) := by decide +kernel
theorem dX4_longestRow_5 : decode cX4_longestRow 5 = .ok (.iconst 0, 1) := by decide +kernel
theorem dX4_longestRow_6 : decode cX4_longestRow 6 = .ok (.istore_n 2, 1) := by decide +kernel
theorem dX4_longestRow_7 : decode cX4_longestRow 7 = .ok (.iconst 1, 1) := by decide +kernel
theorem dX4_longestRow_8 : decode cX4_longestRow 8 = .ok (.istore_n 3, 1) := by decide +kernel
theorem dX4_longestRow_9 : decode cX4_longestRow 9 = .ok (.iload_n 3, 1) := by decide +kernel
theorem dX4_longestRow_10 : decode cX4_longestRow 10 = .ok (.iconst 1, 1) := by decide +kernel
theorem dX4_longestRow_11 : decode cX4_longestRow 11 = .ok (.aload_n 0, 1) := by decide +kernel
theorem dX4_longestRow_12 : decode cX4_longestRow 12 = .ok (.getfield 41, 3) := by decide +kernel
theorem dX4_longestRow_15 : decode cX4_longestRow 15 = .ok (.ishl, 1) := by decide +kernel
theorem dX4_longestRow_16 : decode cX4_longestRow 16 = .ok (.if_icmp .ge 38, 3) := by decide +kernel
theorem dX4_longestRow_19 : decode cX4_longestRow 19 = .ok (.aload_n 0, 1) := by decide +kernel
theorem dX4_longestRow_20 : decode cX4_longestRow 20 = .ok (.getfield 24, 3) := by decide +kernel
theorem dX4_longestRow_23 : decode cX4_longestRow 23 = .ok (.iload_n 3, 1) := by decide +kernel
theorem dX4_longestRow_24 : decode cX4_longestRow 24 = .ok (.aload_n 0, 1) := by decide +kernel
theorem dX4_longestRow_25 : decode cX4_longestRow 25 = .ok (.iload_n 3, 1) := by decide +kernel
theorem dX4_longestRow_26 : decode cX4_longestRow 26 = .ok (.invokevirtual 76, 3) := by decide +kernel
theorem dX4_longestRow_29 : decode cX4_longestRow 29 = .ok (.iastore, 1) := by decide +kernel
theorem dX4_longestRow_30 : decode cX4_longestRow 30 = .ok (.aload_n 0, 1) := by decide +kernel
theorem dX4_longestRow_31 : decode cX4_longestRow 31 = .ok (.getfield 24, 3) := by decide +kernel
theorem dX4_longestRow_34 : decode cX4_longestRow 34 = .ok (.iload_n 3, 1) := by decide +kernel
theorem dX4_longestRow_35 : decode cX4_longestRow 35 = .ok (.iaload, 1) := by decide +kernel
theorem dX4_longestRow_36 : decode cX4_longestRow 36 = .ok (.ifCond .eq 12, 3) := by decide +kernel
theorem dX4_longestRow_39 : decode cX4_longestRow 39 = .ok (.iload_n 2, 1) := by decide +kernel
theorem dX4_longestRow_40 : decode cX4_longestRow 40 = .ok (.iload_n 3, 1) := by decide +kernel
theorem dX4_longestRow_41 : decode cX4_longestRow 41 = .ok (.invokestatic 31, 3) := by decide +kernel
theorem dX4_longestRow_44 : decode cX4_longestRow 44 = .ok (.invokestatic 79, 3) := by decide +kernel
theorem dX4_longestRow_47 : decode cX4_longestRow 47 = .ok (.istore_n 2, 1) := by decide +kernel
theorem dX4_longestRow_48 : decode cX4_longestRow 48 = .ok (.iinc 3 1, 3) := by decide +kernel
theorem dX4_longestRow_51 : decode cX4_longestRow 51 = .ok (.goto (-42), 3) := by decide +kernel
theorem dX4_longestRow_54 : decode cX4_longestRow 54 = .ok (.iload_n 2, 1) := by decide +kernel
theorem dX4_longestRow_55 : decode cX4_longestRow 55 = .ok (.ireturn, 1) := by decide +kernel
theorem dX4_endsOf_0 : decode cX4_endsOf 0 = .ok (.iconst 0, 1) := by decide +kernel
theorem dX4_endsOf_1 : decode cX4_endsOf 1 = .ok (.istore_n 2, 1) := by decide +kernel
theorem dX4_endsOf_2 : decode cX4_endsOf 2 = .ok (.iconst 0, 1) := by decide +kernel
theorem dX4_endsOf_3 : decode cX4_endsOf 3 = .ok (.istore_n 3, 1) := by decide +kernel
theorem dX4_endsOf_4 : decode cX4_endsOf 4 = .ok (.iload_n 3, 1) := by decide +kernel
theorem dX4_endsOf_5 : decode cX4_endsOf 5 = .ok (.aload_n 0, 1) := by decide +kernel
theorem dX4_endsOf_6 : decode cX4_endsOf 6 = .ok (.getfield 41, 3) := by decide +kernel
theorem dX4_endsOf_9 : decode cX4_endsOf 9 = .ok (.if_icmp .ge 64, 3) := by decide +kernel
theorem dX4_endsOf_12 : decode cX4_endsOf 12 = .ok (.iload_n 1, 1) := by decide +kernel
theorem dX4_endsOf_13 : decode cX4_endsOf 13 = .ok (.iconst 1, 1) := by decide +kernel
theorem dX4_endsOf_14 : decode cX4_endsOf 14 = .ok (.iload_n 3, 1) := by decide +kernel
theorem dX4_endsOf_15 : decode cX4_endsOf 15 = .ok (.ishl, 1) := by decide +kernel
theorem dX4_endsOf_16 : decode cX4_endsOf 16 = .ok (.iconst (-1), 1) := by decide +kernel
theorem dX4_endsOf_17 : decode cX4_endsOf 17 = .ok (.ixor, 1) := by decide +kernel
theorem dX4_endsOf_18 : decode cX4_endsOf 18 = .ok (.iand, 1) := by decide +kernel
theorem dX4_endsOf_19 : decode cX4_endsOf 19 = .ok (.istore 4, 2) := by decide +kernel
theorem dX4_endsOf_21 : decode cX4_endsOf 21 = .ok (.iload 4, 2) := by decide +kernel
theorem dX4_endsOf_23 : decode cX4_endsOf 23 = .ok (.iload_n 1, 1) := by decide +kernel
theorem dX4_endsOf_24 : decode cX4_endsOf 24 = .ok (.if_icmp .eq 7, 3) := by decide +kernel
theorem dX4_endsOf_27 : decode cX4_endsOf 27 = .ok (.iconst 1, 1) := by decide +kernel
theorem dX4_endsOf_28 : decode cX4_endsOf 28 = .ok (.goto 4, 3) := by decide +kernel
theorem dX4_endsOf_31 : decode cX4_endsOf 31 = .ok (.iconst 0, 1) := by decide +kernel
theorem dX4_endsOf_32 : decode cX4_endsOf 32 = .ok (.istore 5, 2) := by decide +kernel
theorem dX4_endsOf_34 : decode cX4_endsOf 34 = .ok (.iload 5, 2) := by decide +kernel
theorem dX4_endsOf_36 : decode cX4_endsOf 36 = .ok (.ifCond .eq 31, 3) := by decide +kernel
theorem dX4_endsOf_39 : decode cX4_endsOf 39 = .ok (.iload 4, 2) := by decide +kernel
theorem dX4_endsOf_41 : decode cX4_endsOf 41 = .ok (.ifCond .eq 20, 3) := by decide +kernel
theorem dX4_endsOf_44 : decode cX4_endsOf 44 = .ok (.aload_n 0, 1) := by decide +kernel
theorem dX4_endsOf_45 : decode cX4_endsOf 45 = .ok (.getfield 24, 3) := by decide +kernel
theorem dX4_endsOf_48 : decode cX4_endsOf 48 = .ok (.iload 4, 2) := by decide +kernel
theorem dX4_endsOf_50 : decode cX4_endsOf 50 = .ok (.iaload, 1) := by decide +kernel
theorem dX4_endsOf_51 : decode cX4_endsOf 51 = .ok (.aload_n 0, 1) := by decide +kernel
theorem dX4_endsOf_52 : decode cX4_endsOf 52 = .ok (.getfield 18, 3) := by decide +kernel
theorem dX4_endsOf_55 : decode cX4_endsOf 55 = .ok (.iload_n 3, 1) := by decide +kernel
theorem dX4_endsOf_56 : decode cX4_endsOf 56 = .ok (.iaload, 1) := by decide +kernel
theorem dX4_endsOf_57 : decode cX4_endsOf 57 = .ok (.iand, 1) := by decide +kernel
theorem dX4_endsOf_58 : decode cX4_endsOf 58 = .ok (.ifCond .eq 9, 3) := by decide +kernel
theorem dX4_endsOf_61 : decode cX4_endsOf 61 = .ok (.iload_n 2, 1) := by decide +kernel
theorem dX4_endsOf_62 : decode cX4_endsOf 62 = .ok (.iconst 1, 1) := by decide +kernel
theorem dX4_endsOf_63 : decode cX4_endsOf 63 = .ok (.iload_n 3, 1) := by decide +kernel
theorem dX4_endsOf_64 : decode cX4_endsOf 64 = .ok (.ishl, 1) := by decide +kernel
theorem dX4_endsOf_65 : decode cX4_endsOf 65 = .ok (.ior, 1) := by decide +kernel
theorem dX4_endsOf_66 : decode cX4_endsOf 66 = .ok (.istore_n 2, 1) := by decide +kernel
theorem dX4_endsOf_67 : decode cX4_endsOf 67 = .ok (.iinc 3 1, 3) := by decide +kernel
theorem dX4_endsOf_70 : decode cX4_endsOf 70 = .ok (.goto (-66), 3) := by decide +kernel
theorem dX4_endsOf_73 : decode cX4_endsOf 73 = .ok (.iload_n 2, 1) := by decide +kernel
theorem dX4_endsOf_74 : decode cX4_endsOf 74 = .ok (.ireturn, 1) := by decide +kernel
theorem dX4_greatestSet_0 : decode cX4_greatestSet 0 = .ok (.aload_n 0, 1) := by decide +kernel
theorem dX4_greatestSet_1 : decode cX4_greatestSet 1 = .ok (.aload_n 1, 1) := by decide +kernel
theorem dX4_greatestSet_2 : decode cX4_greatestSet 2 = .ok (.invokevirtual 73, 3) := by decide +kernel
theorem dX4_greatestSet_5 : decode cX4_greatestSet 5 = .ok (.iconst 0, 1) := by decide +kernel
theorem dX4_greatestSet_6 : decode cX4_greatestSet 6 = .ok (.istore_n 2, 1) := by decide +kernel
theorem dX4_greatestSet_7 : decode cX4_greatestSet 7 = .ok (.iconst 1, 1) := by decide +kernel
theorem dX4_greatestSet_8 : decode cX4_greatestSet 8 = .ok (.istore_n 3, 1) := by decide +kernel
theorem dX4_greatestSet_9 : decode cX4_greatestSet 9 = .ok (.iload_n 3, 1) := by decide +kernel
theorem dX4_greatestSet_10 : decode cX4_greatestSet 10 = .ok (.iconst 1, 1) := by decide +kernel
theorem dX4_greatestSet_11 : decode cX4_greatestSet 11 = .ok (.aload_n 0, 1) := by decide +kernel
theorem dX4_greatestSet_12 : decode cX4_greatestSet 12 = .ok (.getfield 41, 3) := by decide +kernel
theorem dX4_greatestSet_15 : decode cX4_greatestSet 15 = .ok (.ishl, 1) := by decide +kernel
theorem dX4_greatestSet_16 : decode cX4_greatestSet 16 = .ok (.if_icmp .ge 30, 3) := by decide +kernel
theorem dX4_greatestSet_19 : decode cX4_greatestSet 19 = .ok (.iload_n 3, 1) := by decide +kernel
theorem dX4_greatestSet_20 : decode cX4_greatestSet 20 = .ok (.invokestatic 31, 3) := by decide +kernel
theorem dX4_greatestSet_23 : decode cX4_greatestSet 23 = .ok (.iload_n 2, 1) := by decide +kernel
theorem dX4_greatestSet_24 : decode cX4_greatestSet 24 = .ok (.invokestatic 31, 3) := by decide +kernel
theorem dX4_greatestSet_27 : decode cX4_greatestSet 27 = .ok (.if_icmp .le 13, 3) := by decide +kernel
theorem dX4_greatestSet_30 : decode cX4_greatestSet 30 = .ok (.aload_n 0, 1) := by decide +kernel
theorem dX4_greatestSet_31 : decode cX4_greatestSet 31 = .ok (.iload_n 3, 1) := by decide +kernel
theorem dX4_greatestSet_32 : decode cX4_greatestSet 32 = .ok (.invokevirtual 82, 3) := by decide +kernel
theorem dX4_greatestSet_35 : decode cX4_greatestSet 35 = .ok (.ifCond .eq 5, 3) := by decide +kernel
theorem dX4_greatestSet_38 : decode cX4_greatestSet 38 = .ok (.iload_n 3, 1) := by decide +kernel
theorem dX4_greatestSet_39 : decode cX4_greatestSet 39 = .ok (.istore_n 2, 1) := by decide +kernel
theorem dX4_greatestSet_40 : decode cX4_greatestSet 40 = .ok (.iinc 3 1, 3) := by decide +kernel
theorem dX4_greatestSet_43 : decode cX4_greatestSet 43 = .ok (.goto (-34), 3) := by decide +kernel
theorem dX4_greatestSet_46 : decode cX4_greatestSet 46 = .ok (.aload_n 0, 1) := by decide +kernel
theorem dX4_greatestSet_47 : decode cX4_greatestSet 47 = .ok (.iload_n 2, 1) := by decide +kernel
theorem dX4_greatestSet_48 : decode cX4_greatestSet 48 = .ok (.invokevirtual 86, 3) := by decide +kernel
theorem dX4_greatestSet_51 : decode cX4_greatestSet 51 = .ok (.ireturn, 1) := by decide +kernel
theorem dX4_isApart_0 : decode cX4_isApart 0 = .ok (.iconst 0, 1) := by decide +kernel
theorem dX4_isApart_1 : decode cX4_isApart 1 = .ok (.istore_n 2, 1) := by decide +kernel
theorem dX4_isApart_2 : decode cX4_isApart 2 = .ok (.iload_n 2, 1) := by decide +kernel
theorem dX4_isApart_3 : decode cX4_isApart 3 = .ok (.aload_n 0, 1) := by decide +kernel
theorem dX4_isApart_4 : decode cX4_isApart 4 = .ok (.getfield 41, 3) := by decide +kernel
theorem dX4_isApart_7 : decode cX4_isApart 7 = .ok (.if_icmp .ge 37, 3) := by decide +kernel
theorem dX4_isApart_10 : decode cX4_isApart 10 = .ok (.iload_n 1, 1) := by decide +kernel
theorem dX4_isApart_11 : decode cX4_isApart 11 = .ok (.iconst 1, 1) := by decide +kernel
theorem dX4_isApart_12 : decode cX4_isApart 12 = .ok (.iload_n 2, 1) := by decide +kernel
theorem dX4_isApart_13 : decode cX4_isApart 13 = .ok (.ishl, 1) := by decide +kernel
theorem dX4_isApart_14 : decode cX4_isApart 14 = .ok (.iconst (-1), 1) := by decide +kernel
theorem dX4_isApart_15 : decode cX4_isApart 15 = .ok (.ixor, 1) := by decide +kernel
theorem dX4_isApart_16 : decode cX4_isApart 16 = .ok (.iand, 1) := by decide +kernel
theorem dX4_isApart_17 : decode cX4_isApart 17 = .ok (.istore_n 3, 1) := by decide +kernel
theorem dX4_isApart_18 : decode cX4_isApart 18 = .ok (.iload_n 3, 1) := by decide +kernel
theorem dX4_isApart_19 : decode cX4_isApart 19 = .ok (.iload_n 1, 1) := by decide +kernel
theorem dX4_isApart_20 : decode cX4_isApart 20 = .ok (.if_icmp .eq 18, 3) := by decide +kernel
theorem dX4_isApart_23 : decode cX4_isApart 23 = .ok (.iload_n 3, 1) := by decide +kernel
theorem dX4_isApart_24 : decode cX4_isApart 24 = .ok (.aload_n 0, 1) := by decide +kernel
theorem dX4_isApart_25 : decode cX4_isApart 25 = .ok (.getfield 18, 3) := by decide +kernel
theorem dX4_isApart_28 : decode cX4_isApart 28 = .ok (.iload_n 2, 1) := by decide +kernel
theorem dX4_isApart_29 : decode cX4_isApart 29 = .ok (.iaload, 1) := by decide +kernel
theorem dX4_isApart_30 : decode cX4_isApart 30 = .ok (.iconst (-1), 1) := by decide +kernel
theorem dX4_isApart_31 : decode cX4_isApart 31 = .ok (.ixor, 1) := by decide +kernel
theorem dX4_isApart_32 : decode cX4_isApart 32 = .ok (.iand, 1) := by decide +kernel
theorem dX4_isApart_33 : decode cX4_isApart 33 = .ok (.ifCond .eq 5, 3) := by decide +kernel
theorem dX4_isApart_36 : decode cX4_isApart 36 = .ok (.iconst 0, 1) := by decide +kernel
theorem dX4_isApart_37 : decode cX4_isApart 37 = .ok (.ireturn, 1) := by decide +kernel
theorem dX4_isApart_38 : decode cX4_isApart 38 = .ok (.iinc 2 1, 3) := by decide +kernel
theorem dX4_isApart_41 : decode cX4_isApart 41 = .ok (.goto (-39), 3) := by decide +kernel
theorem dX4_isApart_44 : decode cX4_isApart 44 = .ok (.iconst 1, 1) := by decide +kernel
theorem dX4_isApart_45 : decode cX4_isApart 45 = .ok (.ireturn, 1) := by decide +kernel
theorem dX4_housesOf_0 : decode cX4_housesOf 0 = .ok (.iconst 0, 1) := by decide +kernel
theorem dX4_housesOf_1 : decode cX4_housesOf 1 = .ok (.istore_n 2, 1) := by decide +kernel
theorem dX4_housesOf_2 : decode cX4_housesOf 2 = .ok (.iconst 0, 1) := by decide +kernel
theorem dX4_housesOf_3 : decode cX4_housesOf 3 = .ok (.istore_n 3, 1) := by decide +kernel
theorem dX4_housesOf_4 : decode cX4_housesOf 4 = .ok (.iload_n 3, 1) := by decide +kernel
theorem dX4_housesOf_5 : decode cX4_housesOf 5 = .ok (.aload_n 0, 1) := by decide +kernel
theorem dX4_housesOf_6 : decode cX4_housesOf 6 = .ok (.getfield 41, 3) := by decide +kernel
theorem dX4_housesOf_9 : decode cX4_housesOf 9 = .ok (.if_icmp .ge 24, 3) := by decide +kernel
theorem dX4_housesOf_12 : decode cX4_housesOf 12 = .ok (.iload_n 2, 1) := by decide +kernel
theorem dX4_housesOf_13 : decode cX4_housesOf 13 = .ok (.iload_n 1, 1) := by decide +kernel
theorem dX4_housesOf_14 : decode cX4_housesOf 14 = .ok (.iload_n 3, 1) := by decide +kernel
theorem dX4_housesOf_15 : decode cX4_housesOf 15 = .ok (.ishr, 1) := by decide +kernel
theorem dX4_housesOf_16 : decode cX4_housesOf 16 = .ok (.iconst 1, 1) := by decide +kernel
theorem dX4_housesOf_17 : decode cX4_housesOf 17 = .ok (.iand, 1) := by decide +kernel
theorem dX4_housesOf_18 : decode cX4_housesOf 18 = .ok (.aload_n 0, 1) := by decide +kernel
theorem dX4_housesOf_19 : decode cX4_housesOf 19 = .ok (.getfield 15, 3) := by decide +kernel
theorem dX4_housesOf_22 : decode cX4_housesOf 22 = .ok (.iload_n 3, 1) := by decide +kernel
theorem dX4_housesOf_23 : decode cX4_housesOf 23 = .ok (.iaload, 1) := by decide +kernel
theorem dX4_housesOf_24 : decode cX4_housesOf 24 = .ok (.ishl, 1) := by decide +kernel
theorem dX4_housesOf_25 : decode cX4_housesOf 25 = .ok (.ior, 1) := by decide +kernel
theorem dX4_housesOf_26 : decode cX4_housesOf 26 = .ok (.istore_n 2, 1) := by decide +kernel
theorem dX4_housesOf_27 : decode cX4_housesOf 27 = .ok (.iinc 3 1, 3) := by decide +kernel
theorem dX4_housesOf_30 : decode cX4_housesOf 30 = .ok (.goto (-26), 3) := by decide +kernel
theorem dX4_housesOf_33 : decode cX4_housesOf 33 = .ok (.iload_n 2, 1) := by decide +kernel
theorem dX4_housesOf_34 : decode cX4_housesOf 34 = .ok (.ireturn, 1) := by decide +kernel
theorem dX5_init_0 : decode cX5_init 0 = .ok (.aload_n 0, 1) := by decide +kernel
theorem dX5_init_1 : decode cX5_init 1 = .ok (.invokespecial 1, 3) := by decide +kernel
theorem dX5_init_4 : decode cX5_init 4 = .ok (.aload_n 0, 1) := by decide +kernel
theorem dX5_init_5 : decode cX5_init 5 = .ok (.aload_n 1, 1) := by decide +kernel
theorem dX5_init_6 : decode cX5_init 6 = .ok (.putfield 7, 3) := by decide +kernel
theorem dX5_init_9 : decode cX5_init 9 = .ok (.return_, 1) := by decide +kernel
theorem dX5_lets_0 : decode cX5_lets 0 = .ok (.iload_n 1, 1) := by decide +kernel
theorem dX5_lets_1 : decode cX5_lets 1 = .ok (.iload_n 2, 1) := by decide +kernel
theorem dX5_lets_2 : decode cX5_lets 2 = .ok (.if_icmp .ge 7, 3) := by decide +kernel
theorem dX5_lets_5 : decode cX5_lets 5 = .ok (.iload_n 1, 1) := by decide +kernel
theorem dX5_lets_6 : decode cX5_lets 6 = .ok (.goto 4, 3) := by decide +kernel
theorem dX5_lets_9 : decode cX5_lets 9 = .ok (.iload_n 2, 1) := by decide +kernel
theorem dX5_lets_10 : decode cX5_lets 10 = .ok (.istore 4, 2) := by decide +kernel
theorem dX5_lets_12 : decode cX5_lets 12 = .ok (.iload_n 1, 1) := by decide +kernel
theorem dX5_lets_13 : decode cX5_lets 13 = .ok (.iload_n 2, 1) := by decide +kernel
theorem dX5_lets_14 : decode cX5_lets 14 = .ok (.if_icmp .ge 7, 3) := by decide +kernel
theorem dX5_lets_17 : decode cX5_lets 17 = .ok (.iload_n 2, 1) := by decide +kernel
theorem dX5_lets_18 : decode cX5_lets 18 = .ok (.goto 4, 3) := by decide +kernel
theorem dX5_lets_21 : decode cX5_lets 21 = .ok (.iload_n 1, 1) := by decide +kernel
theorem dX5_lets_22 : decode cX5_lets 22 = .ok (.istore 5, 2) := by decide +kernel
theorem dX5_lets_24 : decode cX5_lets 24 = .ok (.iload 4, 2) := by decide +kernel
theorem dX5_lets_26 : decode cX5_lets 26 = .ok (.iload 5, 2) := by decide +kernel
theorem dX5_lets_28 : decode cX5_lets 28 = .ok (.if_icmp .eq 17, 3) := by decide +kernel
theorem dX5_lets_31 : decode cX5_lets 31 = .ok (.iload 4, 2) := by decide +kernel
theorem dX5_lets_33 : decode cX5_lets 33 = .ok (.iconst 1, 1) := by decide +kernel
theorem dX5_lets_34 : decode cX5_lets 34 = .ok (.if_icmp .lt 11, 3) := by decide +kernel
theorem dX5_lets_37 : decode cX5_lets 37 = .ok (.iload 5, 2) := by decide +kernel
theorem dX5_lets_39 : decode cX5_lets 39 = .ok (.iload 4, 2) := by decide +kernel
theorem dX5_lets_41 : decode cX5_lets 41 = .ok (.irem, 1) := by decide +kernel
theorem dX5_lets_42 : decode cX5_lets 42 = .ok (.ifCond .eq 7, 3) := by decide +kernel
theorem dX5_lets_45 : decode cX5_lets 45 = .ok (.iconst 1, 1) := by decide +kernel
theorem dX5_lets_46 : decode cX5_lets 46 = .ok (.goto 4, 3) := by decide +kernel
theorem dX5_lets_49 : decode cX5_lets 49 = .ok (.iconst 0, 1) := by decide +kernel
theorem dX5_lets_50 : decode cX5_lets 50 = .ok (.ireturn, 1) := by decide +kernel
theorem dX6_init_0 : decode cX6_init 0 = .ok (.aload_n 0, 1) := by decide +kernel
theorem dX6_init_1 : decode cX6_init 1 = .ok (.aload_n 1, 1) := by decide +kernel
theorem dX6_init_2 : decode cX6_init 2 = .ok (.invokespecial 1, 3) := by decide +kernel
theorem dX6_init_5 : decode cX6_init 5 = .ok (.return_, 1) := by decide +kernel
theorem dX6_lets_0 : decode cX6_lets 0 = .ok (.aload_n 0, 1) := by decide +kernel
theorem dX6_lets_1 : decode cX6_lets 1 = .ok (.getfield 7, 3) := by decide +kernel
theorem dX6_lets_4 : decode cX6_lets 4 = .ok (.iload_n 1, 1) := by decide +kernel
theorem dX6_lets_5 : decode cX6_lets 5 = .ok (.invokevirtual 13, 3) := by decide +kernel
theorem dX6_lets_8 : decode cX6_lets 8 = .ok (.ifCond .ne 28, 3) := by decide +kernel
theorem dX6_lets_11 : decode cX6_lets 11 = .ok (.aload_n 0, 1) := by decide +kernel
theorem dX6_lets_12 : decode cX6_lets 12 = .ok (.getfield 7, 3) := by decide +kernel
theorem dX6_lets_15 : decode cX6_lets 15 = .ok (.iload_n 2, 1) := by decide +kernel
theorem dX6_lets_16 : decode cX6_lets 16 = .ok (.invokevirtual 13, 3) := by decide +kernel
theorem dX6_lets_19 : decode cX6_lets 19 = .ok (.ifCond .ne 17, 3) := by decide +kernel
theorem dX6_lets_22 : decode cX6_lets 22 = .ok (.aload_n 0, 1) := by decide +kernel
theorem dX6_lets_23 : decode cX6_lets 23 = .ok (.iload_n 1, 1) := by decide +kernel
theorem dX6_lets_24 : decode cX6_lets 24 = .ok (.iload_n 2, 1) := by decide +kernel
theorem dX6_lets_25 : decode cX6_lets 25 = .ok (.iload_n 3, 1) := by decide +kernel
theorem dX6_lets_26 : decode cX6_lets 26 = .ok (.invokespecial 19, 3) := by decide +kernel
theorem dX6_lets_29 : decode cX6_lets 29 = .ok (.ifCond .eq 7, 3) := by decide +kernel
theorem dX6_lets_32 : decode cX6_lets 32 = .ok (.iconst 1, 1) := by decide +kernel
theorem dX6_lets_33 : decode cX6_lets 33 = .ok (.goto 4, 3) := by decide +kernel
theorem dX6_lets_36 : decode cX6_lets 36 = .ok (.iconst 0, 1) := by decide +kernel
theorem dX6_lets_37 : decode cX6_lets 37 = .ok (.ireturn, 1) := by decide +kernel
theorem dX7_init_0 : decode cX7_init 0 = .ok (.aload_n 0, 1) := by decide +kernel
theorem dX7_init_1 : decode cX7_init 1 = .ok (.invokespecial 3, 3) := by decide +kernel
theorem dX7_init_4 : decode cX7_init 4 = .ok (.aload_n 0, 1) := by decide +kernel
theorem dX7_init_5 : decode cX7_init 5 = .ok (.bipush 8, 2) := by decide +kernel
theorem dX7_init_7 : decode cX7_init 7 = .ok (.newarray .int, 2) := by decide +kernel
theorem dX7_init_9 : decode cX7_init 9 = .ok (.putfield 9, 3) := by decide +kernel
theorem dX7_init_12 : decode cX7_init 12 = .ok (.aload_n 0, 1) := by decide +kernel
theorem dX7_init_13 : decode cX7_init 13 = .ok (.iconst (-1), 1) := by decide +kernel
theorem dX7_init_14 : decode cX7_init 14 = .ok (.putfield 15, 3) := by decide +kernel
theorem dX7_init_17 : decode cX7_init 17 = .ok (.aload_n 0, 1) := by decide +kernel
theorem dX7_init_18 : decode cX7_init 18 = .ok (.sipush 150, 3) := by decide +kernel
theorem dX7_init_21 : decode cX7_init 21 = .ok (.newarray .byte, 2) := by decide +kernel
theorem dX7_init_23 : decode cX7_init 23 = .ok (.putfield 19, 3) := by decide +kernel
theorem dX7_init_26 : decode cX7_init 26 = .ok (.return_, 1) := by decide +kernel
theorem dX7_take_0 : decode cX7_take 0 = .ok (.aload_n 0, 1) := by decide +kernel
theorem dX7_take_1 : decode cX7_take 1 = .ok (.getfield 23, 3) := by decide +kernel
theorem dX7_take_4 : decode cX7_take 4 = .ok (.sipush 150, 3) := by decide +kernel
theorem dX7_take_7 : decode cX7_take 7 = .ok (.if_icmp .lt 5, 3) := by decide +kernel
theorem dX7_take_10 : decode cX7_take 10 = .ok (.iconst 0, 1) := by decide +kernel
theorem dX7_take_11 : decode cX7_take 11 = .ok (.ireturn, 1) := by decide +kernel
theorem dX7_take_12 : decode cX7_take 12 = .ok (.aload_n 0, 1) := by decide +kernel
theorem dX7_take_13 : decode cX7_take 13 = .ok (.getfield 19, 3) := by decide +kernel
theorem dX7_take_16 : decode cX7_take 16 = .ok (.aload_n 0, 1) := by decide +kernel
theorem dX7_take_17 : decode cX7_take 17 = .ok (.getfield 23, 3) := by decide +kernel
theorem dX7_take_20 : decode cX7_take 20 = .ok (.iload_n 1, 1) := by decide +kernel
theorem dX7_take_21 : decode cX7_take 21 = .ok (.i2b, 1) := by decide +kernel
theorem dX7_take_22 : decode cX7_take 22 = .ok (.bastore, 1) := by decide +kernel
theorem dX7_take_23 : decode cX7_take 23 = .ok (.aload_n 0, 1) := by decide +kernel
theorem dX7_take_24 : decode cX7_take 24 = .ok (.dup, 1) := by decide +kernel
theorem dX7_take_25 : decode cX7_take 25 = .ok (.getfield 23, 3) := by decide +kernel
theorem dX7_take_28 : decode cX7_take 28 = .ok (.iconst 1, 1) := by decide +kernel
theorem dX7_take_29 : decode cX7_take 29 = .ok (.iadd, 1) := by decide +kernel
theorem dX7_take_30 : decode cX7_take 30 = .ok (.putfield 23, 3) := by decide +kernel
theorem dX7_take_33 : decode cX7_take 33 = .ok (.iconst 1, 1) := by decide +kernel
theorem dX7_take_34 : decode cX7_take 34 = .ok (.ireturn, 1) := by decide +kernel
theorem dX7_parse_0 : decode cX7_parse 0 = .ok (.aload_n 0, 1) := by decide +kernel
theorem dX7_parse_1 : decode cX7_parse 1 = .ok (.iconst (-1), 1) := by decide +kernel
theorem dX7_parse_2 : decode cX7_parse 2 = .ok (.putfield 15, 3) := by decide +kernel
theorem dX7_parse_5 : decode cX7_parse 5 = .ok (.aload_n 0, 1) := by decide +kernel
theorem dX7_parse_6 : decode cX7_parse 6 = .ok (.iconst 0, 1) := by decide +kernel
theorem dX7_parse_7 : decode cX7_parse 7 = .ok (.putfield 26, 3) := by decide +kernel
theorem dX7_parse_10 : decode cX7_parse 10 = .ok (.aload_n 0, 1) := by decide +kernel
theorem dX7_parse_11 : decode cX7_parse 11 = .ok (.iconst 0, 1) := by decide +kernel
theorem dX7_parse_12 : decode cX7_parse 12 = .ok (.putfield 29, 3) := by decide +kernel
theorem dX7_parse_15 : decode cX7_parse 15 = .ok (.iconst 0, 1) := by decide +kernel
theorem dX7_parse_16 : decode cX7_parse 16 = .ok (.istore_n 1, 1) := by decide +kernel
theorem dX7_parse_17 : decode cX7_parse 17 = .ok (.iload_n 1, 1) := by decide +kernel
theorem dX7_parse_18 : decode cX7_parse 18 = .ok (.bipush 8, 2) := by decide +kernel
theorem dX7_parse_20 : decode cX7_parse 20 = .ok (.if_icmp .ge 16, 3) := by decide +kernel
theorem dX7_parse_23 : decode cX7_parse 23 = .ok (.aload_n 0, 1) := by decide +kernel
theorem dX7_parse_24 : decode cX7_parse 24 = .ok (.getfield 9, 3) := by decide +kernel
theorem dX7_parse_27 : decode cX7_parse 27 = .ok (.iload_n 1, 1) := by decide +kernel
theorem dX7_parse_28 : decode cX7_parse 28 = .ok (.iconst 0, 1) := by decide +kernel
theorem dX7_parse_29 : decode cX7_parse 29 = .ok (.iastore, 1) := by decide +kernel
theorem dX7_parse_30 : decode cX7_parse 30 = .ok (.iinc 1 1, 3) := by decide +kernel
theorem dX7_parse_33 : decode cX7_parse 33 = .ok (.goto (-16), 3) := by decide +kernel
theorem dX7_parse_36 : decode cX7_parse 36 = .ok (.aload_n 0, 1) := by decide +kernel
theorem dX7_parse_37 : decode cX7_parse 37 = .ok (.invokevirtual 32, 3) := by decide +kernel
theorem dX7_parse_40 : decode cX7_parse 40 = .ok (.aload_n 0, 1) := by decide +kernel
theorem dX7_parse_41 : decode cX7_parse 41 = .ok (.invokevirtual 35, 3) := by decide +kernel
theorem dX7_parse_44 : decode cX7_parse 44 = .ok (.iconst 0, 1) := by decide +kernel
theorem dX7_parse_45 : decode cX7_parse 45 = .ok (.istore_n 1, 1) := by decide +kernel
theorem dX7_parse_46 : decode cX7_parse 46 = .ok (.iload_n 1, 1) := by decide +kernel
theorem dX7_parse_47 : decode cX7_parse 47 = .ok (.sipush 150, 3) := by decide +kernel
theorem dX7_parse_50 : decode cX7_parse 50 = .ok (.if_icmp .ge 33, 3) := by decide +kernel
theorem dX7_parse_53 : decode cX7_parse 53 = .ok (.aload_n 0, 1) := by decide +kernel
theorem dX7_parse_54 : decode cX7_parse 54 = .ok (.getfield 15, 3) := by decide +kernel
theorem dX7_parse_57 : decode cX7_parse 57 = .ok (.iconst (-1), 1) := by decide +kernel
theorem dX7_parse_58 : decode cX7_parse 58 = .ok (.if_icmp .ne 25, 3) := by decide +kernel
theorem dX7_parse_61 : decode cX7_parse 61 = .ok (.aload_n 0, 1) := by decide +kernel
theorem dX7_parse_62 : decode cX7_parse 62 = .ok (.invokevirtual 32, 3) := by decide +kernel
theorem dX7_parse_65 : decode cX7_parse 65 = .ok (.aload_n 0, 1) := by decide +kernel
theorem dX7_parse_66 : decode cX7_parse 66 = .ok (.getfield 38, 3) := by decide +kernel
theorem dX7_parse_69 : decode cX7_parse 69 = .ok (.ifCond .ne 4, 3) := by decide +kernel
theorem dX7_parse_72 : decode cX7_parse 72 = .ok (.return_, 1) := by decide +kernel
theorem dX7_parse_73 : decode cX7_parse 73 = .ok (.aload_n 0, 1) := by decide +kernel
theorem dX7_parse_74 : decode cX7_parse 74 = .ok (.invokevirtual 41, 3) := by decide +kernel
theorem dX7_parse_77 : decode cX7_parse 77 = .ok (.iinc 1 1, 3) := by decide +kernel
theorem dX7_parse_80 : decode cX7_parse 80 = .ok (.goto (-34), 3) := by decide +kernel
theorem dX7_parse_83 : decode cX7_parse 83 = .ok (.return_, 1) := by decide +kernel
theorem dX7_parseStreet_0 : decode cX7_parseStreet 0 = .ok (.aload_n 0, 1) := by decide +kernel
theorem dX7_parseStreet_1 : decode cX7_parseStreet 1 = .ok (.ldc 44, 2) := by decide +kernel
theorem dX7_parseStreet_3 : decode cX7_parseStreet 3 = .ok (.invokevirtual 46, 3) := by decide +kernel
theorem dX7_parseStreet_6 : decode cX7_parseStreet 6 = .ok (.aload_n 0, 1) := by decide +kernel
theorem dX7_parseStreet_7 : decode cX7_parseStreet 7 = .ok (.iconst 5, 1) := by decide +kernel
theorem dX7_parseStreet_8 : decode cX7_parseStreet 8 = .ok (.invokevirtual 50, 3) := by decide +kernel
theorem dX7_parseStreet_11 : decode cX7_parseStreet 11 = .ok (.istore_n 1, 1) := by decide +kernel
theorem dX7_parseStreet_12 : decode cX7_parseStreet 12 = .ok (.aload_n 0, 1) := by decide +kernel
theorem dX7_parseStreet_13 : decode cX7_parseStreet 13 = .ok (.bipush 9, 2) := by decide +kernel
theorem dX7_parseStreet_15 : decode cX7_parseStreet 15 = .ok (.invokevirtual 50, 3) := by decide +kernel
theorem dX7_parseStreet_18 : decode cX7_parseStreet 18 = .ok (.istore_n 2, 1) := by decide +kernel
theorem dX7_parseStreet_19 : decode cX7_parseStreet 19 = .ok (.aload_n 0, 1) := by decide +kernel
theorem dX7_parseStreet_20 : decode cX7_parseStreet 20 = .ok (.invokevirtual 54, 3) := by decide +kernel
theorem dX7_parseStreet_23 : decode cX7_parseStreet 23 = .ok (.aload_n 0, 1) := by decide +kernel
theorem dX7_parseStreet_24 : decode cX7_parseStreet 24 = .ok (.bipush 10, 2) := by decide +kernel
theorem dX7_parseStreet_26 : decode cX7_parseStreet 26 = .ok (.iload_n 1, 1) := by decide +kernel
theorem dX7_parseStreet_27 : decode cX7_parseStreet 27 = .ok (.imul, 1) := by decide +kernel
theorem dX7_parseStreet_28 : decode cX7_parseStreet 28 = .ok (.iload_n 2, 1) := by decide +kernel
theorem dX7_parseStreet_29 : decode cX7_parseStreet 29 = .ok (.iadd, 1) := by decide +kernel
theorem dX7_parseStreet_30 : decode cX7_parseStreet 30 = .ok (.putfield 57, 3) := by decide +kernel
theorem dX7_parseStreet_33 : decode cX7_parseStreet 33 = .ok (.aload_n 0, 1) := by decide +kernel
theorem dX7_parseStreet_34 : decode cX7_parseStreet 34 = .ok (.dup, 1) := by decide +kernel
theorem dX7_parseStreet_35 : decode cX7_parseStreet 35 = .ok (.getfield 26, 3) := by decide +kernel
theorem dX7_parseStreet_38 : decode cX7_parseStreet 38 = .ok (.iconst 1, 1) := by decide +kernel
theorem dX7_parseStreet_39 : decode cX7_parseStreet 39 = .ok (.iadd, 1) := by decide +kernel
theorem dX7_parseStreet_40 : decode cX7_parseStreet 40 = .ok (.putfield 26, 3) := by decide +kernel
theorem dX7_parseStreet_43 : decode cX7_parseStreet 43 = .ok (.return_, 1) := by decide +kernel
theorem dX7_parseHouse_0 : decode cX7_parseHouse 0 = .ok (.aload_n 0, 1) := by decide +kernel
theorem dX7_parseHouse_1 : decode cX7_parseHouse 1 = .ok (.ldc 60, 2) := by decide +kernel
theorem dX7_parseHouse_3 : decode cX7_parseHouse 3 = .ok (.invokevirtual 46, 3) := by decide +kernel
theorem dX7_parseHouse_6 : decode cX7_parseHouse 6 = .ok (.aload_n 0, 1) := by decide +kernel
theorem dX7_parseHouse_7 : decode cX7_parseHouse 7 = .ok (.bipush 7, 2) := by decide +kernel
theorem dX7_parseHouse_9 : decode cX7_parseHouse 9 = .ok (.invokevirtual 50, 3) := by decide +kernel
theorem dX7_parseHouse_12 : decode cX7_parseHouse 12 = .ok (.istore_n 1, 1) := by decide +kernel
theorem dX7_parseHouse_13 : decode cX7_parseHouse 13 = .ok (.aload_n 0, 1) := by decide +kernel
theorem dX7_parseHouse_14 : decode cX7_parseHouse 14 = .ok (.sipush 300, 3) := by decide +kernel
theorem dX7_parseHouse_17 : decode cX7_parseHouse 17 = .ok (.invokevirtual 50, 3) := by decide +kernel
theorem dX7_parseHouse_20 : decode cX7_parseHouse 20 = .ok (.istore_n 2, 1) := by decide +kernel
theorem dX7_parseHouse_21 : decode cX7_parseHouse 21 = .ok (.aload_n 0, 1) := by decide +kernel
theorem dX7_parseHouse_22 : decode cX7_parseHouse 22 = .ok (.invokevirtual 54, 3) := by decide +kernel
theorem dX7_parseHouse_25 : decode cX7_parseHouse 25 = .ok (.iload_n 1, 1) := by decide +kernel
theorem dX7_parseHouse_26 : decode cX7_parseHouse 26 = .ok (.invokestatic 62, 3) := by decide +kernel
theorem dX7_parseHouse_29 : decode cX7_parseHouse 29 = .ok (.ifCond .eq 10, 3) := by decide +kernel
theorem dX7_parseHouse_32 : decode cX7_parseHouse 32 = .ok (.aload_n 0, 1) := by decide +kernel
theorem dX7_parseHouse_33 : decode cX7_parseHouse 33 = .ok (.getfield 9, 3) := by decide +kernel
theorem dX7_parseHouse_36 : decode cX7_parseHouse 36 = .ok (.iload_n 1, 1) := by decide +kernel
theorem dX7_parseHouse_37 : decode cX7_parseHouse 37 = .ok (.iload_n 2, 1) := by decide +kernel
theorem dX7_parseHouse_38 : decode cX7_parseHouse 38 = .ok (.iastore, 1) := by decide +kernel
theorem dX7_parseHouse_39 : decode cX7_parseHouse 39 = .ok (.aload_n 0, 1) := by decide +kernel
theorem dX7_parseHouse_40 : decode cX7_parseHouse 40 = .ok (.dup, 1) := by decide +kernel
theorem dX7_parseHouse_41 : decode cX7_parseHouse 41 = .ok (.getfield 26, 3) := by decide +kernel
theorem dX7_parseHouse_44 : decode cX7_parseHouse 44 = .ok (.iconst 1, 1) := by decide +kernel
theorem dX7_parseHouse_45 : decode cX7_parseHouse 45 = .ok (.iadd, 1) := by decide +kernel
theorem dX7_parseHouse_46 : decode cX7_parseHouse 46 = .ok (.putfield 26, 3) := by decide +kernel
theorem dX7_parseHouse_49 : decode cX7_parseHouse 49 = .ok (.return_, 1) := by decide +kernel
theorem dX7_expectWord_0 : decode cX7_expectWord 0 = .ok (.aload_n 0, 1) := by decide +kernel
theorem dX7_expectWord_1 : decode cX7_expectWord 1 = .ok (.getfield 38, 3) := by decide +kernel
theorem dX7_expectWord_4 : decode cX7_expectWord 4 = .ok (.iconst 1, 1) := by decide +kernel
theorem dX7_expectWord_5 : decode cX7_expectWord 5 = .ok (.if_icmp .ne 11, 3) := by decide +kernel
theorem dX7_expectWord_8 : decode cX7_expectWord 8 = .ok (.aload_n 0, 1) := by decide +kernel
theorem dX7_expectWord_9 : decode cX7_expectWord 9 = .ok (.aload_n 1, 1) := by decide +kernel
theorem dX7_expectWord_10 : decode cX7_expectWord 10 = .ok (.invokevirtual 66, 3) := by decide +kernel
theorem dX7_expectWord_13 : decode cX7_expectWord 13 = .ok (.ifCond .ne 11, 3) := by decide +kernel
theorem dX7_expectWord_16 : decode cX7_expectWord 16 = .ok (.aload_n 0, 1) := by decide +kernel
theorem dX7_expectWord_17 : decode cX7_expectWord 17 = .ok (.aload_n 0, 1) := by decide +kernel
theorem dX7_expectWord_18 : decode cX7_expectWord 18 = .ok (.getfield 70, 3) := by decide +kernel
theorem dX7_expectWord_21 : decode cX7_expectWord 21 = .ok (.putfield 15, 3) := by decide +kernel
theorem dX7_expectWord_24 : decode cX7_expectWord 24 = .ok (.return_, 1) := by decide +kernel
theorem dX7_tokenIs_0 : decode cX7_tokenIs 0 = .ok (.aload_n 0, 1) := by decide +kernel
theorem dX7_tokenIs_1 : decode cX7_tokenIs 1 = .ok (.getfield 29, 3) := by decide +kernel
theorem dX7_tokenIs_4 : decode cX7_tokenIs 4 = .ok (.aload_n 0, 1) := by decide +kernel
theorem dX7_tokenIs_5 : decode cX7_tokenIs 5 = .ok (.getfield 70, 3) := by decide +kernel
theorem dX7_tokenIs_8 : decode cX7_tokenIs 8 = .ok (.isub, 1) := by decide +kernel
theorem dX7_tokenIs_9 : decode cX7_tokenIs 9 = .ok (.aload_n 1, 1) := by decide +kernel
theorem dX7_tokenIs_10 : decode cX7_tokenIs 10 = .ok (.invokevirtual 73, 3) := by decide +kernel
theorem dX7_tokenIs_13 : decode cX7_tokenIs 13 = .ok (.if_icmp .eq 5, 3) := by decide +kernel
theorem dX7_tokenIs_16 : decode cX7_tokenIs 16 = .ok (.iconst 0, 1) := by decide +kernel
theorem dX7_tokenIs_17 : decode cX7_tokenIs 17 = .ok (.ireturn, 1) := by decide +kernel
theorem dX7_tokenIs_18 : decode cX7_tokenIs 18 = .ok (.iconst 0, 1) := by decide +kernel
theorem dX7_tokenIs_19 : decode cX7_tokenIs 19 = .ok (.istore_n 2, 1) := by decide +kernel
theorem dX7_tokenIs_20 : decode cX7_tokenIs 20 = .ok (.iload_n 2, 1) := by decide +kernel
theorem dX7_tokenIs_21 : decode cX7_tokenIs 21 = .ok (.aload_n 1, 1) := by decide +kernel
theorem dX7_tokenIs_22 : decode cX7_tokenIs 22 = .ok (.invokevirtual 73, 3) := by decide +kernel
theorem dX7_tokenIs_25 : decode cX7_tokenIs 25 = .ok (.if_icmp .ge 29, 3) := by decide +kernel
theorem dX7_tokenIs_28 : decode cX7_tokenIs 28 = .ok (.aload_n 0, 1) := by decide +kernel
theorem dX7_tokenIs_29 : decode cX7_tokenIs 29 = .ok (.aload_n 0, 1) := by decide +kernel
theorem dX7_tokenIs_30 : decode cX7_tokenIs 30 = .ok (.getfield 70, 3) := by decide +kernel
theorem dX7_tokenIs_33 : decode cX7_tokenIs 33 = .ok (.iload_n 2, 1) := by decide +kernel
theorem dX7_tokenIs_34 : decode cX7_tokenIs 34 = .ok (.iadd, 1) := by decide +kernel
theorem dX7_tokenIs_35 : decode cX7_tokenIs 35 = .ok (.invokevirtual 78, 3) := by decide +kernel
theorem dX7_tokenIs_38 : decode cX7_tokenIs 38 = .ok (.aload_n 1, 1) := by decide +kernel
theorem dX7_tokenIs_39 : decode cX7_tokenIs 39 = .ok (.iload_n 2, 1) := by decide +kernel
theorem dX7_tokenIs_40 : decode cX7_tokenIs 40 = .ok (.invokevirtual 81, 3) := by decide +kernel
theorem dX7_tokenIs_43 : decode cX7_tokenIs 43 = .ok (.if_icmp .eq 5, 3) := by decide +kernel
theorem dX7_tokenIs_46 : decode cX7_tokenIs 46 = .ok (.iconst 0, 1) := by decide +kernel
theorem dX7_tokenIs_47 : decode cX7_tokenIs 47 = .ok (.ireturn, 1) := by decide +kernel
theorem dX7_tokenIs_48 : decode cX7_tokenIs 48 = .ok (.iinc 2 1, 3) := by decide +kernel
theorem dX7_tokenIs_51 : decode cX7_tokenIs 51 = .ok (.goto (-31), 3) := by decide +kernel
theorem dX7_tokenIs_54 : decode cX7_tokenIs 54 = .ok (.iconst 1, 1) := by decide +kernel
theorem dX7_tokenIs_55 : decode cX7_tokenIs 55 = .ok (.ireturn, 1) := by decide +kernel
theorem dX7_expectNumber_0 : decode cX7_expectNumber 0 = .ok (.aload_n 0, 1) := by decide +kernel
theorem dX7_expectNumber_1 : decode cX7_expectNumber 1 = .ok (.getfield 15, 3) := by decide +kernel
theorem dX7_expectNumber_4 : decode cX7_expectNumber 4 = .ok (.iconst (-1), 1) := by decide +kernel
theorem dX7_expectNumber_5 : decode cX7_expectNumber 5 = .ok (.if_icmp .eq 5, 3) := by decide +kernel
theorem dX7_expectNumber_8 : decode cX7_expectNumber 8 = .ok (.iconst 0, 1) := by decide +kernel
theorem dX7_expectNumber_9 : decode cX7_expectNumber 9 = .ok (.ireturn, 1) := by decide +kernel
theorem dX7_expectNumber_10 : decode cX7_expectNumber 10 = .ok (.aload_n 0, 1) := by decide +kernel
theorem dX7_expectNumber_11 : decode cX7_expectNumber 11 = .ok (.invokevirtual 32, 3) := by decide +kernel
theorem dX7_expectNumber_14 : decode cX7_expectNumber 14 = .ok (.aload_n 0, 1) := by decide +kernel
theorem dX7_expectNumber_15 : decode cX7_expectNumber 15 = .ok (.getfield 38, 3) := by decide +kernel
theorem dX7_expectNumber_18 : decode cX7_expectNumber 18 = .ok (.iconst 2, 1) := by decide +kernel
theorem dX7_expectNumber_19 : decode cX7_expectNumber 19 = .ok (.if_icmp .ne 18, 3) := by decide +kernel
theorem dX7_expectNumber_22 : decode cX7_expectNumber 22 = .ok (.aload_n 0, 1) := by decide +kernel
theorem dX7_expectNumber_23 : decode cX7_expectNumber 23 = .ok (.getfield 85, 3) := by decide +kernel
theorem dX7_expectNumber_26 : decode cX7_expectNumber 26 = .ok (.ifCond .lt 11, 3) := by decide +kernel
theorem dX7_expectNumber_29 : decode cX7_expectNumber 29 = .ok (.aload_n 0, 1) := by decide +kernel
theorem dX7_expectNumber_30 : decode cX7_expectNumber 30 = .ok (.getfield 85, 3) := by decide +kernel
theorem dX7_expectNumber_33 : decode cX7_expectNumber 33 = .ok (.iload_n 1, 1) := by decide +kernel
theorem dX7_expectNumber_34 : decode cX7_expectNumber 34 = .ok (.if_icmp .le 13, 3) := by decide +kernel
theorem dX7_expectNumber_37 : decode cX7_expectNumber 37 = .ok (.aload_n 0, 1) := by decide +kernel
theorem dX7_expectNumber_38 : decode cX7_expectNumber 38 = .ok (.aload_n 0, 1) := by decide +kernel
theorem dX7_expectNumber_39 : decode cX7_expectNumber 39 = .ok (.getfield 70, 3) := by decide +kernel
theorem dX7_expectNumber_42 : decode cX7_expectNumber 42 = .ok (.putfield 15, 3) := by decide +kernel
theorem dX7_expectNumber_45 : decode cX7_expectNumber 45 = .ok (.iconst 0, 1) := by decide +kernel
theorem dX7_expectNumber_46 : decode cX7_expectNumber 46 = .ok (.ireturn, 1) := by decide +kernel
theorem dX7_expectNumber_47 : decode cX7_expectNumber 47 = .ok (.aload_n 0, 1) := by decide +kernel
theorem dX7_expectNumber_48 : decode cX7_expectNumber 48 = .ok (.getfield 85, 3) := by decide +kernel
theorem dX7_expectNumber_51 : decode cX7_expectNumber 51 = .ok (.ireturn, 1) := by decide +kernel
theorem dX7_expectStop_0 : decode cX7_expectStop 0 = .ok (.aload_n 0, 1) := by decide +kernel
theorem dX7_expectStop_1 : decode cX7_expectStop 1 = .ok (.getfield 15, 3) := by decide +kernel
theorem dX7_expectStop_4 : decode cX7_expectStop 4 = .ok (.iconst (-1), 1) := by decide +kernel
theorem dX7_expectStop_5 : decode cX7_expectStop 5 = .ok (.if_icmp .eq 4, 3) := by decide +kernel
theorem dX7_expectStop_8 : decode cX7_expectStop 8 = .ok (.return_, 1) := by decide +kernel
theorem dX7_expectStop_9 : decode cX7_expectStop 9 = .ok (.aload_n 0, 1) := by decide +kernel
theorem dX7_expectStop_10 : decode cX7_expectStop 10 = .ok (.invokevirtual 32, 3) := by decide +kernel
theorem dX7_expectStop_13 : decode cX7_expectStop 13 = .ok (.aload_n 0, 1) := by decide +kernel
theorem dX7_expectStop_14 : decode cX7_expectStop 14 = .ok (.getfield 38, 3) := by decide +kernel
theorem dX7_expectStop_17 : decode cX7_expectStop 17 = .ok (.iconst 3, 1) := by decide +kernel
theorem dX7_expectStop_18 : decode cX7_expectStop 18 = .ok (.if_icmp .eq 11, 3) := by decide +kernel
theorem dX7_expectStop_21 : decode cX7_expectStop 21 = .ok (.aload_n 0, 1) := by decide +kernel
theorem dX7_expectStop_22 : decode cX7_expectStop 22 = .ok (.aload_n 0, 1) := by decide +kernel
theorem dX7_expectStop_23 : decode cX7_expectStop 23 = .ok (.getfield 70, 3) := by decide +kernel
theorem dX7_expectStop_26 : decode cX7_expectStop 26 = .ok (.putfield 15, 3) := by decide +kernel
theorem dX7_expectStop_29 : decode cX7_expectStop 29 = .ok (.return_, 1) := by decide +kernel
theorem dX7_scan_0 : decode cX7_scan 0 = .ok (.aload_n 0, 1) := by decide +kernel
theorem dX7_scan_1 : decode cX7_scan 1 = .ok (.getfield 29, 3) := by decide +kernel
theorem dX7_scan_4 : decode cX7_scan 4 = .ok (.aload_n 0, 1) := by decide +kernel
theorem dX7_scan_5 : decode cX7_scan 5 = .ok (.getfield 23, 3) := by decide +kernel
theorem dX7_scan_8 : decode cX7_scan 8 = .ok (.if_icmp .ge 29, 3) := by decide +kernel
theorem dX7_scan_11 : decode cX7_scan 11 = .ok (.aload_n 0, 1) := by decide +kernel
theorem dX7_scan_12 : decode cX7_scan 12 = .ok (.aload_n 0, 1) := by decide +kernel
theorem dX7_scan_13 : decode cX7_scan 13 = .ok (.getfield 29, 3) := by decide +kernel
theorem dX7_scan_16 : decode cX7_scan 16 = .ok (.invokevirtual 78, 3) := by decide +kernel
theorem dX7_scan_19 : decode cX7_scan 19 = .ok (.bipush 32, 2) := by decide +kernel
theorem dX7_scan_21 : decode cX7_scan 21 = .ok (.if_icmp .ne 16, 3) := by decide +kernel
theorem dX7_scan_24 : decode cX7_scan 24 = .ok (.aload_n 0, 1) := by decide +kernel
theorem dX7_scan_25 : decode cX7_scan 25 = .ok (.dup, 1) := by decide +kernel
theorem dX7_scan_26 : decode cX7_scan 26 = .ok (.getfield 29, 3) := by decide +kernel
theorem dX7_scan_29 : decode cX7_scan 29 = .ok (.iconst 1, 1) := by decide +kernel
theorem dX7_scan_30 : decode cX7_scan 30 = .ok (.iadd, 1) := by decide +kernel
theorem dX7_scan_31 : decode cX7_scan 31 = .ok (.putfield 29, 3) := by decide +kernel
theorem dX7_scan_34 : decode cX7_scan 34 = .ok (.goto (-34), 3) := by decide +kernel
theorem dX7_scan_37 : decode cX7_scan 37 = .ok (.aload_n 0, 1) := by decide +kernel
theorem dX7_scan_38 : decode cX7_scan 38 = .ok (.aload_n 0, 1) := by decide +kernel
theorem dX7_scan_39 : decode cX7_scan 39 = .ok (.getfield 29, 3) := by decide +kernel
theorem dX7_scan_42 : decode cX7_scan 42 = .ok (.putfield 70, 3) := by decide +kernel
theorem dX7_scan_45 : decode cX7_scan 45 = .ok (.aload_n 0, 1) := by decide +kernel
theorem dX7_scan_46 : decode cX7_scan 46 = .ok (.aload_n 0, 1) := by decide +kernel
theorem dX7_scan_47 : decode cX7_scan 47 = .ok (.getfield 29, 3) := by decide +kernel
theorem dX7_scan_50 : decode cX7_scan 50 = .ok (.invokevirtual 78, 3) := by decide +kernel
theorem dX7_scan_53 : decode cX7_scan 53 = .ok (.istore_n 1, 1) := by decide +kernel
theorem dX7_scan_54 : decode cX7_scan 54 = .ok (.iload_n 1, 1) := by decide +kernel
theorem dX7_scan_55 : decode cX7_scan 55 = .ok (.ifCond .ge 11, 3) := by decide +kernel
theorem dX7_scan_58 : decode cX7_scan 58 = .ok (.aload_n 0, 1) := by decide +kernel
theorem dX7_scan_59 : decode cX7_scan 59 = .ok (.iconst 0, 1) := by decide +kernel
theorem dX7_scan_60 : decode cX7_scan 60 = .ok (.putfield 38, 3) := by decide +kernel
theorem dX7_scan_63 : decode cX7_scan 63 = .ok (.goto 66, 3) := by decide +kernel
theorem dX7_scan_66 : decode cX7_scan 66 = .ok (.iload_n 1, 1) := by decide +kernel
theorem dX7_scan_67 : decode cX7_scan 67 = .ok (.invokestatic 88, 3) := by decide +kernel
theorem dX7_scan_70 : decode cX7_scan 70 = .ok (.ifCond .eq 15, 3) := by decide +kernel
theorem dX7_scan_73 : decode cX7_scan 73 = .ok (.aload_n 0, 1) := by decide +kernel
theorem dX7_scan_74 : decode cX7_scan 74 = .ok (.iconst 1, 1) := by decide +kernel
theorem dX7_scan_75 : decode cX7_scan 75 = .ok (.putfield 38, 3) := by decide +kernel
theorem dX7_scan_78 : decode cX7_scan 78 = .ok (.aload_n 0, 1) := by decide +kernel
theorem dX7_scan_79 : decode cX7_scan 79 = .ok (.invokevirtual 91, 3) := by decide +kernel
theorem dX7_scan_82 : decode cX7_scan 82 = .ok (.goto 47, 3) := by decide +kernel
theorem dX7_scan_85 : decode cX7_scan 85 = .ok (.iload_n 1, 1) := by decide +kernel
theorem dX7_scan_86 : decode cX7_scan 86 = .ok (.invokestatic 94, 3) := by decide +kernel
theorem dX7_scan_89 : decode cX7_scan 89 = .ok (.ifCond .eq 15, 3) := by decide +kernel
theorem dX7_scan_92 : decode cX7_scan 92 = .ok (.aload_n 0, 1) := by decide +kernel
theorem dX7_scan_93 : decode cX7_scan 93 = .ok (.iconst 2, 1) := by decide +kernel
theorem dX7_scan_94 : decode cX7_scan 94 = .ok (.putfield 38, 3) := by decide +kernel
theorem dX7_scan_97 : decode cX7_scan 97 = .ok (.aload_n 0, 1) := by decide +kernel
theorem dX7_scan_98 : decode cX7_scan 98 = .ok (.invokevirtual 97, 3) := by decide +kernel
theorem dX7_scan_101 : decode cX7_scan 101 = .ok (.goto 28, 3) := by decide +kernel
theorem dX7_scan_104 : decode cX7_scan 104 = .ok (.aload_n 0, 1) := by decide +kernel
theorem dX7_scan_105 : decode cX7_scan 105 = .ok (.iload_n 1, 1) := by decide +kernel
theorem dX7_scan_106 : decode cX7_scan 106 = .ok (.bipush 59, 2) := by decide +kernel
theorem dX7_scan_108 : decode cX7_scan 108 = .ok (.if_icmp .ne 7, 3) := by decide +kernel
theorem dX7_scan_111 : decode cX7_scan 111 = .ok (.iconst 3, 1) := by decide +kernel
theorem dX7_scan_112 : decode cX7_scan 112 = .ok (.goto 4, 3) := by decide +kernel
theorem dX7_scan_115 : decode cX7_scan 115 = .ok (.iconst 4, 1) := by decide +kernel
theorem dX7_scan_116 : decode cX7_scan 116 = .ok (.putfield 38, 3) := by decide +kernel
theorem dX7_scan_119 : decode cX7_scan 119 = .ok (.aload_n 0, 1) := by decide +kernel
theorem dX7_scan_120 : decode cX7_scan 120 = .ok (.dup, 1) := by decide +kernel
theorem dX7_scan_121 : decode cX7_scan 121 = .ok (.getfield 29, 3) := by decide +kernel
theorem dX7_scan_124 : decode cX7_scan 124 = .ok (.iconst 1, 1) := by decide +kernel
theorem dX7_scan_125 : decode cX7_scan 125 = .ok (.iadd, 1) := by decide +kernel
theorem dX7_scan_126 : decode cX7_scan 126 = .ok (.putfield 29, 3) := by decide +kernel
theorem dX7_scan_129 : decode cX7_scan 129 = .ok (.return_, 1) := by decide +kernel
theorem dX7_passWord_0 : decode cX7_passWord 0 = .ok (.aload_n 0, 1) := by decide +kernel
theorem dX7_passWord_1 : decode cX7_passWord 1 = .ok (.getfield 29, 3) := by decide +kernel
theorem dX7_passWord_4 : decode cX7_passWord 4 = .ok (.aload_n 0, 1) := by decide +kernel
theorem dX7_passWord_5 : decode cX7_passWord 5 = .ok (.getfield 23, 3) := by decide +kernel
theorem dX7_passWord_8 : decode cX7_passWord 8 = .ok (.if_icmp .ge 30, 3) := by decide +kernel
theorem dX7_passWord_11 : decode cX7_passWord 11 = .ok (.aload_n 0, 1) := by decide +kernel
theorem dX7_passWord_12 : decode cX7_passWord 12 = .ok (.aload_n 0, 1) := by decide +kernel
theorem dX7_passWord_13 : decode cX7_passWord 13 = .ok (.getfield 29, 3) := by decide +kernel
theorem dX7_passWord_16 : decode cX7_passWord 16 = .ok (.invokevirtual 78, 3) := by decide +kernel
theorem dX7_passWord_19 : decode cX7_passWord 19 = .ok (.invokestatic 88, 3) := by decide +kernel
theorem dX7_passWord_22 : decode cX7_passWord 22 = .ok (.ifCond .eq 16, 3) := by decide +kernel
theorem dX7_passWord_25 : decode cX7_passWord 25 = .ok (.aload_n 0, 1) := by decide +kernel
theorem dX7_passWord_26 : decode cX7_passWord 26 = .ok (.dup, 1) := by decide +kernel
theorem dX7_passWord_27 : decode cX7_passWord 27 = .ok (.getfield 29, 3) := by decide +kernel
theorem dX7_passWord_30 : decode cX7_passWord 30 = .ok (.iconst 1, 1) := by decide +kernel
theorem dX7_passWord_31 : decode cX7_passWord 31 = .ok (.iadd, 1) := by decide +kernel
theorem dX7_passWord_32 : decode cX7_passWord 32 = .ok (.putfield 29, 3) := by decide +kernel
theorem dX7_passWord_35 : decode cX7_passWord 35 = .ok (.goto (-35), 3) := by decide +kernel
theorem dX7_passWord_38 : decode cX7_passWord 38 = .ok (.return_, 1) := by decide +kernel
theorem dX7_passNumber_0 : decode cX7_passNumber 0 = .ok (.aload_n 0, 1) := by decide +kernel
theorem dX7_passNumber_1 : decode cX7_passNumber 1 = .ok (.iconst 0, 1) := by decide +kernel
theorem dX7_passNumber_2 : decode cX7_passNumber 2 = .ok (.putfield 85, 3) := by decide +kernel
theorem dX7_passNumber_5 : decode cX7_passNumber 5 = .ok (.aload_n 0, 1) := by decide +kernel
theorem dX7_passNumber_6 : decode cX7_passNumber 6 = .ok (.getfield 29, 3) := by decide +kernel
theorem dX7_passNumber_9 : decode cX7_passNumber 9 = .ok (.aload_n 0, 1) := by decide +kernel
theorem dX7_passNumber_10 : decode cX7_passNumber 10 = .ok (.getfield 23, 3) := by decide +kernel
theorem dX7_passNumber_13 : decode cX7_passNumber 13 = .ok (.if_icmp .ge 70, 3) := by decide +kernel
theorem dX7_passNumber_16 : decode cX7_passNumber 16 = .ok (.aload_n 0, 1) := by decide +kernel
theorem dX7_passNumber_17 : decode cX7_passNumber 17 = .ok (.aload_n 0, 1) := by decide +kernel
theorem dX7_passNumber_18 : decode cX7_passNumber 18 = .ok (.getfield 29, 3) := by decide +kernel
theorem dX7_passNumber_21 : decode cX7_passNumber 21 = .ok (.invokevirtual 78, 3) := by decide +kernel
theorem dX7_passNumber_24 : decode cX7_passNumber 24 = .ok (.invokestatic 94, 3) := by decide +kernel
theorem dX7_passNumber_27 : decode cX7_passNumber 27 = .ok (.ifCond .eq 56, 3) := by decide +kernel
theorem dX7_passNumber_30 : decode cX7_passNumber 30 = .ok (.aload_n 0, 1) := by decide +kernel
theorem dX7_passNumber_31 : decode cX7_passNumber 31 = .ok (.aload_n 0, 1) := by decide +kernel
theorem dX7_passNumber_32 : decode cX7_passNumber 32 = .ok (.getfield 29, 3) := by decide +kernel
theorem dX7_passNumber_35 : decode cX7_passNumber 35 = .ok (.aload_n 0, 1) := by decide +kernel
theorem dX7_passNumber_36 : decode cX7_passNumber 36 = .ok (.getfield 70, 3) := by decide +kernel
theorem dX7_passNumber_39 : decode cX7_passNumber 39 = .ok (.isub, 1) := by decide +kernel
theorem dX7_passNumber_40 : decode cX7_passNumber 40 = .ok (.iconst 3, 1) := by decide +kernel
theorem dX7_passNumber_41 : decode cX7_passNumber 41 = .ok (.if_icmp .ge 25, 3) := by decide +kernel
theorem dX7_passNumber_44 : decode cX7_passNumber 44 = .ok (.bipush 10, 2) := by decide +kernel
theorem dX7_passNumber_46 : decode cX7_passNumber 46 = .ok (.aload_n 0, 1) := by decide +kernel
theorem dX7_passNumber_47 : decode cX7_passNumber 47 = .ok (.getfield 85, 3) := by decide +kernel
theorem dX7_passNumber_50 : decode cX7_passNumber 50 = .ok (.imul, 1) := by decide +kernel
theorem dX7_passNumber_51 : decode cX7_passNumber 51 = .ok (.aload_n 0, 1) := by decide +kernel
theorem dX7_passNumber_52 : decode cX7_passNumber 52 = .ok (.aload_n 0, 1) := by decide +kernel
theorem dX7_passNumber_53 : decode cX7_passNumber 53 = .ok (.getfield 29, 3) := by decide +kernel
theorem dX7_passNumber_56 : decode cX7_passNumber 56 = .ok (.invokevirtual 78, 3) := by decide +kernel
theorem dX7_passNumber_59 : decode cX7_passNumber 59 = .ok (.iadd, 1) := by decide +kernel
theorem dX7_passNumber_60 : decode cX7_passNumber 60 = .ok (.bipush 48, 2) := by decide +kernel
theorem dX7_passNumber_62 : decode cX7_passNumber 62 = .ok (.isub, 1) := by decide +kernel
theorem dX7_passNumber_63 : decode cX7_passNumber 63 = .ok (.goto 4, 3) := by decide +kernel
theorem dX7_passNumber_66 : decode cX7_passNumber 66 = .ok (.iconst (-1), 1) := by decide +kernel
theorem dX7_passNumber_67 : decode cX7_passNumber 67 = .ok (.putfield 85, 3) := by decide +kernel
theorem dX7_passNumber_70 : decode cX7_passNumber 70 = .ok (.aload_n 0, 1) := by decide +kernel
theorem dX7_passNumber_71 : decode cX7_passNumber 71 = .ok (.dup, 1) := by decide +kernel
theorem dX7_passNumber_72 : decode cX7_passNumber 72 = .ok (.getfield 29, 3) := by decide +kernel
theorem dX7_passNumber_75 : decode cX7_passNumber 75 = .ok (.iconst 1, 1) := by decide +kernel
theorem dX7_passNumber_76 : decode cX7_passNumber 76 = .ok (.iadd, 1) := by decide +kernel
theorem dX7_passNumber_77 : decode cX7_passNumber 77 = .ok (.putfield 29, 3) := by decide +kernel
theorem dX7_passNumber_80 : decode cX7_passNumber 80 = .ok (.goto (-75), 3) := by decide +kernel
theorem dX7_passNumber_83 : decode cX7_passNumber 83 = .ok (.return_, 1) := by decide +kernel
theorem dX7_byteAt_0 : decode cX7_byteAt 0 = .ok (.iload_n 1, 1) := by decide +kernel
theorem dX7_byteAt_1 : decode cX7_byteAt 1 = .ok (.ifCond .lt 27, 3) := by decide +kernel
theorem dX7_byteAt_4 : decode cX7_byteAt 4 = .ok (.iload_n 1, 1) := by decide +kernel
theorem dX7_byteAt_5 : decode cX7_byteAt 5 = .ok (.aload_n 0, 1) := by decide +kernel
theorem dX7_byteAt_6 : decode cX7_byteAt 6 = .ok (.getfield 23, 3) := by decide +kernel
theorem dX7_byteAt_9 : decode cX7_byteAt 9 = .ok (.if_icmp .ge 19, 3) := by decide +kernel
theorem dX7_byteAt_12 : decode cX7_byteAt 12 = .ok (.iload_n 1, 1) := by decide +kernel
theorem dX7_byteAt_13 : decode cX7_byteAt 13 = .ok (.sipush 150, 3) := by decide +kernel
theorem dX7_byteAt_16 : decode cX7_byteAt 16 = .ok (.if_icmp .ge 12, 3) := by decide +kernel
theorem dX7_byteAt_19 : decode cX7_byteAt 19 = .ok (.aload_n 0, 1) := by decide +kernel
theorem dX7_byteAt_20 : decode cX7_byteAt 20 = .ok (.getfield 19, 3) := by decide +kernel
theorem dX7_byteAt_23 : decode cX7_byteAt 23 = .ok (.iload_n 1, 1) := by decide +kernel
theorem dX7_byteAt_24 : decode cX7_byteAt 24 = .ok (.baload, 1) := by decide +kernel
theorem dX7_byteAt_25 : decode cX7_byteAt 25 = .ok (.goto 4, 3) := by decide +kernel
theorem dX7_byteAt_28 : decode cX7_byteAt 28 = .ok (.iconst (-1), 1) := by decide +kernel
theorem dX7_byteAt_29 : decode cX7_byteAt 29 = .ok (.ireturn, 1) := by decide +kernel
theorem dX7_isLetter_0 : decode cX7_isLetter 0 = .ok (.iload_n 0, 1) := by decide +kernel
theorem dX7_isLetter_1 : decode cX7_isLetter 1 = .ok (.bipush 97, 2) := by decide +kernel
theorem dX7_isLetter_3 : decode cX7_isLetter 3 = .ok (.if_icmp .lt 13, 3) := by decide +kernel
theorem dX7_isLetter_6 : decode cX7_isLetter 6 = .ok (.iload_n 0, 1) := by decide +kernel
theorem dX7_isLetter_7 : decode cX7_isLetter 7 = .ok (.bipush 122, 2) := by decide +kernel
theorem dX7_isLetter_9 : decode cX7_isLetter 9 = .ok (.if_icmp .gt 7, 3) := by decide +kernel
theorem dX7_isLetter_12 : decode cX7_isLetter 12 = .ok (.iconst 1, 1) := by decide +kernel
theorem dX7_isLetter_13 : decode cX7_isLetter 13 = .ok (.goto 4, 3) := by decide +kernel
theorem dX7_isLetter_16 : decode cX7_isLetter 16 = .ok (.iconst 0, 1) := by decide +kernel
theorem dX7_isLetter_17 : decode cX7_isLetter 17 = .ok (.ireturn, 1) := by decide +kernel
theorem dX7_isFigure_0 : decode cX7_isFigure 0 = .ok (.iload_n 0, 1) := by decide +kernel
theorem dX7_isFigure_1 : decode cX7_isFigure 1 = .ok (.bipush 48, 2) := by decide +kernel
theorem dX7_isFigure_3 : decode cX7_isFigure 3 = .ok (.if_icmp .lt 13, 3) := by decide +kernel
theorem dX7_isFigure_6 : decode cX7_isFigure 6 = .ok (.iload_n 0, 1) := by decide +kernel
theorem dX7_isFigure_7 : decode cX7_isFigure 7 = .ok (.bipush 57, 2) := by decide +kernel
theorem dX7_isFigure_9 : decode cX7_isFigure 9 = .ok (.if_icmp .gt 7, 3) := by decide +kernel
theorem dX7_isFigure_12 : decode cX7_isFigure 12 = .ok (.iconst 1, 1) := by decide +kernel
theorem dX7_isFigure_13 : decode cX7_isFigure 13 = .ok (.goto 4, 3) := by decide +kernel
theorem dX7_isFigure_16 : decode cX7_isFigure 16 = .ok (.iconst 0, 1) := by decide +kernel
theorem dX7_isFigure_17 : decode cX7_isFigure 17 = .ok (.ireturn, 1) := by decide +kernel
theorem dX8_init_0 : decode cX8_init 0 = .ok (.aload_n 0, 1) := by decide +kernel
theorem dX8_init_1 : decode cX8_init 1 = .ok (.aload_n 1, 1) := by decide +kernel
theorem dX8_init_2 : decode cX8_init 2 = .ok (.invokespecial 1, 3) := by decide +kernel
theorem dX8_init_5 : decode cX8_init 5 = .ok (.return_, 1) := by decide +kernel
theorem dX8_lets_0 : decode cX8_lets 0 = .ok (.iload_n 1, 1) := by decide +kernel
theorem dX8_lets_1 : decode cX8_lets 1 = .ok (.iload_n 2, 1) := by decide +kernel
theorem dX8_lets_2 : decode cX8_lets 2 = .ok (.isub, 1) := by decide +kernel
theorem dX8_lets_3 : decode cX8_lets 3 = .ok (.invokestatic 7, 3) := by decide +kernel
theorem dX8_lets_6 : decode cX8_lets 6 = .ok (.iload_n 3, 1) := by decide +kernel
theorem dX8_lets_7 : decode cX8_lets 7 = .ok (.if_icmp .lt 17, 3) := by decide +kernel
theorem dX8_lets_10 : decode cX8_lets 10 = .ok (.aload_n 0, 1) := by decide +kernel
theorem dX8_lets_11 : decode cX8_lets 11 = .ok (.iload_n 1, 1) := by decide +kernel
theorem dX8_lets_12 : decode cX8_lets 12 = .ok (.iload_n 2, 1) := by decide +kernel
theorem dX8_lets_13 : decode cX8_lets 13 = .ok (.iload_n 3, 1) := by decide +kernel
theorem dX8_lets_14 : decode cX8_lets 14 = .ok (.invokespecial 13, 3) := by decide +kernel
theorem dX8_lets_17 : decode cX8_lets 17 = .ok (.ifCond .eq 7, 3) := by decide +kernel
theorem dX8_lets_20 : decode cX8_lets 20 = .ok (.iconst 1, 1) := by decide +kernel
theorem dX8_lets_21 : decode cX8_lets 21 = .ok (.goto 4, 3) := by decide +kernel
theorem dX8_lets_24 : decode cX8_lets 24 = .ok (.iconst 0, 1) := by decide +kernel
theorem dX8_lets_25 : decode cX8_lets 25 = .ok (.ireturn, 1) := by decide +kernel
theorem dX9_init_0 : decode cX9_init 0 = .ok (.aload_n 0, 1) := by decide +kernel
theorem dX9_init_1 : decode cX9_init 1 = .ok (.aload_n 1, 1) := by decide +kernel
theorem dX9_init_2 : decode cX9_init 2 = .ok (.invokespecial 1, 3) := by decide +kernel
theorem dX9_init_5 : decode cX9_init 5 = .ok (.return_, 1) := by decide +kernel
theorem dX9_lets_0 : decode cX9_lets 0 = .ok (.aload_n 0, 1) := by decide +kernel
theorem dX9_lets_1 : decode cX9_lets 1 = .ok (.iload_n 1, 1) := by decide +kernel
theorem dX9_lets_2 : decode cX9_lets 2 = .ok (.iload_n 2, 1) := by decide +kernel
theorem dX9_lets_3 : decode cX9_lets 3 = .ok (.iload_n 3, 1) := by decide +kernel
theorem dX9_lets_4 : decode cX9_lets 4 = .ok (.invokespecial 7, 3) := by decide +kernel
theorem dX9_lets_7 : decode cX9_lets 7 = .ok (.ifCond .ne 25, 3) := by decide +kernel
theorem dX9_lets_10 : decode cX9_lets 10 = .ok (.aload_n 0, 1) := by decide +kernel
theorem dX9_lets_11 : decode cX9_lets 11 = .ok (.getfield 11, 3) := by decide +kernel
theorem dX9_lets_14 : decode cX9_lets 14 = .ok (.iload_n 1, 1) := by decide +kernel
theorem dX9_lets_15 : decode cX9_lets 15 = .ok (.invokevirtual 17, 3) := by decide +kernel
theorem dX9_lets_18 : decode cX9_lets 18 = .ok (.ifCond .eq 18, 3) := by decide +kernel
theorem dX9_lets_21 : decode cX9_lets 21 = .ok (.aload_n 0, 1) := by decide +kernel
theorem dX9_lets_22 : decode cX9_lets 22 = .ok (.getfield 11, 3) := by decide +kernel
theorem dX9_lets_25 : decode cX9_lets 25 = .ok (.iload_n 2, 1) := by decide +kernel
theorem dX9_lets_26 : decode cX9_lets 26 = .ok (.invokevirtual 17, 3) := by decide +kernel
theorem dX9_lets_29 : decode cX9_lets 29 = .ok (.ifCond .eq 7, 3) := by decide +kernel
theorem dX9_lets_32 : decode cX9_lets 32 = .ok (.iconst 1, 1) := by decide +kernel
theorem dX9_lets_33 : decode cX9_lets 33 = .ok (.goto 4, 3) := by decide +kernel
theorem dX9_lets_36 : decode cX9_lets 36 = .ok (.iconst 0, 1) := by decide +kernel
theorem dX9_lets_37 : decode cX9_lets 37 = .ok (.ireturn, 1) := by decide +kernel
theorem dX10_init_0 : decode cX10_init 0 = .ok (.aload_n 0, 1) := by decide +kernel
theorem dX10_init_1 : decode cX10_init 1 = .ok (.invokespecial 3, 3) := by decide +kernel
theorem dX10_init_4 : decode cX10_init 4 = .ok (.aload_n 0, 1) := by decide +kernel
theorem dX10_init_5 : decode cX10_init 5 = .ok (.bipush 8, 2) := by decide +kernel
theorem dX10_init_7 : decode cX10_init 7 = .ok (.newarray .int, 2) := by decide +kernel
theorem dX10_init_9 : decode cX10_init 9 = .ok (.putfield 9, 3) := by decide +kernel
theorem dX10_init_12 : decode cX10_init 12 = .ok (.aload_n 0, 1) := by decide +kernel
theorem dX10_init_13 : decode cX10_init 13 = .ok (.bipush 24, 2) := by decide +kernel
theorem dX10_init_15 : decode cX10_init 15 = .ok (.newarray .int, 2) := by decide +kernel
theorem dX10_init_17 : decode cX10_init 17 = .ok (.putfield 15, 3) := by decide +kernel
theorem dX10_init_20 : decode cX10_init 20 = .ok (.aload_n 0, 1) := by decide +kernel
theorem dX10_init_21 : decode cX10_init 21 = .ok (.bipush 24, 2) := by decide +kernel
theorem dX10_init_23 : decode cX10_init 23 = .ok (.newarray .int, 2) := by decide +kernel
theorem dX10_init_25 : decode cX10_init 25 = .ok (.putfield 18, 3) := by decide +kernel
theorem dX10_init_28 : decode cX10_init 28 = .ok (.aload_n 0, 1) := by decide +kernel
theorem dX10_init_29 : decode cX10_init 29 = .ok (.bipush 72, 2) := by decide +kernel
theorem dX10_init_31 : decode cX10_init 31 = .ok (.newarray .int, 2) := by decide +kernel
theorem dX10_init_33 : decode cX10_init 33 = .ok (.putfield 21, 3) := by decide +kernel
theorem dX10_init_36 : decode cX10_init 36 = .ok (.return_, 1) := by decide +kernel
theorem dX10_begin_0 : decode cX10_begin 0 = .ok (.iconst 0, 1) := by decide +kernel
theorem dX10_begin_1 : decode cX10_begin 1 = .ok (.istore_n 2, 1) := by decide +kernel
theorem dX10_begin_2 : decode cX10_begin 2 = .ok (.iload_n 2, 1) := by decide +kernel
theorem dX10_begin_3 : decode cX10_begin 3 = .ok (.bipush 8, 2) := by decide +kernel
theorem dX10_begin_5 : decode cX10_begin 5 = .ok (.if_icmp .ge 16, 3) := by decide +kernel
theorem dX10_begin_8 : decode cX10_begin 8 = .ok (.aload_n 0, 1) := by decide +kernel
theorem dX10_begin_9 : decode cX10_begin 9 = .ok (.getfield 9, 3) := by decide +kernel
theorem dX10_begin_12 : decode cX10_begin 12 = .ok (.iload_n 2, 1) := by decide +kernel
theorem dX10_begin_13 : decode cX10_begin 13 = .ok (.iconst 0, 1) := by decide +kernel
theorem dX10_begin_14 : decode cX10_begin 14 = .ok (.iastore, 1) := by decide +kernel
theorem dX10_begin_15 : decode cX10_begin 15 = .ok (.iinc 2 1, 3) := by decide +kernel
theorem dX10_begin_18 : decode cX10_begin 18 = .ok (.goto (-16), 3) := by decide +kernel
theorem dX10_begin_21 : decode cX10_begin 21 = .ok (.aload_n 0, 1) := by decide +kernel
theorem dX10_begin_22 : decode cX10_begin 22 = .ok (.iload_n 1, 1) := by decide +kernel
theorem dX10_begin_23 : decode cX10_begin 23 = .ok (.putfield 24, 3) := by decide +kernel
theorem dX10_begin_26 : decode cX10_begin 26 = .ok (.aload_n 0, 1) := by decide +kernel
theorem dX10_begin_27 : decode cX10_begin 27 = .ok (.iconst 0, 1) := by decide +kernel
theorem dX10_begin_28 : decode cX10_begin 28 = .ok (.putfield 28, 3) := by decide +kernel
theorem dX10_begin_31 : decode cX10_begin 31 = .ok (.aload_n 0, 1) := by decide +kernel
theorem dX10_begin_32 : decode cX10_begin 32 = .ok (.iconst 0, 1) := by decide +kernel
theorem dX10_begin_33 : decode cX10_begin 33 = .ok (.putfield 31, 3) := by decide +kernel
theorem dX10_begin_36 : decode cX10_begin 36 = .ok (.aload_n 0, 1) := by decide +kernel
theorem dX10_begin_37 : decode cX10_begin 37 = .ok (.iconst 0, 1) := by decide +kernel
theorem dX10_begin_38 : decode cX10_begin 38 = .ok (.putfield 34, 3) := by decide +kernel
theorem dX10_begin_41 : decode cX10_begin 41 = .ok (.return_, 1) := by decide +kernel
theorem dX10_copyFrom_0 : decode cX10_copyFrom 0 = .ok (.aload_n 1, 1) := by decide +kernel
theorem dX10_copyFrom_1 : decode cX10_copyFrom 1 = .ok (.getfield 9, 3) := by decide +kernel
theorem dX10_copyFrom_4 : decode cX10_copyFrom 4 = .ok (.iconst 0, 1) := by decide +kernel
theorem dX10_copyFrom_5 : decode cX10_copyFrom 5 = .ok (.aload_n 0, 1) := by decide +kernel
theorem dX10_copyFrom_6 : decode cX10_copyFrom 6 = .ok (.getfield 9, 3) := by decide +kernel
theorem dX10_copyFrom_9 : decode cX10_copyFrom 9 = .ok (.iconst 0, 1) := by decide +kernel
theorem dX10_copyFrom_10 : decode cX10_copyFrom 10 = .ok (.bipush 8, 2) := by decide +kernel
theorem dX10_copyFrom_12 : decode cX10_copyFrom 12 = .ok (.invokestatic 37, 3) := by decide +kernel
theorem dX10_copyFrom_15 : decode cX10_copyFrom 15 = .ok (.aload_n 1, 1) := by decide +kernel
theorem dX10_copyFrom_16 : decode cX10_copyFrom 16 = .ok (.getfield 15, 3) := by decide +kernel
theorem dX10_copyFrom_19 : decode cX10_copyFrom 19 = .ok (.iconst 0, 1) := by decide +kernel
theorem dX10_copyFrom_20 : decode cX10_copyFrom 20 = .ok (.aload_n 0, 1) := by decide +kernel
theorem dX10_copyFrom_21 : decode cX10_copyFrom 21 = .ok (.getfield 15, 3) := by decide +kernel
theorem dX10_copyFrom_24 : decode cX10_copyFrom 24 = .ok (.iconst 0, 1) := by decide +kernel
theorem dX10_copyFrom_25 : decode cX10_copyFrom 25 = .ok (.bipush 24, 2) := by decide +kernel
theorem dX10_copyFrom_27 : decode cX10_copyFrom 27 = .ok (.invokestatic 37, 3) := by decide +kernel
theorem dX10_copyFrom_30 : decode cX10_copyFrom 30 = .ok (.aload_n 1, 1) := by decide +kernel
theorem dX10_copyFrom_31 : decode cX10_copyFrom 31 = .ok (.getfield 18, 3) := by decide +kernel
theorem dX10_copyFrom_34 : decode cX10_copyFrom 34 = .ok (.iconst 0, 1) := by decide +kernel
theorem dX10_copyFrom_35 : decode cX10_copyFrom 35 = .ok (.aload_n 0, 1) := by decide +kernel
theorem dX10_copyFrom_36 : decode cX10_copyFrom 36 = .ok (.getfield 18, 3) := by decide +kernel
theorem dX10_copyFrom_39 : decode cX10_copyFrom 39 = .ok (.iconst 0, 1) := by decide +kernel
theorem dX10_copyFrom_40 : decode cX10_copyFrom 40 = .ok (.bipush 24, 2) := by decide +kernel
theorem dX10_copyFrom_42 : decode cX10_copyFrom 42 = .ok (.invokestatic 37, 3) := by decide +kernel
theorem dX10_copyFrom_45 : decode cX10_copyFrom 45 = .ok (.aload_n 1, 1) := by decide +kernel
theorem dX10_copyFrom_46 : decode cX10_copyFrom 46 = .ok (.getfield 21, 3) := by decide +kernel
theorem dX10_copyFrom_49 : decode cX10_copyFrom 49 = .ok (.iconst 0, 1) := by decide +kernel
theorem dX10_copyFrom_50 : decode cX10_copyFrom 50 = .ok (.aload_n 0, 1) := by decide +kernel
theorem dX10_copyFrom_51 : decode cX10_copyFrom 51 = .ok (.getfield 21, 3) := by decide +kernel
theorem dX10_copyFrom_54 : decode cX10_copyFrom 54 = .ok (.iconst 0, 1) := by decide +kernel
theorem dX10_copyFrom_55 : decode cX10_copyFrom 55 = .ok (.bipush 72, 2) := by decide +kernel
theorem dX10_copyFrom_57 : decode cX10_copyFrom 57 = .ok (.invokestatic 37, 3) := by decide +kernel
theorem dX10_copyFrom_60 : decode cX10_copyFrom 60 = .ok (.aload_n 0, 1) := by decide +kernel
theorem dX10_copyFrom_61 : decode cX10_copyFrom 61 = .ok (.aload_n 1, 1) := by decide +kernel
theorem dX10_copyFrom_62 : decode cX10_copyFrom 62 = .ok (.getfield 24, 3) := by decide +kernel
theorem dX10_copyFrom_65 : decode cX10_copyFrom 65 = .ok (.putfield 24, 3) := by decide +kernel
theorem dX10_copyFrom_68 : decode cX10_copyFrom 68 = .ok (.aload_n 0, 1) := by decide +kernel
theorem dX10_copyFrom_69 : decode cX10_copyFrom 69 = .ok (.aload_n 1, 1) := by decide +kernel
theorem dX10_copyFrom_70 : decode cX10_copyFrom 70 = .ok (.getfield 28, 3) := by decide +kernel
theorem dX10_copyFrom_73 : decode cX10_copyFrom 73 = .ok (.putfield 28, 3) := by decide +kernel
theorem dX10_copyFrom_76 : decode cX10_copyFrom 76 = .ok (.aload_n 0, 1) := by decide +kernel
theorem dX10_copyFrom_77 : decode cX10_copyFrom 77 = .ok (.aload_n 1, 1) := by decide +kernel
theorem dX10_copyFrom_78 : decode cX10_copyFrom 78 = .ok (.getfield 31, 3) := by decide +kernel
theorem dX10_copyFrom_81 : decode cX10_copyFrom 81 = .ok (.putfield 31, 3) := by decide +kernel
theorem dX10_copyFrom_84 : decode cX10_copyFrom 84 = .ok (.aload_n 0, 1) := by decide +kernel
theorem dX10_copyFrom_85 : decode cX10_copyFrom 85 = .ok (.aload_n 1, 1) := by decide +kernel
theorem dX10_copyFrom_86 : decode cX10_copyFrom 86 = .ok (.getfield 34, 3) := by decide +kernel
theorem dX10_copyFrom_89 : decode cX10_copyFrom 89 = .ok (.putfield 34, 3) := by decide +kernel
theorem dX10_copyFrom_92 : decode cX10_copyFrom 92 = .ok (.return_, 1) := by decide +kernel
theorem dX10_living_0 : decode cX10_living 0 = .ok (.iconst 0, 1) := by decide +kernel
theorem dX10_living_1 : decode cX10_living 1 = .ok (.istore_n 1, 1) := by decide +kernel
theorem dX10_living_2 : decode cX10_living 2 = .ok (.iconst 0, 1) := by decide +kernel
theorem dX10_living_3 : decode cX10_living 3 = .ok (.istore_n 2, 1) := by decide +kernel
theorem dX10_living_4 : decode cX10_living 4 = .ok (.iload_n 2, 1) := by decide +kernel
theorem dX10_living_5 : decode cX10_living 5 = .ok (.bipush 8, 2) := by decide +kernel
theorem dX10_living_7 : decode cX10_living 7 = .ok (.if_icmp .ge 21, 3) := by decide +kernel
theorem dX10_living_10 : decode cX10_living 10 = .ok (.aload_n 0, 1) := by decide +kernel
theorem dX10_living_11 : decode cX10_living 11 = .ok (.getfield 9, 3) := by decide +kernel
theorem dX10_living_14 : decode cX10_living 14 = .ok (.iload_n 2, 1) := by decide +kernel
theorem dX10_living_15 : decode cX10_living 15 = .ok (.iaload, 1) := by decide +kernel
theorem dX10_living_16 : decode cX10_living 16 = .ok (.ifCond .le 6, 3) := by decide +kernel
theorem dX10_living_19 : decode cX10_living 19 = .ok (.iinc 1 1, 3) := by decide +kernel
theorem dX10_living_22 : decode cX10_living 22 = .ok (.iinc 2 1, 3) := by decide +kernel
theorem dX10_living_25 : decode cX10_living 25 = .ok (.goto (-21), 3) := by decide +kernel
theorem dX10_living_28 : decode cX10_living 28 = .ok (.iload_n 1, 1) := by decide +kernel
theorem dX10_living_29 : decode cX10_living 29 = .ok (.ireturn, 1) := by decide +kernel
theorem dX10_remember_0 : decode cX10_remember 0 = .ok (.aload_n 0, 1) := by decide +kernel
theorem dX10_remember_1 : decode cX10_remember 1 = .ok (.getfield 34, 3) := by decide +kernel
theorem dX10_remember_4 : decode cX10_remember 4 = .ok (.bipush 8, 2) := by decide +kernel
theorem dX10_remember_6 : decode cX10_remember 6 = .ok (.if_icmp .lt 25, 3) := by decide +kernel
theorem dX10_remember_9 : decode cX10_remember 9 = .ok (.aload_n 0, 1) := by decide +kernel
theorem dX10_remember_10 : decode cX10_remember 10 = .ok (.getfield 21, 3) := by decide +kernel
theorem dX10_remember_13 : decode cX10_remember 13 = .ok (.bipush 9, 2) := by decide +kernel
theorem dX10_remember_15 : decode cX10_remember 15 = .ok (.aload_n 0, 1) := by decide +kernel
theorem dX10_remember_16 : decode cX10_remember 16 = .ok (.getfield 21, 3) := by decide +kernel
theorem dX10_remember_19 : decode cX10_remember 19 = .ok (.iconst 0, 1) := by decide +kernel
theorem dX10_remember_20 : decode cX10_remember 20 = .ok (.bipush 63, 2) := by decide +kernel
theorem dX10_remember_22 : decode cX10_remember 22 = .ok (.invokestatic 37, 3) := by decide +kernel
theorem dX10_remember_25 : decode cX10_remember 25 = .ok (.aload_n 0, 1) := by decide +kernel
theorem dX10_remember_26 : decode cX10_remember 26 = .ok (.bipush 7, 2) := by decide +kernel
theorem dX10_remember_28 : decode cX10_remember 28 = .ok (.putfield 34, 3) := by decide +kernel
theorem dX10_remember_31 : decode cX10_remember 31 = .ok (.aload_n 0, 1) := by decide +kernel
theorem dX10_remember_32 : decode cX10_remember 32 = .ok (.getfield 34, 3) := by decide +kernel
theorem dX10_remember_35 : decode cX10_remember 35 = .ok (.bipush 9, 2) := by decide +kernel
theorem dX10_remember_37 : decode cX10_remember 37 = .ok (.imul, 1) := by decide +kernel
theorem dX10_remember_38 : decode cX10_remember 38 = .ok (.istore_n 1, 1) := by decide +kernel
theorem dX10_remember_39 : decode cX10_remember 39 = .ok (.aload_n 0, 1) := by decide +kernel
theorem dX10_remember_40 : decode cX10_remember 40 = .ok (.getfield 9, 3) := by decide +kernel
theorem dX10_remember_43 : decode cX10_remember 43 = .ok (.iconst 0, 1) := by decide +kernel
theorem dX10_remember_44 : decode cX10_remember 44 = .ok (.aload_n 0, 1) := by decide +kernel
theorem dX10_remember_45 : decode cX10_remember 45 = .ok (.getfield 21, 3) := by decide +kernel
theorem dX10_remember_48 : decode cX10_remember 48 = .ok (.iload_n 1, 1) := by decide +kernel
theorem dX10_remember_49 : decode cX10_remember 49 = .ok (.bipush 8, 2) := by decide +kernel
theorem dX10_remember_51 : decode cX10_remember 51 = .ok (.invokestatic 37, 3) := by decide +kernel
theorem dX10_remember_54 : decode cX10_remember 54 = .ok (.aload_n 0, 1) := by decide +kernel
theorem dX10_remember_55 : decode cX10_remember 55 = .ok (.getfield 21, 3) := by decide +kernel
theorem dX10_remember_58 : decode cX10_remember 58 = .ok (.iload_n 1, 1) := by decide +kernel
theorem dX10_remember_59 : decode cX10_remember 59 = .ok (.bipush 8, 2) := by decide +kernel
theorem dX10_remember_61 : decode cX10_remember 61 = .ok (.iadd, 1) := by decide +kernel
theorem dX10_remember_62 : decode cX10_remember 62 = .ok (.aload_n 0, 1) := by decide +kernel
theorem dX10_remember_63 : decode cX10_remember 63 = .ok (.getfield 24, 3) := by decide +kernel
theorem dX10_remember_66 : decode cX10_remember 66 = .ok (.iastore, 1) := by decide +kernel
theorem dX10_remember_67 : decode cX10_remember 67 = .ok (.aload_n 0, 1) := by decide +kernel
theorem dX10_remember_68 : decode cX10_remember 68 = .ok (.dup, 1) := by decide +kernel
theorem dX10_remember_69 : decode cX10_remember 69 = .ok (.getfield 34, 3) := by decide +kernel
theorem dX10_remember_72 : decode cX10_remember 72 = .ok (.iconst 1, 1) := by decide +kernel
theorem dX10_remember_73 : decode cX10_remember 73 = .ok (.iadd, 1) := by decide +kernel
theorem dX10_remember_74 : decode cX10_remember 74 = .ok (.putfield 34, 3) := by decide +kernel
theorem dX10_remember_77 : decode cX10_remember 77 = .ok (.return_, 1) := by decide +kernel
theorem dX10_goBack_0 : decode cX10_goBack 0 = .ok (.aload_n 0, 1) := by decide +kernel
theorem dX10_goBack_1 : decode cX10_goBack 1 = .ok (.getfield 34, 3) := by decide +kernel
theorem dX10_goBack_4 : decode cX10_goBack 4 = .ok (.iconst 1, 1) := by decide +kernel
theorem dX10_goBack_5 : decode cX10_goBack 5 = .ok (.if_icmp .ge 5, 3) := by decide +kernel
theorem dX10_goBack_8 : decode cX10_goBack 8 = .ok (.iconst 0, 1) := by decide +kernel
theorem dX10_goBack_9 : decode cX10_goBack 9 = .ok (.ireturn, 1) := by decide +kernel
theorem dX10_goBack_10 : decode cX10_goBack 10 = .ok (.aload_n 0, 1) := by decide +kernel
theorem dX10_goBack_11 : decode cX10_goBack 11 = .ok (.dup, 1) := by decide +kernel
theorem dX10_goBack_12 : decode cX10_goBack 12 = .ok (.getfield 34, 3) := by decide +kernel
theorem dX10_goBack_15 : decode cX10_goBack 15 = .ok (.iconst 1, 1) := by decide +kernel
theorem dX10_goBack_16 : decode cX10_goBack 16 = .ok (.isub, 1) := by decide +kernel
theorem dX10_goBack_17 : decode cX10_goBack 17 = .ok (.putfield 34, 3) := by decide +kernel
theorem dX10_goBack_20 : decode cX10_goBack 20 = .ok (.aload_n 0, 1) := by decide +kernel
theorem dX10_goBack_21 : decode cX10_goBack 21 = .ok (.getfield 34, 3) := by decide +kernel
theorem dX10_goBack_24 : decode cX10_goBack 24 = .ok (.bipush 9, 2) := by decide +kernel
theorem dX10_goBack_26 : decode cX10_goBack 26 = .ok (.imul, 1) := by decide +kernel
theorem dX10_goBack_27 : decode cX10_goBack 27 = .ok (.istore_n 1, 1) := by decide +kernel
theorem dX10_goBack_28 : decode cX10_goBack 28 = .ok (.aload_n 0, 1) := by decide +kernel
theorem dX10_goBack_29 : decode cX10_goBack 29 = .ok (.getfield 21, 3) := by decide +kernel
theorem dX10_goBack_32 : decode cX10_goBack 32 = .ok (.iload_n 1, 1) := by decide +kernel
theorem dX10_goBack_33 : decode cX10_goBack 33 = .ok (.aload_n 0, 1) := by decide +kernel
theorem dX10_goBack_34 : decode cX10_goBack 34 = .ok (.getfield 9, 3) := by decide +kernel
theorem dX10_goBack_37 : decode cX10_goBack 37 = .ok (.iconst 0, 1) := by decide +kernel
theorem dX10_goBack_38 : decode cX10_goBack 38 = .ok (.bipush 8, 2) := by decide +kernel
theorem dX10_goBack_40 : decode cX10_goBack 40 = .ok (.invokestatic 37, 3) := by decide +kernel
theorem dX10_goBack_43 : decode cX10_goBack 43 = .ok (.aload_n 0, 1) := by decide +kernel
theorem dX10_goBack_44 : decode cX10_goBack 44 = .ok (.aload_n 0, 1) := by decide +kernel
theorem dX10_goBack_45 : decode cX10_goBack 45 = .ok (.getfield 21, 3) := by decide +kernel
theorem dX10_goBack_48 : decode cX10_goBack 48 = .ok (.iload_n 1, 1) := by decide +kernel
theorem dX10_goBack_49 : decode cX10_goBack 49 = .ok (.bipush 8, 2) := by decide +kernel
theorem dX10_goBack_51 : decode cX10_goBack 51 = .ok (.iadd, 1) := by decide +kernel
theorem dX10_goBack_52 : decode cX10_goBack 52 = .ok (.iaload, 1) := by decide +kernel
theorem dX10_goBack_53 : decode cX10_goBack 53 = .ok (.putfield 24, 3) := by decide +kernel
theorem dX10_goBack_56 : decode cX10_goBack 56 = .ok (.iconst 1, 1) := by decide +kernel
theorem dX10_goBack_57 : decode cX10_goBack 57 = .ok (.ireturn, 1) := by decide +kernel
theorem dX10_addReading_0 : decode cX10_addReading 0 = .ok (.aload_n 0, 1) := by decide +kernel
theorem dX10_addReading_1 : decode cX10_addReading 1 = .ok (.getfield 15, 3) := by decide +kernel
theorem dX10_addReading_4 : decode cX10_addReading 4 = .ok (.aload_n 0, 1) := by decide +kernel
theorem dX10_addReading_5 : decode cX10_addReading 5 = .ok (.getfield 28, 3) := by decide +kernel
theorem dX10_addReading_8 : decode cX10_addReading 8 = .ok (.iload_n 1, 1) := by decide +kernel
theorem dX10_addReading_9 : decode cX10_addReading 9 = .ok (.iload_n 2, 1) := by decide +kernel
theorem dX10_addReading_10 : decode cX10_addReading 10 = .ok (.aload_n 0, 1) := by decide +kernel
theorem dX10_addReading_11 : decode cX10_addReading 11 = .ok (.getfield 24, 3) := by decide +kernel
theorem dX10_addReading_14 : decode cX10_addReading 14 = .ok (.invokestatic 43, 3) := by decide +kernel
theorem dX10_addReading_17 : decode cX10_addReading 17 = .ok (.aload_n 0, 1) := by decide +kernel
theorem dX10_addReading_18 : decode cX10_addReading 18 = .ok (.dup, 1) := by decide +kernel
theorem dX10_addReading_19 : decode cX10_addReading 19 = .ok (.getfield 28, 3) := by decide +kernel
theorem dX10_addReading_22 : decode cX10_addReading 22 = .ok (.iconst 1, 1) := by decide +kernel
theorem dX10_addReading_23 : decode cX10_addReading 23 = .ok (.iadd, 1) := by decide +kernel
theorem dX10_addReading_24 : decode cX10_addReading 24 = .ok (.putfield 28, 3) := by decide +kernel
theorem dX10_addReading_27 : decode cX10_addReading 27 = .ok (.return_, 1) := by decide +kernel
theorem dX10_addNote_0 : decode cX10_addNote 0 = .ok (.aload_n 0, 1) := by decide +kernel
theorem dX10_addNote_1 : decode cX10_addNote 1 = .ok (.getfield 18, 3) := by decide +kernel
theorem dX10_addNote_4 : decode cX10_addNote 4 = .ok (.aload_n 0, 1) := by decide +kernel
theorem dX10_addNote_5 : decode cX10_addNote 5 = .ok (.getfield 31, 3) := by decide +kernel
theorem dX10_addNote_8 : decode cX10_addNote 8 = .ok (.iload_n 1, 1) := by decide +kernel
theorem dX10_addNote_9 : decode cX10_addNote 9 = .ok (.iload_n 2, 1) := by decide +kernel
theorem dX10_addNote_10 : decode cX10_addNote 10 = .ok (.iload_n 3, 1) := by decide +kernel
theorem dX10_addNote_11 : decode cX10_addNote 11 = .ok (.invokestatic 43, 3) := by decide +kernel
theorem dX10_addNote_14 : decode cX10_addNote 14 = .ok (.aload_n 0, 1) := by decide +kernel
theorem dX10_addNote_15 : decode cX10_addNote 15 = .ok (.dup, 1) := by decide +kernel
theorem dX10_addNote_16 : decode cX10_addNote 16 = .ok (.getfield 31, 3) := by decide +kernel
theorem dX10_addNote_19 : decode cX10_addNote 19 = .ok (.iconst 1, 1) := by decide +kernel
theorem dX10_addNote_20 : decode cX10_addNote 20 = .ok (.iadd, 1) := by decide +kernel
theorem dX10_addNote_21 : decode cX10_addNote 21 = .ok (.putfield 31, 3) := by decide +kernel
theorem dX10_addNote_24 : decode cX10_addNote 24 = .ok (.return_, 1) := by decide +kernel
theorem dX10_addThree_0 : decode cX10_addThree 0 = .ok (.iconst 3, 1) := by decide +kernel
theorem dX10_addThree_1 : decode cX10_addThree 1 = .ok (.iload_n 1, 1) := by decide +kernel
theorem dX10_addThree_2 : decode cX10_addThree 2 = .ok (.imul, 1) := by decide +kernel
theorem dX10_addThree_3 : decode cX10_addThree 3 = .ok (.istore 5, 2) := by decide +kernel
theorem dX10_addThree_5 : decode cX10_addThree 5 = .ok (.iload 5, 2) := by decide +kernel
theorem dX10_addThree_7 : decode cX10_addThree 7 = .ok (.ifCond .lt 32, 3) := by decide +kernel
theorem dX10_addThree_10 : decode cX10_addThree 10 = .ok (.iload 5, 2) := by decide +kernel
theorem dX10_addThree_12 : decode cX10_addThree 12 = .ok (.iconst 2, 1) := by decide +kernel
theorem dX10_addThree_13 : decode cX10_addThree 13 = .ok (.iadd, 1) := by decide +kernel
theorem dX10_addThree_14 : decode cX10_addThree 14 = .ok (.aload_n 0, 1) := by decide +kernel
theorem dX10_addThree_15 : decode cX10_addThree 15 = .ok (.arraylength, 1) := by decide +kernel
theorem dX10_addThree_16 : decode cX10_addThree 16 = .ok (.if_icmp .ge 23, 3) := by decide +kernel
theorem dX10_addThree_19 : decode cX10_addThree 19 = .ok (.aload_n 0, 1) := by decide +kernel
theorem dX10_addThree_20 : decode cX10_addThree 20 = .ok (.iload 5, 2) := by decide +kernel
theorem dX10_addThree_22 : decode cX10_addThree 22 = .ok (.iload_n 2, 1) := by decide +kernel
theorem dX10_addThree_23 : decode cX10_addThree 23 = .ok (.iastore, 1) := by decide +kernel
theorem dX10_addThree_24 : decode cX10_addThree 24 = .ok (.aload_n 0, 1) := by decide +kernel
theorem dX10_addThree_25 : decode cX10_addThree 25 = .ok (.iload 5, 2) := by decide +kernel
theorem dX10_addThree_27 : decode cX10_addThree 27 = .ok (.iconst 1, 1) := by decide +kernel
theorem dX10_addThree_28 : decode cX10_addThree 28 = .ok (.iadd, 1) := by decide +kernel
theorem dX10_addThree_29 : decode cX10_addThree 29 = .ok (.iload_n 3, 1) := by decide +kernel
theorem dX10_addThree_30 : decode cX10_addThree 30 = .ok (.iastore, 1) := by decide +kernel
theorem dX10_addThree_31 : decode cX10_addThree 31 = .ok (.aload_n 0, 1) := by decide +kernel
theorem dX10_addThree_32 : decode cX10_addThree 32 = .ok (.iload 5, 2) := by decide +kernel
theorem dX10_addThree_34 : decode cX10_addThree 34 = .ok (.iconst 2, 1) := by decide +kernel
theorem dX10_addThree_35 : decode cX10_addThree 35 = .ok (.iadd, 1) := by decide +kernel
theorem dX10_addThree_36 : decode cX10_addThree 36 = .ok (.iload 4, 2) := by decide +kernel
theorem dX10_addThree_38 : decode cX10_addThree 38 = .ok (.iastore, 1) := by decide +kernel
theorem dX10_addThree_39 : decode cX10_addThree 39 = .ok (.return_, 1) := by decide +kernel
theorem dJ6_bitCount_0f7a4_0 : decode cJ6_bitCount_0f7a4 0 = .ok (.iload_n 0, 1) := by decide +kernel
theorem dJ6_bitCount_0f7a4_1 : decode cJ6_bitCount_0f7a4 1 = .ok (.iload_n 0, 1) := by decide +kernel
theorem dJ6_bitCount_0f7a4_2 : decode cJ6_bitCount_0f7a4 2 = .ok (.iconst 1, 1) := by decide +kernel
theorem dJ6_bitCount_0f7a4_3 : decode cJ6_bitCount_0f7a4 3 = .ok (.iushr, 1) := by decide +kernel
theorem dJ6_bitCount_0f7a4_4 : decode cJ6_bitCount_0f7a4 4 = .ok (.ldc_w 265, 3) := by decide +kernel
theorem dJ6_bitCount_0f7a4_7 : decode cJ6_bitCount_0f7a4 7 = .ok (.iand, 1) := by decide +kernel
theorem dJ6_bitCount_0f7a4_8 : decode cJ6_bitCount_0f7a4 8 = .ok (.isub, 1) := by decide +kernel
theorem dJ6_bitCount_0f7a4_9 : decode cJ6_bitCount_0f7a4 9 = .ok (.istore_n 0, 1) := by decide +kernel
theorem dJ6_bitCount_0f7a4_10 : decode cJ6_bitCount_0f7a4 10 = .ok (.iload_n 0, 1) := by decide +kernel
theorem dJ6_bitCount_0f7a4_11 : decode cJ6_bitCount_0f7a4 11 = .ok (.ldc_w 266, 3) := by decide +kernel
theorem dJ6_bitCount_0f7a4_14 : decode cJ6_bitCount_0f7a4 14 = .ok (.iand, 1) := by decide +kernel
theorem dJ6_bitCount_0f7a4_15 : decode cJ6_bitCount_0f7a4 15 = .ok (.iload_n 0, 1) := by decide +kernel
theorem dJ6_bitCount_0f7a4_16 : decode cJ6_bitCount_0f7a4 16 = .ok (.iconst 2, 1) := by decide +kernel
theorem dJ6_bitCount_0f7a4_17 : decode cJ6_bitCount_0f7a4 17 = .ok (.iushr, 1) := by decide +kernel
theorem dJ6_bitCount_0f7a4_18 : decode cJ6_bitCount_0f7a4 18 = .ok (.ldc_w 266, 3) := by decide +kernel
theorem dJ6_bitCount_0f7a4_21 : decode cJ6_bitCount_0f7a4 21 = .ok (.iand, 1) := by decide +kernel
theorem dJ6_bitCount_0f7a4_22 : decode cJ6_bitCount_0f7a4 22 = .ok (.iadd, 1) := by decide +kernel
theorem dJ6_bitCount_0f7a4_23 : decode cJ6_bitCount_0f7a4 23 = .ok (.istore_n 0, 1) := by decide +kernel
theorem dJ6_bitCount_0f7a4_24 : decode cJ6_bitCount_0f7a4 24 = .ok (.iload_n 0, 1) := by decide +kernel
theorem dJ6_bitCount_0f7a4_25 : decode cJ6_bitCount_0f7a4 25 = .ok (.iload_n 0, 1) := by decide +kernel
theorem dJ6_bitCount_0f7a4_26 : decode cJ6_bitCount_0f7a4 26 = .ok (.iconst 4, 1) := by decide +kernel
theorem dJ6_bitCount_0f7a4_27 : decode cJ6_bitCount_0f7a4 27 = .ok (.iushr, 1) := by decide +kernel
theorem dJ6_bitCount_0f7a4_28 : decode cJ6_bitCount_0f7a4 28 = .ok (.iadd, 1) := by decide +kernel
theorem dJ6_bitCount_0f7a4_29 : decode cJ6_bitCount_0f7a4 29 = .ok (.ldc_w 267, 3) := by decide +kernel
theorem dJ6_bitCount_0f7a4_32 : decode cJ6_bitCount_0f7a4 32 = .ok (.iand, 1) := by decide +kernel
theorem dJ6_bitCount_0f7a4_33 : decode cJ6_bitCount_0f7a4 33 = .ok (.istore_n 0, 1) := by decide +kernel
theorem dJ6_bitCount_0f7a4_34 : decode cJ6_bitCount_0f7a4 34 = .ok (.iload_n 0, 1) := by decide +kernel
theorem dJ6_bitCount_0f7a4_35 : decode cJ6_bitCount_0f7a4 35 = .ok (.iload_n 0, 1) := by decide +kernel
theorem dJ6_bitCount_0f7a4_36 : decode cJ6_bitCount_0f7a4 36 = .ok (.bipush 8, 2) := by decide +kernel
theorem dJ6_bitCount_0f7a4_38 : decode cJ6_bitCount_0f7a4 38 = .ok (.iushr, 1) := by decide +kernel
theorem dJ6_bitCount_0f7a4_39 : decode cJ6_bitCount_0f7a4 39 = .ok (.iadd, 1) := by decide +kernel
theorem dJ6_bitCount_0f7a4_40 : decode cJ6_bitCount_0f7a4 40 = .ok (.istore_n 0, 1) := by decide +kernel
theorem dJ6_bitCount_0f7a4_41 : decode cJ6_bitCount_0f7a4 41 = .ok (.iload_n 0, 1) := by decide +kernel
theorem dJ6_bitCount_0f7a4_42 : decode cJ6_bitCount_0f7a4 42 = .ok (.iload_n 0, 1) := by decide +kernel
theorem dJ6_bitCount_0f7a4_43 : decode cJ6_bitCount_0f7a4 43 = .ok (.bipush 16, 2) := by decide +kernel
theorem dJ6_bitCount_0f7a4_45 : decode cJ6_bitCount_0f7a4 45 = .ok (.iushr, 1) := by decide +kernel
theorem dJ6_bitCount_0f7a4_46 : decode cJ6_bitCount_0f7a4 46 = .ok (.iadd, 1) := by decide +kernel
theorem dJ6_bitCount_0f7a4_47 : decode cJ6_bitCount_0f7a4 47 = .ok (.istore_n 0, 1) := by decide +kernel
theorem dJ6_bitCount_0f7a4_48 : decode cJ6_bitCount_0f7a4 48 = .ok (.iload_n 0, 1) := by decide +kernel
theorem dJ6_bitCount_0f7a4_49 : decode cJ6_bitCount_0f7a4 49 = .ok (.bipush 63, 2) := by decide +kernel
theorem dJ6_bitCount_0f7a4_51 : decode cJ6_bitCount_0f7a4 51 = .ok (.iand, 1) := by decide +kernel
theorem dJ6_bitCount_0f7a4_52 : decode cJ6_bitCount_0f7a4 52 = .ok (.ireturn, 1) := by decide +kernel
theorem dJ9_abs_0f7a4_0 : decode cJ9_abs_0f7a4 0 = .ok (.iload_n 0, 1) := by decide +kernel
theorem dJ9_abs_0f7a4_1 : decode cJ9_abs_0f7a4 1 = .ok (.ifCond .ge 8, 3) := by decide +kernel
theorem dJ9_abs_0f7a4_4 : decode cJ9_abs_0f7a4 4 = .ok (.iload_n 0, 1) := by decide +kernel
theorem dJ9_abs_0f7a4_5 : decode cJ9_abs_0f7a4 5 = .ok (.ineg, 1) := by decide +kernel
theorem dJ9_abs_0f7a4_6 : decode cJ9_abs_0f7a4 6 = .ok (.goto 4, 3) := by decide +kernel
theorem dJ9_abs_0f7a4_9 : decode cJ9_abs_0f7a4 9 = .ok (.iload_n 0, 1) := by decide +kernel
theorem dJ9_abs_0f7a4_10 : decode cJ9_abs_0f7a4 10 = .ok (.ireturn, 1) := by decide +kernel
theorem dJ9_max_7cf53_0 : decode cJ9_max_7cf53 0 = .ok (.iload_n 0, 1) := by decide +kernel
theorem dJ9_max_7cf53_1 : decode cJ9_max_7cf53 1 = .ok (.iload_n 1, 1) := by decide +kernel
theorem dJ9_max_7cf53_2 : decode cJ9_max_7cf53 2 = .ok (.if_icmp .lt 7, 3) := by decide +kernel
theorem dJ9_max_7cf53_5 : decode cJ9_max_7cf53 5 = .ok (.iload_n 0, 1) := by decide +kernel
theorem dJ9_max_7cf53_6 : decode cJ9_max_7cf53 6 = .ok (.goto 4, 3) := by decide +kernel
theorem dJ9_max_7cf53_9 : decode cJ9_max_7cf53 9 = .ok (.iload_n 1, 1) := by decide +kernel
theorem dJ9_max_7cf53_10 : decode cJ9_max_7cf53 10 = .ok (.ireturn, 1) := by decide +kernel
theorem dJ9_min_7cf53_0 : decode cJ9_min_7cf53 0 = .ok (.iload_n 0, 1) := by decide +kernel
theorem dJ9_min_7cf53_1 : decode cJ9_min_7cf53 1 = .ok (.iload_n 1, 1) := by decide +kernel
theorem dJ9_min_7cf53_2 : decode cJ9_min_7cf53 2 = .ok (.if_icmp .gt 7, 3) := by decide +kernel
theorem dJ9_min_7cf53_5 : decode cJ9_min_7cf53 5 = .ok (.iload_n 0, 1) := by decide +kernel
theorem dJ9_min_7cf53_6 : decode cJ9_min_7cf53 6 = .ok (.goto 4, 3) := by decide +kernel
theorem dJ9_min_7cf53_9 : decode cJ9_min_7cf53 9 = .ok (.iload_n 1, 1) := by decide +kernel
theorem dJ9_min_7cf53_10 : decode cJ9_min_7cf53 10 = .ok (.ireturn, 1) := by decide +kernel
theorem dJ9_min_f86c9_0 : decode cJ9_min_f86c9 0 = .ok (.lload_n 0, 1) := by decide +kernel
theorem dJ9_min_f86c9_1 : decode cJ9_min_f86c9 1 = .ok (.lload_n 2, 1) := by decide +kernel
theorem dJ9_min_f86c9_2 : decode cJ9_min_f86c9 2 = .ok (.lcmp, 1) := by decide +kernel
theorem dJ9_min_f86c9_3 : decode cJ9_min_f86c9 3 = .ok (.ifCond .gt 7, 3) := by decide +kernel
theorem dJ9_min_f86c9_6 : decode cJ9_min_f86c9 6 = .ok (.lload_n 0, 1) := by decide +kernel
theorem dJ9_min_f86c9_7 : decode cJ9_min_f86c9 7 = .ok (.goto 4, 3) := by decide +kernel
theorem dJ9_min_f86c9_10 : decode cJ9_min_f86c9 10 = .ok (.lload_n 2, 1) := by decide +kernel
theorem dJ9_min_f86c9_11 : decode cJ9_min_f86c9 11 = .ok (.lreturn, 1) := by decide +kernel
theorem dJ0_length_8abf5_0 : decode cJ0_length_8abf5 0 = .ok (.aload_n 0, 1) := by decide +kernel
theorem dJ0_length_8abf5_1 : decode cJ0_length_8abf5 1 = .ok (.getfield 9, 3) := by decide +kernel
theorem dJ0_length_8abf5_4 : decode cJ0_length_8abf5 4 = .ok (.arraylength, 1) := by decide +kernel
theorem dJ0_length_8abf5_5 : decode cJ0_length_8abf5 5 = .ok (.aload_n 0, 1) := by decide +kernel
theorem dJ0_length_8abf5_6 : decode cJ0_length_8abf5 6 = .ok (.invokevirtual 335, 3) := by decide +kernel
theorem dJ0_length_8abf5_9 : decode cJ0_length_8abf5 9 = .ok (.ishr, 1) := by decide +kernel
theorem dJ0_length_8abf5_10 : decode cJ0_length_8abf5 10 = .ok (.ireturn, 1) := by decide +kernel
theorem dJ0_charAt_5068e_0 : decode cJ0_charAt_5068e 0 = .ok (.aload_n 0, 1) := by decide +kernel
theorem dJ0_charAt_5068e_1 : decode cJ0_charAt_5068e 1 = .ok (.invokevirtual 492, 3) := by decide +kernel
theorem dJ0_charAt_5068e_4 : decode cJ0_charAt_5068e 4 = .ok (.ifCond .eq 12, 3) := by decide +kernel
theorem dJ0_charAt_5068e_7 : decode cJ0_charAt_5068e 7 = .ok (.aload_n 0, 1) := by decide +kernel
theorem dJ0_charAt_5068e_8 : decode cJ0_charAt_5068e 8 = .ok (.getfield 9, 3) := by decide +kernel
theorem dJ0_charAt_5068e_11 : decode cJ0_charAt_5068e 11 = .ok (.iload_n 1, 1) := by decide +kernel
theorem dJ0_charAt_5068e_12 : decode cJ0_charAt_5068e 12 = .ok (.invokestatic 495, 3) := by decide +kernel
theorem dJ0_charAt_5068e_15 : decode cJ0_charAt_5068e 15 = .ok (.ireturn, 1) := by decide +kernel
theorem dJ0_charAt_5068e_16 : decode cJ0_charAt_5068e 16 = .ok (.aload_n 0, 1) := by decide +kernel
theorem dJ0_charAt_5068e_17 : decode cJ0_charAt_5068e 17 = .ok (.getfield 9, 3) := by decide +kernel
theorem dJ0_charAt_5068e_20 : decode cJ0_charAt_5068e 20 = .ok (.iload_n 1, 1) := by decide +kernel
theorem dJ0_charAt_5068e_21 : decode cJ0_charAt_5068e 21 = .ok (.invokestatic 498, 3) := by decide +kernel
theorem dJ0_charAt_5068e_24 : decode cJ0_charAt_5068e 24 = .ok (.ireturn, 1) := by decide +kernel
theorem dJ0_coder_7d493_0 : decode cJ0_coder_7d493 0 = .ok (.getstatic 38, 3) := by decide +kernel
theorem dJ0_coder_7d493_3 : decode cJ0_coder_7d493 3 = .ok (.ifCond .eq 10, 3) := by decide +kernel
theorem dJ0_coder_7d493_6 : decode cJ0_coder_7d493 6 = .ok (.aload_n 0, 1) := by decide +kernel
theorem dJ0_coder_7d493_7 : decode cJ0_coder_7d493 7 = .ok (.getfield 15, 3) := by decide +kernel
theorem dJ0_coder_7d493_10 : decode cJ0_coder_7d493 10 = .ok (.goto 4, 3) := by decide +kernel
theorem dJ0_coder_7d493_13 : decode cJ0_coder_7d493 13 = .ok (.iconst 1, 1) := by decide +kernel
theorem dJ0_coder_7d493_14 : decode cJ0_coder_7d493 14 = .ok (.ireturn, 1) := by decide +kernel
theorem dJ0_isLatin1_aae02_0 : decode cJ0_isLatin1_aae02 0 = .ok (.getstatic 38, 3) := by decide +kernel
theorem dJ0_isLatin1_aae02_3 : decode cJ0_isLatin1_aae02 3 = .ok (.ifCond .eq 14, 3) := by decide +kernel
theorem dJ0_isLatin1_aae02_6 : decode cJ0_isLatin1_aae02 6 = .ok (.aload_n 0, 1) := by decide +kernel
theorem dJ0_isLatin1_aae02_7 : decode cJ0_isLatin1_aae02 7 = .ok (.getfield 15, 3) := by decide +kernel
theorem dJ0_isLatin1_aae02_10 : decode cJ0_isLatin1_aae02 10 = .ok (.ifCond .ne 7, 3) := by decide +kernel
theorem dJ0_isLatin1_aae02_13 : decode cJ0_isLatin1_aae02 13 = .ok (.iconst 1, 1) := by decide +kernel
theorem dJ0_isLatin1_aae02_14 : decode cJ0_isLatin1_aae02 14 = .ok (.goto 4, 3) := by decide +kernel
theorem dJ0_isLatin1_aae02_17 : decode cJ0_isLatin1_aae02 17 = .ok (.iconst 0, 1) := by decide +kernel
theorem dJ0_isLatin1_aae02_18 : decode cJ0_isLatin1_aae02 18 = .ok (.ireturn, 1) := by decide +kernel
theorem dJ0_checkIndex_df160_0 : decode cJ0_checkIndex_df160 0 = .ok (.iload_n 0, 1) := by decide +kernel
theorem dJ0_checkIndex_df160_1 : decode cJ0_checkIndex_df160 1 = .ok (.iload_n 1, 1) := by decide +kernel
theorem dJ0_checkIndex_df160_2 : decode cJ0_checkIndex_df160 2 = .ok (.getstatic 1053, 3) := by decide +kernel
theorem dJ0_checkIndex_df160_5 : decode cJ0_checkIndex_df160 5 = .ok (.invokestatic 1059, 3) := by decide +kernel
theorem dJ0_checkIndex_df160_8 : decode cJ0_checkIndex_df160 8 = .ok (.pop, 1) := by decide +kernel
theorem dJ0_checkIndex_df160_9 : decode cJ0_checkIndex_df160 9 = .ok (.return_, 1) := by decide +kernel
theorem dJ1_charAt_3b067_0 : decode cJ1_charAt_3b067 0 = .ok (.iload_n 1, 1) := by decide +kernel
theorem dJ1_charAt_3b067_1 : decode cJ1_charAt_3b067 1 = .ok (.aload_n 0, 1) := by decide +kernel
theorem dJ1_charAt_3b067_2 : decode cJ1_charAt_3b067 2 = .ok (.arraylength, 1) := by decide +kernel
theorem dJ1_charAt_3b067_3 : decode cJ1_charAt_3b067 3 = .ok (.invokestatic 9, 3) := by decide +kernel
theorem dJ1_charAt_3b067_6 : decode cJ1_charAt_3b067 6 = .ok (.aload_n 0, 1) := by decide +kernel
theorem dJ1_charAt_3b067_7 : decode cJ1_charAt_3b067 7 = .ok (.iload_n 1, 1) := by decide +kernel
theorem dJ1_charAt_3b067_8 : decode cJ1_charAt_3b067 8 = .ok (.baload, 1) := by decide +kernel
theorem dJ1_charAt_3b067_9 : decode cJ1_charAt_3b067 9 = .ok (.sipush 255, 3) := by decide +kernel
theorem dJ1_charAt_3b067_12 : decode cJ1_charAt_3b067 12 = .ok (.iand, 1) := by decide +kernel
theorem dJ1_charAt_3b067_13 : decode cJ1_charAt_3b067 13 = .ok (.i2c, 1) := by decide +kernel
theorem dJ1_charAt_3b067_14 : decode cJ1_charAt_3b067 14 = .ok (.ireturn, 1) := by decide +kernel
theorem dJ2_getChar_3b067_0 : decode cJ2_getChar_3b067 0 = .ok (.getstatic 44, 3) := by decide +kernel
theorem dJ2_getChar_3b067_3 : decode cJ2_getChar_3b067 3 = .ok (.ifCond .ne 25, 3) := by decide +kernel
theorem dJ2_getChar_3b067_6 : decode cJ2_getChar_3b067 6 = .ok (.iload_n 1, 1) := by decide +kernel
theorem dJ2_getChar_3b067_7 : decode cJ2_getChar_3b067 7 = .ok (.ifCond .lt 11, 3) := by decide +kernel
theorem dJ2_getChar_3b067_10 : decode cJ2_getChar_3b067 10 = .ok (.iload_n 1, 1) := by decide +kernel
theorem dJ2_getChar_3b067_11 : decode cJ2_getChar_3b067 11 = .ok (.aload_n 0, 1) := by decide +kernel
theorem dJ2_getChar_3b067_12 : decode cJ2_getChar_3b067 12 = .ok (.invokestatic 48, 3) := by decide +kernel
theorem dJ2_getChar_3b067_15 : decode cJ2_getChar_3b067 15 = .ok (.if_icmp .lt 13, 3) := by decide +kernel
theorem dJ2_getChar_3b067_18 : decode cJ2_getChar_3b067 18 = .ok (.new 52, 3) := by decide +kernel
theorem dJ2_getChar_3b067_21 : decode cJ2_getChar_3b067 21 = .ok (.dup, 1) := by decide +kernel
theorem dJ2_getChar_3b067_22 : decode cJ2_getChar_3b067 22 = .ok (.ldc 54, 2) := by decide +kernel
theorem dJ2_getChar_3b067_24 : decode cJ2_getChar_3b067 24 = .ok (.invokespecial 56, 3) := by decide +kernel
theorem dJ2_getChar_3b067_27 : decode cJ2_getChar_3b067 27 = .ok (.athrow, 1) := by decide +kernel
theorem dJ2_getChar_3b067_28 : decode cJ2_getChar_3b067 28 = .ok (.iload_n 1, 1) := by decide +kernel
theorem dJ2_getChar_3b067_29 : decode cJ2_getChar_3b067 29 = .ok (.iconst 1, 1) := by decide +kernel
theorem dJ2_getChar_3b067_30 : decode cJ2_getChar_3b067 30 = .ok (.ishl, 1) := by decide +kernel
theorem dJ2_getChar_3b067_31 : decode cJ2_getChar_3b067 31 = .ok (.istore_n 1, 1) := by decide +kernel
theorem dJ2_getChar_3b067_32 : decode cJ2_getChar_3b067 32 = .ok (.aload_n 0, 1) := by decide +kernel
theorem dJ2_getChar_3b067_33 : decode cJ2_getChar_3b067 33 = .ok (.iload_n 1, 1) := by decide +kernel
theorem dJ2_getChar_3b067_34 : decode cJ2_getChar_3b067 34 = .ok (.iinc 1 1, 3) := by decide +kernel
theorem dJ2_getChar_3b067_37 : decode cJ2_getChar_3b067 37 = .ok (.baload, 1) := by decide +kernel
theorem dJ2_getChar_3b067_38 : decode cJ2_getChar_3b067 38 = .ok (.sipush 255, 3) := by decide +kernel
theorem dJ2_getChar_3b067_41 : decode cJ2_getChar_3b067 41 = .ok (.iand, 1) := by decide +kernel
theorem dJ2_getChar_3b067_42 : decode cJ2_getChar_3b067 42 = .ok (.getstatic 59, 3) := by decide +kernel
theorem dJ2_getChar_3b067_45 : decode cJ2_getChar_3b067 45 = .ok (.ishl, 1) := by decide +kernel
theorem dJ2_getChar_3b067_46 : decode cJ2_getChar_3b067 46 = .ok (.aload_n 0, 1) := by decide +kernel
theorem dJ2_getChar_3b067_47 : decode cJ2_getChar_3b067 47 = .ok (.iload_n 1, 1) := by decide +kernel
theorem dJ2_getChar_3b067_48 : decode cJ2_getChar_3b067 48 = .ok (.baload, 1) := by decide +kernel
theorem dJ2_getChar_3b067_49 : decode cJ2_getChar_3b067 49 = .ok (.sipush 255, 3) := by decide +kernel
theorem dJ2_getChar_3b067_52 : decode cJ2_getChar_3b067 52 = .ok (.iand, 1) := by decide +kernel
theorem dJ2_getChar_3b067_53 : decode cJ2_getChar_3b067 53 = .ok (.getstatic 63, 3) := by decide +kernel
theorem dJ2_getChar_3b067_56 : decode cJ2_getChar_3b067 56 = .ok (.ishl, 1) := by decide +kernel
theorem dJ2_getChar_3b067_57 : decode cJ2_getChar_3b067 57 = .ok (.ior, 1) := by decide +kernel
theorem dJ2_getChar_3b067_58 : decode cJ2_getChar_3b067 58 = .ok (.i2c, 1) := by decide +kernel
theorem dJ2_getChar_3b067_59 : decode cJ2_getChar_3b067 59 = .ok (.ireturn, 1) := by decide +kernel
theorem dJ2_length_9d52b_0 : decode cJ2_length_9d52b 0 = .ok (.aload_n 0, 1) := by decide +kernel
theorem dJ2_length_9d52b_1 : decode cJ2_length_9d52b 1 = .ok (.arraylength, 1) := by decide +kernel
theorem dJ2_length_9d52b_2 : decode cJ2_length_9d52b 2 = .ok (.iconst 1, 1) := by decide +kernel
theorem dJ2_length_9d52b_3 : decode cJ2_length_9d52b 3 = .ok (.ishr, 1) := by decide +kernel
theorem dJ2_length_9d52b_4 : decode cJ2_length_9d52b 4 = .ok (.ireturn, 1) := by decide +kernel
theorem dJ2_charAt_3b067_0 : decode cJ2_charAt_3b067 0 = .ok (.iload_n 1, 1) := by decide +kernel
theorem dJ2_charAt_3b067_1 : decode cJ2_charAt_3b067 1 = .ok (.aload_n 0, 1) := by decide +kernel
theorem dJ2_charAt_3b067_2 : decode cJ2_charAt_3b067 2 = .ok (.invokestatic 67, 3) := by decide +kernel
theorem dJ2_charAt_3b067_5 : decode cJ2_charAt_3b067 5 = .ok (.aload_n 0, 1) := by decide +kernel
theorem dJ2_charAt_3b067_6 : decode cJ2_charAt_3b067 6 = .ok (.iload_n 1, 1) := by decide +kernel
theorem dJ2_charAt_3b067_7 : decode cJ2_charAt_3b067 7 = .ok (.invokestatic 71, 3) := by decide +kernel
theorem dJ2_charAt_3b067_10 : decode cJ2_charAt_3b067 10 = .ok (.ireturn, 1) := by decide +kernel
theorem dJ2_checkIndex_2214a_0 : decode cJ2_checkIndex_2214a 0 = .ok (.iload_n 0, 1) := by decide +kernel
theorem dJ2_checkIndex_2214a_1 : decode cJ2_checkIndex_2214a 1 = .ok (.aload_n 1, 1) := by decide +kernel
theorem dJ2_checkIndex_2214a_2 : decode cJ2_checkIndex_2214a 2 = .ok (.invokestatic 48, 3) := by decide +kernel
theorem dJ2_checkIndex_2214a_5 : decode cJ2_checkIndex_2214a 5 = .ok (.invokestatic 414, 3) := by decide +kernel
theorem dJ2_checkIndex_2214a_8 : decode cJ2_checkIndex_2214a 8 = .ok (.return_, 1) := by decide +kernel
theorem dJ3_checkIndex_8e157_0 : decode cJ3_checkIndex_8e157 0 = .ok (.iload_n 0, 1) := by decide +kernel
theorem dJ3_checkIndex_8e157_1 : decode cJ3_checkIndex_8e157 1 = .ok (.ifCond .lt 8, 3) := by decide +kernel
theorem dJ3_checkIndex_8e157_4 : decode cJ3_checkIndex_8e157 4 = .ok (.iload_n 0, 1) := by decide +kernel
theorem dJ3_checkIndex_8e157_5 : decode cJ3_checkIndex_8e157 5 = .ok (.iload_n 1, 1) := by decide +kernel
theorem dJ3_checkIndex_8e157_6 : decode cJ3_checkIndex_8e157 6 = .ok (.if_icmp .lt 10, 3) := by decide +kernel
theorem dJ3_checkIndex_8e157_9 : decode cJ3_checkIndex_8e157 9 = .ok (.aload_n 2, 1) := by decide +kernel
theorem dJ3_checkIndex_8e157_10 : decode cJ3_checkIndex_8e157 10 = .ok (.iload_n 0, 1) := by decide +kernel
theorem dJ3_checkIndex_8e157_11 : decode cJ3_checkIndex_8e157 11 = .ok (.iload_n 1, 1) := by decide +kernel
theorem dJ3_checkIndex_8e157_12 : decode cJ3_checkIndex_8e157 12 = .ok (.invokestatic 95, 3) := by decide +kernel
theorem dJ3_checkIndex_8e157_15 : decode cJ3_checkIndex_8e157 15 = .ok (.athrow, 1) := by decide +kernel
theorem dJ3_checkIndex_8e157_16 : decode cJ3_checkIndex_8e157 16 = .ok (.iload_n 0, 1) := by decide +kernel
theorem dJ3_checkIndex_8e157_17 : decode cJ3_checkIndex_8e157 17 = .ok (.ireturn, 1) := by decide +kernel
end
section
theorem dX11_init_0 : decode cX11_init 0 = .ok (.aload_n 0, 1) := by decide +kernel
theorem dX11_init_1 : decode cX11_init 1 = .ok (.invokespecial 1, 3) := by decide +kernel
theorem dX11_init_4 : decode cX11_init 4 = .ok (.aload_n 0, 1) := by decide +kernel
theorem dX11_init_5 : decode cX11_init 5 = .ok (.new 7, 3) := by decide +kernel
theorem dX11_init_8 : decode cX11_init 8 = .ok (.dup, 1) := by decide +kernel
theorem dX11_init_9 : decode cX11_init 9 = .ok (.invokespecial 9, 3) := by decide +kernel
theorem dX11_init_12 : decode cX11_init 12 = .ok (.putfield 10, 3) := by decide +kernel
theorem dX11_init_15 : decode cX11_init 15 = .ok (.aload_n 0, 1) := by decide +kernel
theorem dX11_init_16 : decode cX11_init 16 = .ok (.new 16, 3) := by decide +kernel
theorem dX11_init_19 : decode cX11_init 19 = .ok (.dup, 1) := by decide +kernel
theorem dX11_init_20 : decode cX11_init 20 = .ok (.aload_n 0, 1) := by decide +kernel
theorem dX11_init_21 : decode cX11_init 21 = .ok (.getfield 10, 3) := by decide +kernel
theorem dX11_init_24 : decode cX11_init 24 = .ok (.invokespecial 18, 3) := by decide +kernel
theorem dX11_init_27 : decode cX11_init 27 = .ok (.putfield 21, 3) := by decide +kernel
theorem dX11_init_30 : decode cX11_init 30 = .ok (.aload_n 0, 1) := by decide +kernel
theorem dX11_init_31 : decode cX11_init 31 = .ok (.new 25, 3) := by decide +kernel
theorem dX11_init_34 : decode cX11_init 34 = .ok (.dup, 1) := by decide +kernel
theorem dX11_init_35 : decode cX11_init 35 = .ok (.aload_n 0, 1) := by decide +kernel
theorem dX11_init_36 : decode cX11_init 36 = .ok (.getfield 21, 3) := by decide +kernel
theorem dX11_init_39 : decode cX11_init 39 = .ok (.invokespecial 27, 3) := by decide +kernel
theorem dX11_init_42 : decode cX11_init 42 = .ok (.putfield 30, 3) := by decide +kernel
theorem dX11_init_45 : decode cX11_init 45 = .ok (.aload_n 0, 1) := by decide +kernel
theorem dX11_init_46 : decode cX11_init 46 = .ok (.new 34, 3) := by decide +kernel
theorem dX11_init_49 : decode cX11_init 49 = .ok (.dup, 1) := by decide +kernel
theorem dX11_init_50 : decode cX11_init 50 = .ok (.invokespecial 36, 3) := by decide +kernel
theorem dX11_init_53 : decode cX11_init 53 = .ok (.putfield 37, 3) := by decide +kernel
theorem dX11_init_56 : decode cX11_init 56 = .ok (.aload_n 0, 1) := by decide +kernel
theorem dX11_init_57 : decode cX11_init 57 = .ok (.new 41, 3) := by decide +kernel
theorem dX11_init_60 : decode cX11_init 60 = .ok (.dup, 1) := by decide +kernel
theorem dX11_init_61 : decode cX11_init 61 = .ok (.invokespecial 43, 3) := by decide +kernel
theorem dX11_init_64 : decode cX11_init 64 = .ok (.putfield 44, 3) := by decide +kernel
theorem dX11_init_67 : decode cX11_init 67 = .ok (.aload_n 0, 1) := by decide +kernel
theorem dX11_init_68 : decode cX11_init 68 = .ok (.iconst 2, 1) := by decide +kernel
theorem dX11_init_69 : decode cX11_init 69 = .ok (.anewarray 41, 3) := by decide +kernel
theorem dX11_init_72 : decode cX11_init 72 = .ok (.putfield 48, 3) := by decide +kernel
theorem dX11_init_75 : decode cX11_init 75 = .ok (.aload_n 0, 1) := by decide +kernel
theorem dX11_init_76 : decode cX11_init 76 = .ok (.iconst 2, 1) := by decide +kernel
theorem dX11_init_77 : decode cX11_init 77 = .ok (.newarray .boolean, 2) := by decide +kernel
theorem dX11_init_79 : decode cX11_init 79 = .ok (.putfield 52, 3) := by decide +kernel
theorem dX11_init_82 : decode cX11_init 82 = .ok (.aload_n 0, 1) := by decide +kernel
theorem dX11_init_83 : decode cX11_init 83 = .ok (.bipush 8, 2) := by decide +kernel
theorem dX11_init_85 : decode cX11_init 85 = .ok (.newarray .int, 2) := by decide +kernel
theorem dX11_init_87 : decode cX11_init 87 = .ok (.putfield 56, 3) := by decide +kernel
theorem dX11_init_90 : decode cX11_init 90 = .ok (.aload_n 0, 1) := by decide +kernel
theorem dX11_init_91 : decode cX11_init 91 = .ok (.sipush 300, 3) := by decide +kernel
theorem dX11_init_94 : decode cX11_init 94 = .ok (.newarray .int, 2) := by decide +kernel
theorem dX11_init_96 : decode cX11_init 96 = .ok (.putfield 60, 3) := by decide +kernel
theorem dX11_init_99 : decode cX11_init 99 = .ok (.aload_n 0, 1) := by decide +kernel
theorem dX11_init_100 : decode cX11_init 100 = .ok (.bipush 21, 2) := by decide +kernel
theorem dX11_init_102 : decode cX11_init 102 = .ok (.newarray .int, 2) := by decide +kernel
theorem dX11_init_104 : decode cX11_init 104 = .ok (.putfield 63, 3) := by decide +kernel
theorem dX11_init_107 : decode cX11_init 107 = .ok (.aload_n 0, 1) := by decide +kernel
theorem dX11_init_108 : decode cX11_init 108 = .ok (.lconst 1, 1) := by decide +kernel
theorem dX11_init_109 : decode cX11_init 109 = .ok (.putfield 66, 3) := by decide +kernel
theorem dX11_init_112 : decode cX11_init 112 = .ok (.iconst 0, 1) := by decide +kernel
theorem dX11_init_113 : decode cX11_init 113 = .ok (.istore_n 1, 1) := by decide +kernel
theorem dX11_init_114 : decode cX11_init 114 = .ok (.iload_n 1, 1) := by decide +kernel
theorem dX11_init_115 : decode cX11_init 115 = .ok (.iconst 2, 1) := by decide +kernel
theorem dX11_init_116 : decode cX11_init 116 = .ok (.if_icmp .ge 22, 3) := by decide +kernel
theorem dX11_init_119 : decode cX11_init 119 = .ok (.aload_n 0, 1) := by decide +kernel
theorem dX11_init_120 : decode cX11_init 120 = .ok (.getfield 48, 3) := by decide +kernel
theorem dX11_init_123 : decode cX11_init 123 = .ok (.iload_n 1, 1) := by decide +kernel
theorem dX11_init_124 : decode cX11_init 124 = .ok (.new 41, 3) := by decide +kernel
theorem dX11_init_127 : decode cX11_init 127 = .ok (.dup, 1) := by decide +kernel
theorem dX11_init_128 : decode cX11_init 128 = .ok (.invokespecial 43, 3) := by decide +kernel
theorem dX11_init_131 : decode cX11_init 131 = .ok (.aastore, 1) := by decide +kernel
theorem dX11_init_132 : decode cX11_init 132 = .ok (.iinc 1 1, 3) := by decide +kernel
theorem dX11_init_135 : decode cX11_init 135 = .ok (.goto (-21), 3) := by decide +kernel
theorem dX11_init_138 : decode cX11_init 138 = .ok (.return_, 1) := by decide +kernel
theorem dX11_street_0 : decode cX11_street 0 = .ok (.iload_n 1, 1) := by decide +kernel
theorem dX11_street_1 : decode cX11_street 1 = .ok (.iload_n 2, 1) := by decide +kernel
theorem dX11_street_2 : decode cX11_street 2 = .ok (.invokestatic 70, 3) := by decide +kernel
theorem dX11_street_5 : decode cX11_street 5 = .ok (.ifCond .ne 8, 3) := by decide +kernel
theorem dX11_street_8 : decode cX11_street 8 = .ok (.aload_n 0, 1) := by decide +kernel
theorem dX11_street_9 : decode cX11_street 9 = .ok (.invokevirtual 74, 3) := by decide +kernel
theorem dX11_street_12 : decode cX11_street 12 = .ok (.ireturn, 1) := by decide +kernel
theorem dX11_street_13 : decode cX11_street 13 = .ok (.aload_n 0, 1) := by decide +kernel
theorem dX11_street_14 : decode cX11_street 14 = .ok (.getfield 44, 3) := by decide +kernel
theorem dX11_street_17 : decode cX11_street 17 = .ok (.invokevirtual 78, 3) := by decide +kernel
theorem dX11_street_20 : decode cX11_street 20 = .ok (.istore_n 3, 1) := by decide +kernel
theorem dX11_street_21 : decode cX11_street 21 = .ok (.aload_n 0, 1) := by decide +kernel
theorem dX11_street_22 : decode cX11_street 22 = .ok (.getfield 44, 3) := by decide +kernel
theorem dX11_street_25 : decode cX11_street 25 = .ok (.bipush 10, 2) := by decide +kernel
theorem dX11_street_27 : decode cX11_street 27 = .ok (.iload_n 1, 1) := by decide +kernel
theorem dX11_street_28 : decode cX11_street 28 = .ok (.imul, 1) := by decide +kernel
theorem dX11_street_29 : decode cX11_street 29 = .ok (.iload_n 2, 1) := by decide +kernel
theorem dX11_street_30 : decode cX11_street 30 = .ok (.iadd, 1) := by decide +kernel
theorem dX11_street_31 : decode cX11_street 31 = .ok (.invokevirtual 81, 3) := by decide +kernel
theorem dX11_street_34 : decode cX11_street 34 = .ok (.iload_n 3, 1) := by decide +kernel
theorem dX11_street_35 : decode cX11_street 35 = .ok (.ireturn, 1) := by decide +kernel
theorem dX11_rule_0 : decode cX11_rule 0 = .ok (.iload_n 1, 1) := by decide +kernel
theorem dX11_rule_1 : decode cX11_rule 1 = .ok (.iload_n 2, 1) := by decide +kernel
theorem dX11_rule_2 : decode cX11_rule 2 = .ok (.invokestatic 70, 3) := by decide +kernel
theorem dX11_rule_5 : decode cX11_rule 5 = .ok (.ifCond .ne 8, 3) := by decide +kernel
theorem dX11_rule_8 : decode cX11_rule 8 = .ok (.aload_n 0, 1) := by decide +kernel
theorem dX11_rule_9 : decode cX11_rule 9 = .ok (.invokevirtual 74, 3) := by decide +kernel
theorem dX11_rule_12 : decode cX11_rule 12 = .ok (.ireturn, 1) := by decide +kernel
theorem dX11_rule_13 : decode cX11_rule 13 = .ok (.aload_n 0, 1) := by decide +kernel
theorem dX11_rule_14 : decode cX11_rule 14 = .ok (.getfield 44, 3) := by decide +kernel
theorem dX11_rule_17 : decode cX11_rule 17 = .ok (.getfield 85, 3) := by decide +kernel
theorem dX11_rule_20 : decode cX11_rule 20 = .ok (.istore_n 3, 1) := by decide +kernel
theorem dX11_rule_21 : decode cX11_rule 21 = .ok (.aload_n 0, 1) := by decide +kernel
theorem dX11_rule_22 : decode cX11_rule 22 = .ok (.getfield 44, 3) := by decide +kernel
theorem dX11_rule_25 : decode cX11_rule 25 = .ok (.invokevirtual 89, 3) := by decide +kernel
theorem dX11_rule_28 : decode cX11_rule 28 = .ok (.aload_n 0, 1) := by decide +kernel
theorem dX11_rule_29 : decode cX11_rule 29 = .ok (.getfield 44, 3) := by decide +kernel
theorem dX11_rule_32 : decode cX11_rule 32 = .ok (.bipush 10, 2) := by decide +kernel
theorem dX11_rule_34 : decode cX11_rule 34 = .ok (.iload_n 1, 1) := by decide +kernel
theorem dX11_rule_35 : decode cX11_rule 35 = .ok (.imul, 1) := by decide +kernel
theorem dX11_rule_36 : decode cX11_rule 36 = .ok (.iload_n 2, 1) := by decide +kernel
theorem dX11_rule_37 : decode cX11_rule 37 = .ok (.iadd, 1) := by decide +kernel
theorem dX11_rule_38 : decode cX11_rule 38 = .ok (.putfield 85, 3) := by decide +kernel
theorem dX11_rule_41 : decode cX11_rule 41 = .ok (.iload_n 3, 1) := by decide +kernel
theorem dX11_rule_42 : decode cX11_rule 42 = .ok (.ireturn, 1) := by decide +kernel
theorem dX11_house_0 : decode cX11_house 0 = .ok (.iload_n 1, 1) := by decide +kernel
theorem dX11_house_1 : decode cX11_house 1 = .ok (.invokestatic 92, 3) := by decide +kernel
theorem dX11_house_4 : decode cX11_house 4 = .ok (.ifCond .eq 14, 3) := by decide +kernel
theorem dX11_house_7 : decode cX11_house 7 = .ok (.iload_n 2, 1) := by decide +kernel
theorem dX11_house_8 : decode cX11_house 8 = .ok (.ifCond .lt 10, 3) := by decide +kernel
theorem dX11_house_11 : decode cX11_house 11 = .ok (.iload_n 2, 1) := by decide +kernel
theorem dX11_house_12 : decode cX11_house 12 = .ok (.sipush 300, 3) := by decide +kernel
theorem dX11_house_15 : decode cX11_house 15 = .ok (.if_icmp .le 8, 3) := by decide +kernel
theorem dX11_house_18 : decode cX11_house 18 = .ok (.aload_n 0, 1) := by decide +kernel
theorem dX11_house_19 : decode cX11_house 19 = .ok (.invokevirtual 74, 3) := by decide +kernel
theorem dX11_house_22 : decode cX11_house 22 = .ok (.ireturn, 1) := by decide +kernel
theorem dX11_house_23 : decode cX11_house 23 = .ok (.aload_n 0, 1) := by decide +kernel
theorem dX11_house_24 : decode cX11_house 24 = .ok (.getfield 44, 3) := by decide +kernel
theorem dX11_house_27 : decode cX11_house 27 = .ok (.getfield 96, 3) := by decide +kernel
theorem dX11_house_30 : decode cX11_house 30 = .ok (.iload_n 1, 1) := by decide +kernel
theorem dX11_house_31 : decode cX11_house 31 = .ok (.iaload, 1) := by decide +kernel
theorem dX11_house_32 : decode cX11_house 32 = .ok (.istore_n 3, 1) := by decide +kernel
theorem dX11_house_33 : decode cX11_house 33 = .ok (.aload_n 0, 1) := by decide +kernel
theorem dX11_house_34 : decode cX11_house 34 = .ok (.getfield 44, 3) := by decide +kernel
theorem dX11_house_37 : decode cX11_house 37 = .ok (.invokevirtual 89, 3) := by decide +kernel
theorem dX11_house_40 : decode cX11_house 40 = .ok (.aload_n 0, 1) := by decide +kernel
theorem dX11_house_41 : decode cX11_house 41 = .ok (.getfield 44, 3) := by decide +kernel
theorem dX11_house_44 : decode cX11_house 44 = .ok (.getfield 96, 3) := by decide +kernel
theorem dX11_house_47 : decode cX11_house 47 = .ok (.iload_n 1, 1) := by decide +kernel
theorem dX11_house_48 : decode cX11_house 48 = .ok (.iload_n 2, 1) := by decide +kernel
theorem dX11_house_49 : decode cX11_house 49 = .ok (.iastore, 1) := by decide +kernel
theorem dX11_house_50 : decode cX11_house 50 = .ok (.iload_n 3, 1) := by decide +kernel
theorem dX11_house_51 : decode cX11_house 51 = .ok (.ireturn, 1) := by decide +kernel
theorem dX11_birthday_0 : decode cX11_birthday 0 = .ok (.iload_n 1, 1) := by decide +kernel
theorem dX11_birthday_1 : decode cX11_birthday 1 = .ok (.invokestatic 92, 3) := by decide +kernel
theorem dX11_birthday_4 : decode cX11_birthday 4 = .ok (.ifCond .ne 8, 3) := by decide +kernel
theorem dX11_birthday_7 : decode cX11_birthday 7 = .ok (.aload_n 0, 1) := by decide +kernel
theorem dX11_birthday_8 : decode cX11_birthday 8 = .ok (.invokevirtual 74, 3) := by decide +kernel
theorem dX11_birthday_11 : decode cX11_birthday 11 = .ok (.ireturn, 1) := by decide +kernel
theorem dX11_birthday_12 : decode cX11_birthday 12 = .ok (.aload_n 0, 1) := by decide +kernel
theorem dX11_birthday_13 : decode cX11_birthday 13 = .ok (.getfield 44, 3) := by decide +kernel
theorem dX11_birthday_16 : decode cX11_birthday 16 = .ok (.getfield 96, 3) := by decide +kernel
theorem dX11_birthday_19 : decode cX11_birthday 19 = .ok (.iload_n 1, 1) := by decide +kernel
theorem dX11_birthday_20 : decode cX11_birthday 20 = .ok (.iaload, 1) := by decide +kernel
theorem dX11_birthday_21 : decode cX11_birthday 21 = .ok (.istore_n 2, 1) := by decide +kernel
theorem dX11_birthday_22 : decode cX11_birthday 22 = .ok (.iload_n 2, 1) := by decide +kernel
theorem dX11_birthday_23 : decode cX11_birthday 23 = .ok (.ifCond .eq 10, 3) := by decide +kernel
theorem dX11_birthday_26 : decode cX11_birthday 26 = .ok (.iload_n 2, 1) := by decide +kernel
theorem dX11_birthday_27 : decode cX11_birthday 27 = .ok (.sipush 300, 3) := by decide +kernel
theorem dX11_birthday_30 : decode cX11_birthday 30 = .ok (.if_icmp .lt 8, 3) := by decide +kernel
theorem dX11_birthday_33 : decode cX11_birthday 33 = .ok (.aload_n 0, 1) := by decide +kernel
theorem dX11_birthday_34 : decode cX11_birthday 34 = .ok (.invokevirtual 99, 3) := by decide +kernel
theorem dX11_birthday_37 : decode cX11_birthday 37 = .ok (.ireturn, 1) := by decide +kernel
theorem dX11_birthday_38 : decode cX11_birthday 38 = .ok (.aload_n 0, 1) := by decide +kernel
theorem dX11_birthday_39 : decode cX11_birthday 39 = .ok (.getfield 44, 3) := by decide +kernel
theorem dX11_birthday_42 : decode cX11_birthday 42 = .ok (.invokevirtual 89, 3) := by decide +kernel
theorem dX11_birthday_45 : decode cX11_birthday 45 = .ok (.aload_n 0, 1) := by decide +kernel
theorem dX11_birthday_46 : decode cX11_birthday 46 = .ok (.getfield 44, 3) := by decide +kernel
theorem dX11_birthday_49 : decode cX11_birthday 49 = .ok (.getfield 96, 3) := by decide +kernel
theorem dX11_birthday_52 : decode cX11_birthday 52 = .ok (.iload_n 1, 1) := by decide +kernel
theorem dX11_birthday_53 : decode cX11_birthday 53 = .ok (.iload_n 2, 1) := by decide +kernel
theorem dX11_birthday_54 : decode cX11_birthday 54 = .ok (.iconst 1, 1) := by decide +kernel
theorem dX11_birthday_55 : decode cX11_birthday 55 = .ok (.iadd, 1) := by decide +kernel
theorem dX11_birthday_56 : decode cX11_birthday 56 = .ok (.iastore, 1) := by decide +kernel
theorem dX11_birthday_57 : decode cX11_birthday 57 = .ok (.iload_n 2, 1) := by decide +kernel
theorem dX11_birthday_58 : decode cX11_birthday 58 = .ok (.iconst 1, 1) := by decide +kernel
theorem dX11_birthday_59 : decode cX11_birthday 59 = .ok (.iadd, 1) := by decide +kernel
theorem dX11_birthday_60 : decode cX11_birthday 60 = .ok (.ireturn, 1) := by decide +kernel
theorem dX11_swap_0 : decode cX11_swap 0 = .ok (.iload_n 1, 1) := by decide +kernel
theorem dX11_swap_1 : decode cX11_swap 1 = .ok (.invokestatic 92, 3) := by decide +kernel
theorem dX11_swap_4 : decode cX11_swap 4 = .ok (.ifCond .eq 15, 3) := by decide +kernel
theorem dX11_swap_7 : decode cX11_swap 7 = .ok (.iload_n 2, 1) := by decide +kernel
theorem dX11_swap_8 : decode cX11_swap 8 = .ok (.invokestatic 92, 3) := by decide +kernel
theorem dX11_swap_11 : decode cX11_swap 11 = .ok (.ifCond .eq 8, 3) := by decide +kernel
theorem dX11_swap_14 : decode cX11_swap 14 = .ok (.iload_n 1, 1) := by decide +kernel
theorem dX11_swap_15 : decode cX11_swap 15 = .ok (.iload_n 2, 1) := by decide +kernel
theorem dX11_swap_16 : decode cX11_swap 16 = .ok (.if_icmp .ne 8, 3) := by decide +kernel
theorem dX11_swap_19 : decode cX11_swap 19 = .ok (.aload_n 0, 1) := by decide +kernel
theorem dX11_swap_20 : decode cX11_swap 20 = .ok (.invokevirtual 74, 3) := by decide +kernel
theorem dX11_swap_23 : decode cX11_swap 23 = .ok (.ireturn, 1) := by decide +kernel
theorem dX11_swap_24 : decode cX11_swap 24 = .ok (.aload_n 0, 1) := by decide +kernel
theorem dX11_swap_25 : decode cX11_swap 25 = .ok (.getfield 44, 3) := by decide +kernel
theorem dX11_swap_28 : decode cX11_swap 28 = .ok (.getfield 96, 3) := by decide +kernel
theorem dX11_swap_31 : decode cX11_swap 31 = .ok (.iload_n 1, 1) := by decide +kernel
theorem dX11_swap_32 : decode cX11_swap 32 = .ok (.iaload, 1) := by decide +kernel
theorem dX11_swap_33 : decode cX11_swap 33 = .ok (.istore_n 3, 1) := by decide +kernel
theorem dX11_swap_34 : decode cX11_swap 34 = .ok (.aload_n 0, 1) := by decide +kernel
theorem dX11_swap_35 : decode cX11_swap 35 = .ok (.getfield 44, 3) := by decide +kernel
theorem dX11_swap_38 : decode cX11_swap 38 = .ok (.getfield 96, 3) := by decide +kernel
theorem dX11_swap_41 : decode cX11_swap 41 = .ok (.iload_n 2, 1) := by decide +kernel
theorem dX11_swap_42 : decode cX11_swap 42 = .ok (.iaload, 1) := by decide +kernel
theorem dX11_swap_43 : decode cX11_swap 43 = .ok (.istore 4, 2) := by decide +kernel
theorem dX11_swap_45 : decode cX11_swap 45 = .ok (.iload_n 3, 1) := by decide +kernel
theorem dX11_swap_46 : decode cX11_swap 46 = .ok (.ifCond .ne 13, 3) := by decide +kernel
theorem dX11_swap_49 : decode cX11_swap 49 = .ok (.iload 4, 2) := by decide +kernel
theorem dX11_swap_51 : decode cX11_swap 51 = .ok (.ifCond .ne 8, 3) := by decide +kernel
theorem dX11_swap_54 : decode cX11_swap 54 = .ok (.aload_n 0, 1) := by decide +kernel
theorem dX11_swap_55 : decode cX11_swap 55 = .ok (.invokevirtual 99, 3) := by decide +kernel
theorem dX11_swap_58 : decode cX11_swap 58 = .ok (.ireturn, 1) := by decide +kernel
theorem dX11_swap_59 : decode cX11_swap 59 = .ok (.aload_n 0, 1) := by decide +kernel
theorem dX11_swap_60 : decode cX11_swap 60 = .ok (.getfield 44, 3) := by decide +kernel
theorem dX11_swap_63 : decode cX11_swap 63 = .ok (.invokevirtual 89, 3) := by decide +kernel
theorem dX11_swap_66 : decode cX11_swap 66 = .ok (.aload_n 0, 1) := by decide +kernel
theorem dX11_swap_67 : decode cX11_swap 67 = .ok (.getfield 44, 3) := by decide +kernel
theorem dX11_swap_70 : decode cX11_swap 70 = .ok (.getfield 96, 3) := by decide +kernel
theorem dX11_swap_73 : decode cX11_swap 73 = .ok (.iload_n 1, 1) := by decide +kernel
theorem dX11_swap_74 : decode cX11_swap 74 = .ok (.iload 4, 2) := by decide +kernel
theorem dX11_swap_76 : decode cX11_swap 76 = .ok (.iastore, 1) := by decide +kernel
theorem dX11_swap_77 : decode cX11_swap 77 = .ok (.aload_n 0, 1) := by decide +kernel
theorem dX11_swap_78 : decode cX11_swap 78 = .ok (.getfield 44, 3) := by decide +kernel
theorem dX11_swap_81 : decode cX11_swap 81 = .ok (.getfield 96, 3) := by decide +kernel
theorem dX11_swap_84 : decode cX11_swap 84 = .ok (.iload_n 2, 1) := by decide +kernel
theorem dX11_swap_85 : decode cX11_swap 85 = .ok (.iload_n 3, 1) := by decide +kernel
theorem dX11_swap_86 : decode cX11_swap 86 = .ok (.iastore, 1) := by decide +kernel
theorem dX11_swap_87 : decode cX11_swap 87 = .ok (.iconst 1, 1) := by decide +kernel
theorem dX11_swap_88 : decode cX11_swap 88 = .ok (.ireturn, 1) := by decide +kernel
theorem dX11_undo_0 : decode cX11_undo 0 = .ok (.aload_n 0, 1) := by decide +kernel
theorem dX11_undo_1 : decode cX11_undo 1 = .ok (.getfield 44, 3) := by decide +kernel
theorem dX11_undo_4 : decode cX11_undo 4 = .ok (.invokevirtual 102, 3) := by decide +kernel
theorem dX11_undo_7 : decode cX11_undo 7 = .ok (.ifCond .ne 8, 3) := by decide +kernel
theorem dX11_undo_10 : decode cX11_undo 10 = .ok (.aload_n 0, 1) := by decide +kernel
theorem dX11_undo_11 : decode cX11_undo 11 = .ok (.invokevirtual 99, 3) := by decide +kernel
theorem dX11_undo_14 : decode cX11_undo 14 = .ok (.ireturn, 1) := by decide +kernel
theorem dX11_undo_15 : decode cX11_undo 15 = .ok (.aload_n 0, 1) := by decide +kernel
theorem dX11_undo_16 : decode cX11_undo 16 = .ok (.getfield 44, 3) := by decide +kernel
theorem dX11_undo_19 : decode cX11_undo 19 = .ok (.invokevirtual 78, 3) := by decide +kernel
theorem dX11_undo_22 : decode cX11_undo 22 = .ok (.ireturn, 1) := by decide +kernel
theorem dX11_type_0 : decode cX11_type 0 = .ok (.iload_n 1, 1) := by decide +kernel
theorem dX11_type_1 : decode cX11_type 1 = .ok (.ifCond .lt 9, 3) := by decide +kernel
theorem dX11_type_4 : decode cX11_type 4 = .ok (.iload_n 1, 1) := by decide +kernel
theorem dX11_type_5 : decode cX11_type 5 = .ok (.bipush 127, 2) := by decide +kernel
theorem dX11_type_7 : decode cX11_type 7 = .ok (.if_icmp .le 8, 3) := by decide +kernel
theorem dX11_type_10 : decode cX11_type 10 = .ok (.aload_n 0, 1) := by decide +kernel
theorem dX11_type_11 : decode cX11_type 11 = .ok (.invokevirtual 74, 3) := by decide +kernel
theorem dX11_type_14 : decode cX11_type 14 = .ok (.ireturn, 1) := by decide +kernel
theorem dX11_type_15 : decode cX11_type 15 = .ok (.aload_n 0, 1) := by decide +kernel
theorem dX11_type_16 : decode cX11_type 16 = .ok (.getfield 37, 3) := by decide +kernel
theorem dX11_type_19 : decode cX11_type 19 = .ok (.iload_n 1, 1) := by decide +kernel
theorem dX11_type_20 : decode cX11_type 20 = .ok (.invokevirtual 106, 3) := by decide +kernel
theorem dX11_type_23 : decode cX11_type 23 = .ok (.ifCond .ne 8, 3) := by decide +kernel
theorem dX11_type_26 : decode cX11_type 26 = .ok (.aload_n 0, 1) := by decide +kernel
theorem dX11_type_27 : decode cX11_type 27 = .ok (.invokevirtual 109, 3) := by decide +kernel
theorem dX11_type_30 : decode cX11_type 30 = .ok (.ireturn, 1) := by decide +kernel
theorem dX11_type_31 : decode cX11_type 31 = .ok (.aload_n 0, 1) := by decide +kernel
theorem dX11_type_32 : decode cX11_type 32 = .ok (.getfield 37, 3) := by decide +kernel
theorem dX11_type_35 : decode cX11_type 35 = .ok (.getfield 112, 3) := by decide +kernel
theorem dX11_type_38 : decode cX11_type 38 = .ok (.ireturn, 1) := by decide +kernel
theorem dX11_clear_0 : decode cX11_clear 0 = .ok (.aload_n 0, 1) := by decide +kernel
theorem dX11_clear_1 : decode cX11_clear 1 = .ok (.getfield 37, 3) := by decide +kernel
theorem dX11_clear_4 : decode cX11_clear 4 = .ok (.getfield 112, 3) := by decide +kernel
theorem dX11_clear_7 : decode cX11_clear 7 = .ok (.istore_n 1, 1) := by decide +kernel
theorem dX11_clear_8 : decode cX11_clear 8 = .ok (.aload_n 0, 1) := by decide +kernel
theorem dX11_clear_9 : decode cX11_clear 9 = .ok (.getfield 37, 3) := by decide +kernel
theorem dX11_clear_12 : decode cX11_clear 12 = .ok (.iconst 0, 1) := by decide +kernel
theorem dX11_clear_13 : decode cX11_clear 13 = .ok (.putfield 112, 3) := by decide +kernel
theorem dX11_clear_16 : decode cX11_clear 16 = .ok (.iload_n 1, 1) := by decide +kernel
theorem dX11_clear_17 : decode cX11_clear 17 = .ok (.ireturn, 1) := by decide +kernel
theorem dX11_read_0 : decode cX11_read 0 = .ok (.aload_n 0, 1) := by decide +kernel
theorem dX11_read_1 : decode cX11_read 1 = .ok (.getfield 37, 3) := by decide +kernel
theorem dX11_read_4 : decode cX11_read 4 = .ok (.invokevirtual 115, 3) := by decide +kernel
theorem dX11_read_7 : decode cX11_read 7 = .ok (.aload_n 0, 1) := by decide +kernel
theorem dX11_read_8 : decode cX11_read 8 = .ok (.getfield 37, 3) := by decide +kernel
theorem dX11_read_11 : decode cX11_read 11 = .ok (.getfield 118, 3) := by decide +kernel
theorem dX11_read_14 : decode cX11_read 14 = .ok (.iconst (-1), 1) := by decide +kernel
theorem dX11_read_15 : decode cX11_read 15 = .ok (.if_icmp .eq 14, 3) := by decide +kernel
theorem dX11_read_18 : decode cX11_read 18 = .ok (.bipush (-10), 2) := by decide +kernel
theorem dX11_read_20 : decode cX11_read 20 = .ok (.aload_n 0, 1) := by decide +kernel
theorem dX11_read_21 : decode cX11_read 21 = .ok (.getfield 37, 3) := by decide +kernel
theorem dX11_read_24 : decode cX11_read 24 = .ok (.getfield 118, 3) := by decide +kernel
theorem dX11_read_27 : decode cX11_read 27 = .ok (.isub, 1) := by decide +kernel
theorem dX11_read_28 : decode cX11_read 28 = .ok (.ireturn, 1) := by decide +kernel
theorem dX11_read_29 : decode cX11_read 29 = .ok (.aload_n 0, 1) := by decide +kernel
theorem dX11_read_30 : decode cX11_read 30 = .ok (.getfield 44, 3) := by decide +kernel
theorem dX11_read_33 : decode cX11_read 33 = .ok (.aload_n 0, 1) := by decide +kernel
theorem dX11_read_34 : decode cX11_read 34 = .ok (.getfield 37, 3) := by decide +kernel
theorem dX11_read_37 : decode cX11_read 37 = .ok (.getfield 121, 3) := by decide +kernel
theorem dX11_read_40 : decode cX11_read 40 = .ok (.invokevirtual 81, 3) := by decide +kernel
theorem dX11_read_43 : decode cX11_read 43 = .ok (.aload_n 0, 1) := by decide +kernel
theorem dX11_read_44 : decode cX11_read 44 = .ok (.getfield 37, 3) := by decide +kernel
theorem dX11_read_47 : decode cX11_read 47 = .ok (.getfield 122, 3) := by decide +kernel
theorem dX11_read_50 : decode cX11_read 50 = .ok (.iconst 0, 1) := by decide +kernel
theorem dX11_read_51 : decode cX11_read 51 = .ok (.aload_n 0, 1) := by decide +kernel
theorem dX11_read_52 : decode cX11_read 52 = .ok (.getfield 44, 3) := by decide +kernel
theorem dX11_read_55 : decode cX11_read 55 = .ok (.getfield 96, 3) := by decide +kernel
theorem dX11_read_58 : decode cX11_read 58 = .ok (.iconst 0, 1) := by decide +kernel
theorem dX11_read_59 : decode cX11_read 59 = .ok (.bipush 8, 2) := by decide +kernel
theorem dX11_read_61 : decode cX11_read 61 = .ok (.invokestatic 123, 3) := by decide +kernel
theorem dX11_read_64 : decode cX11_read 64 = .ok (.aload_n 0, 1) := by decide +kernel
theorem dX11_read_65 : decode cX11_read 65 = .ok (.getfield 37, 3) := by decide +kernel
theorem dX11_read_68 : decode cX11_read 68 = .ok (.getfield 129, 3) := by decide +kernel
theorem dX11_read_71 : decode cX11_read 71 = .ok (.ireturn, 1) := by decide +kernel
theorem dX11_of_0 : decode cX11_of 0 = .ok (.iload_n 1, 1) := by decide +kernel
theorem dX11_of_1 : decode cX11_of 1 = .ok (.invokestatic 92, 3) := by decide +kernel
theorem dX11_of_4 : decode cX11_of 4 = .ok (.ifCond .eq 12, 3) := by decide +kernel
theorem dX11_of_7 : decode cX11_of 7 = .ok (.iload_n 2, 1) := by decide +kernel
theorem dX11_of_8 : decode cX11_of 8 = .ok (.ifCond .lt 8, 3) := by decide +kernel
theorem dX11_of_11 : decode cX11_of 11 = .ok (.iload_n 2, 1) := by decide +kernel
theorem dX11_of_12 : decode cX11_of 12 = .ok (.iconst 4, 1) := by decide +kernel
theorem dX11_of_13 : decode cX11_of 13 = .ok (.if_icmp .le 8, 3) := by decide +kernel
theorem dX11_of_16 : decode cX11_of 16 = .ok (.aload_n 0, 1) := by decide +kernel
theorem dX11_of_17 : decode cX11_of 17 = .ok (.invokevirtual 74, 3) := by decide +kernel
theorem dX11_of_20 : decode cX11_of 20 = .ok (.ireturn, 1) := by decide +kernel
theorem dX11_of_21 : decode cX11_of 21 = .ok (.aload_n 0, 1) := by decide +kernel
theorem dX11_of_22 : decode cX11_of 22 = .ok (.getfield 44, 3) := by decide +kernel
theorem dX11_of_25 : decode cX11_of 25 = .ok (.getfield 96, 3) := by decide +kernel
theorem dX11_of_28 : decode cX11_of 28 = .ok (.iload_n 1, 1) := by decide +kernel
theorem dX11_of_29 : decode cX11_of 29 = .ok (.iaload, 1) := by decide +kernel
theorem dX11_of_30 : decode cX11_of 30 = .ok (.istore_n 3, 1) := by decide +kernel
theorem dX11_of_31 : decode cX11_of 31 = .ok (.iload_n 3, 1) := by decide +kernel
theorem dX11_of_32 : decode cX11_of 32 = .ok (.ifCond .ne 5, 3) := by decide +kernel
theorem dX11_of_35 : decode cX11_of 35 = .ok (.iconst 0, 1) := by decide +kernel
theorem dX11_of_36 : decode cX11_of 36 = .ok (.ireturn, 1) := by decide +kernel
theorem dX11_of_37 : decode cX11_of 37 = .ok (.iload_n 2, 1) := by decide +kernel
theorem dX11_of_38 : decode cX11_of 38 = .ok (.tableswitch 65 0 3 #[30, 32, 41, 53], 30) := by decide +kernel
theorem dX11_of_68 : decode cX11_of 68 = .ok (.iload_n 3, 1) := by decide +kernel
theorem dX11_of_69 : decode cX11_of 69 = .ok (.ireturn, 1) := by decide +kernel
theorem dX11_of_70 : decode cX11_of 70 = .ok (.aload_n 0, 1) := by decide +kernel
theorem dX11_of_71 : decode cX11_of 71 = .ok (.getfield 10, 3) := by decide +kernel
theorem dX11_of_74 : decode cX11_of 74 = .ok (.iload_n 3, 1) := by decide +kernel
theorem dX11_of_75 : decode cX11_of 75 = .ok (.invokevirtual 132, 3) := by decide +kernel
theorem dX11_of_78 : decode cX11_of 78 = .ok (.ireturn, 1) := by decide +kernel
theorem dX11_of_79 : decode cX11_of 79 = .ok (.aload_n 0, 1) := by decide +kernel
theorem dX11_of_80 : decode cX11_of 80 = .ok (.getfield 10, 3) := by decide +kernel
theorem dX11_of_83 : decode cX11_of 83 = .ok (.iload_n 3, 1) := by decide +kernel
theorem dX11_of_84 : decode cX11_of 84 = .ok (.invokevirtual 136, 3) := by decide +kernel
theorem dX11_of_87 : decode cX11_of 87 = .ok (.invokestatic 139, 3) := by decide +kernel
theorem dX11_of_90 : decode cX11_of 90 = .ok (.ireturn, 1) := by decide +kernel
theorem dX11_of_91 : decode cX11_of 91 = .ok (.aload_n 0, 1) := by decide +kernel
theorem dX11_of_92 : decode cX11_of 92 = .ok (.getfield 10, 3) := by decide +kernel
theorem dX11_of_95 : decode cX11_of 95 = .ok (.iload_n 3, 1) := by decide +kernel
theorem dX11_of_96 : decode cX11_of 96 = .ok (.invokevirtual 143, 3) := by decide +kernel
theorem dX11_of_99 : decode cX11_of 99 = .ok (.invokestatic 139, 3) := by decide +kernel
theorem dX11_of_102 : decode cX11_of 102 = .ok (.ireturn, 1) := by decide +kernel
theorem dX11_of_103 : decode cX11_of 103 = .ok (.aload_n 0, 1) := by decide +kernel
theorem dX11_of_104 : decode cX11_of 104 = .ok (.getfield 21, 3) := by decide +kernel
theorem dX11_of_107 : decode cX11_of 107 = .ok (.aload_n 0, 1) := by decide +kernel
theorem dX11_of_108 : decode cX11_of 108 = .ok (.getfield 44, 3) := by decide +kernel
theorem dX11_of_111 : decode cX11_of 111 = .ok (.getfield 85, 3) := by decide +kernel
theorem dX11_of_114 : decode cX11_of 114 = .ok (.aload_n 0, 1) := by decide +kernel
theorem dX11_of_115 : decode cX11_of 115 = .ok (.getfield 44, 3) := by decide +kernel
theorem dX11_of_118 : decode cX11_of 118 = .ok (.getfield 96, 3) := by decide +kernel
theorem dX11_of_121 : decode cX11_of 121 = .ok (.invokevirtual 146, 3) := by decide +kernel
theorem dX11_of_124 : decode cX11_of 124 = .ok (.invokestatic 150, 3) := by decide +kernel
theorem dX11_of_127 : decode cX11_of 127 = .ok (.iload_n 1, 1) := by decide +kernel
theorem dX11_of_128 : decode cX11_of 128 = .ok (.ishr, 1) := by decide +kernel
theorem dX11_of_129 : decode cX11_of 129 = .ok (.iconst 1, 1) := by decide +kernel
theorem dX11_of_130 : decode cX11_of 130 = .ok (.iand, 1) := by decide +kernel
theorem dX11_of_131 : decode cX11_of 131 = .ok (.ireturn, 1) := by decide +kernel
theorem dX11_may_0 : decode cX11_may 0 = .ok (.iload_n 1, 1) := by decide +kernel
theorem dX11_may_1 : decode cX11_may 1 = .ok (.invokestatic 153, 3) := by decide +kernel
theorem dX11_may_4 : decode cX11_may 4 = .ok (.ifCond .eq 10, 3) := by decide +kernel
theorem dX11_may_7 : decode cX11_may 7 = .ok (.iload_n 2, 1) := by decide +kernel
theorem dX11_may_8 : decode cX11_may 8 = .ok (.invokestatic 153, 3) := by decide +kernel
theorem dX11_may_11 : decode cX11_may 11 = .ok (.ifCond .ne 8, 3) := by decide +kernel
theorem dX11_may_14 : decode cX11_may 14 = .ok (.aload_n 0, 1) := by decide +kernel
theorem dX11_may_15 : decode cX11_may 15 = .ok (.invokevirtual 74, 3) := by decide +kernel
theorem dX11_may_18 : decode cX11_may 18 = .ok (.ireturn, 1) := by decide +kernel
theorem dX11_may_19 : decode cX11_may 19 = .ok (.aload_n 0, 1) := by decide +kernel
theorem dX11_may_20 : decode cX11_may 20 = .ok (.getfield 21, 3) := by decide +kernel
theorem dX11_may_23 : decode cX11_may 23 = .ok (.aload_n 0, 1) := by decide +kernel
theorem dX11_may_24 : decode cX11_may 24 = .ok (.getfield 44, 3) := by decide +kernel
theorem dX11_may_27 : decode cX11_may 27 = .ok (.getfield 85, 3) := by decide +kernel
theorem dX11_may_30 : decode cX11_may 30 = .ok (.iload_n 1, 1) := by decide +kernel
theorem dX11_may_31 : decode cX11_may 31 = .ok (.iload_n 2, 1) := by decide +kernel
theorem dX11_may_32 : decode cX11_may 32 = .ok (.invokevirtual 156, 3) := by decide +kernel
theorem dX11_may_35 : decode cX11_may 35 = .ok (.invokestatic 139, 3) := by decide +kernel
theorem dX11_may_38 : decode cX11_may 38 = .ok (.ireturn, 1) := by decide +kernel
theorem dX11_quarrels_0 : decode cX11_quarrels 0 = .ok (.iload_n 1, 1) := by decide +kernel
theorem dX11_quarrels_1 : decode cX11_quarrels 1 = .ok (.invokestatic 160, 3) := by decide +kernel
theorem dX11_quarrels_4 : decode cX11_quarrels 4 = .ok (.ifCond .ne 8, 3) := by decide +kernel
theorem dX11_quarrels_7 : decode cX11_quarrels 7 = .ok (.aload_n 0, 1) := by decide +kernel
theorem dX11_quarrels_8 : decode cX11_quarrels 8 = .ok (.invokevirtual 74, 3) := by decide +kernel
theorem dX11_quarrels_11 : decode cX11_quarrels 11 = .ok (.ireturn, 1) := by decide +kernel
theorem dX11_quarrels_12 : decode cX11_quarrels 12 = .ok (.aload_n 0, 1) := by decide +kernel
theorem dX11_quarrels_13 : decode cX11_quarrels 13 = .ok (.getfield 21, 3) := by decide +kernel
theorem dX11_quarrels_16 : decode cX11_quarrels 16 = .ok (.aload_n 0, 1) := by decide +kernel
theorem dX11_quarrels_17 : decode cX11_quarrels 17 = .ok (.getfield 44, 3) := by decide +kernel
theorem dX11_quarrels_20 : decode cX11_quarrels 20 = .ok (.getfield 85, 3) := by decide +kernel
theorem dX11_quarrels_23 : decode cX11_quarrels 23 = .ok (.aload_n 0, 1) := by decide +kernel
theorem dX11_quarrels_24 : decode cX11_quarrels 24 = .ok (.getfield 44, 3) := by decide +kernel
theorem dX11_quarrels_27 : decode cX11_quarrels 27 = .ok (.getfield 96, 3) := by decide +kernel
theorem dX11_quarrels_30 : decode cX11_quarrels 30 = .ok (.invokevirtual 146, 3) := by decide +kernel
theorem dX11_quarrels_33 : decode cX11_quarrels 33 = .ok (.istore_n 2, 1) := by decide +kernel
theorem dX11_quarrels_34 : decode cX11_quarrels 34 = .ok (.iload_n 1, 1) := by decide +kernel
theorem dX11_quarrels_35 : decode cX11_quarrels 35 = .ok (.ifCond .ne 10, 3) := by decide +kernel
theorem dX11_quarrels_38 : decode cX11_quarrels 38 = .ok (.iload_n 2, 1) := by decide +kernel
theorem dX11_quarrels_39 : decode cX11_quarrels 39 = .ok (.invokestatic 150, 3) := by decide +kernel
theorem dX11_quarrels_42 : decode cX11_quarrels 42 = .ok (.goto 7, 3) := by decide +kernel
theorem dX11_quarrels_45 : decode cX11_quarrels 45 = .ok (.iload_n 2, 1) := by decide +kernel
theorem dX11_quarrels_46 : decode cX11_quarrels 46 = .ok (.invokestatic 163, 3) := by decide +kernel
theorem dX11_quarrels_49 : decode cX11_quarrels 49 = .ok (.ireturn, 1) := by decide +kernel
theorem dX11_away_0 : decode cX11_away 0 = .ok (.aload_n 0, 1) := by decide +kernel
theorem dX11_away_1 : decode cX11_away 1 = .ok (.getfield 21, 3) := by decide +kernel
theorem dX11_away_4 : decode cX11_away 4 = .ok (.aload_n 0, 1) := by decide +kernel
theorem dX11_away_5 : decode cX11_away 5 = .ok (.getfield 44, 3) := by decide +kernel
theorem dX11_away_8 : decode cX11_away 8 = .ok (.getfield 85, 3) := by decide +kernel
theorem dX11_away_11 : decode cX11_away 11 = .ok (.aload_n 0, 1) := by decide +kernel
theorem dX11_away_12 : decode cX11_away 12 = .ok (.getfield 44, 3) := by decide +kernel
theorem dX11_away_15 : decode cX11_away 15 = .ok (.getfield 96, 3) := by decide +kernel
theorem dX11_away_18 : decode cX11_away 18 = .ok (.invokevirtual 146, 3) := by decide +kernel
theorem dX11_away_21 : decode cX11_away 21 = .ok (.invokestatic 168, 3) := by decide +kernel
theorem dX11_away_24 : decode cX11_away 24 = .ok (.ireturn, 1) := by decide +kernel
theorem dX11_orders_0 : decode cX11_orders 0 = .ok (.iload_n 1, 1) := by decide +kernel
theorem dX11_orders_1 : decode cX11_orders 1 = .ok (.iconst (-1), 1) := by decide +kernel
theorem dX11_orders_2 : decode cX11_orders 2 = .ok (.if_icmp .eq 15, 3) := by decide +kernel
theorem dX11_orders_5 : decode cX11_orders 5 = .ok (.iload_n 1, 1) := by decide +kernel
theorem dX11_orders_6 : decode cX11_orders 6 = .ok (.invokestatic 92, 3) := by decide +kernel
theorem dX11_orders_9 : decode cX11_orders 9 = .ok (.ifCond .ne 8, 3) := by decide +kernel
theorem dX11_orders_12 : decode cX11_orders 12 = .ok (.aload_n 0, 1) := by decide +kernel
theorem dX11_orders_13 : decode cX11_orders 13 = .ok (.invokevirtual 171, 3) := by decide +kernel
theorem dX11_orders_16 : decode cX11_orders 16 = .ok (.ireturn, 1) := by decide +kernel
theorem dX11_orders_17 : decode cX11_orders 17 = .ok (.aload_n 0, 1) := by decide +kernel
theorem dX11_orders_18 : decode cX11_orders 18 = .ok (.getfield 30, 3) := by decide +kernel
theorem dX11_orders_21 : decode cX11_orders 21 = .ok (.aload_n 0, 1) := by decide +kernel
theorem dX11_orders_22 : decode cX11_orders 22 = .ok (.getfield 44, 3) := by decide +kernel
theorem dX11_orders_25 : decode cX11_orders 25 = .ok (.getfield 85, 3) := by decide +kernel
theorem dX11_orders_28 : decode cX11_orders 28 = .ok (.aload_n 0, 1) := by decide +kernel
theorem dX11_orders_29 : decode cX11_orders 29 = .ok (.getfield 44, 3) := by decide +kernel
theorem dX11_orders_32 : decode cX11_orders 32 = .ok (.getfield 96, 3) := by decide +kernel
theorem dX11_orders_35 : decode cX11_orders 35 = .ok (.invokevirtual 174, 3) := by decide +kernel
theorem dX11_orders_38 : decode cX11_orders 38 = .ok (.aload_n 0, 1) := by decide +kernel
theorem dX11_orders_39 : decode cX11_orders 39 = .ok (.getfield 30, 3) := by decide +kernel
theorem dX11_orders_42 : decode cX11_orders 42 = .ok (.invokevirtual 178, 3) := by decide +kernel
theorem dX11_orders_45 : decode cX11_orders 45 = .ok (.istore_n 2, 1) := by decide +kernel
theorem dX11_orders_46 : decode cX11_orders 46 = .ok (.iload_n 1, 1) := by decide +kernel
theorem dX11_orders_47 : decode cX11_orders 47 = .ok (.iconst (-1), 1) := by decide +kernel
theorem dX11_orders_48 : decode cX11_orders 48 = .ok (.if_icmp .ne 5, 3) := by decide +kernel
theorem dX11_orders_51 : decode cX11_orders 51 = .ok (.iload_n 2, 1) := by decide +kernel
theorem dX11_orders_52 : decode cX11_orders 52 = .ok (.ireturn, 1) := by decide +kernel
theorem dX11_orders_53 : decode cX11_orders 53 = .ok (.iload_n 2, 1) := by decide +kernel
theorem dX11_orders_54 : decode cX11_orders 54 = .ok (.ifCond .ne 7, 3) := by decide +kernel
theorem dX11_orders_57 : decode cX11_orders 57 = .ok (.iconst (-1), 1) := by decide +kernel
theorem dX11_orders_58 : decode cX11_orders 58 = .ok (.goto 11, 3) := by decide +kernel
theorem dX11_orders_61 : decode cX11_orders 61 = .ok (.aload_n 0, 1) := by decide +kernel
theorem dX11_orders_62 : decode cX11_orders 62 = .ok (.getfield 30, 3) := by decide +kernel
theorem dX11_orders_65 : decode cX11_orders 65 = .ok (.iload_n 1, 1) := by decide +kernel
theorem dX11_orders_66 : decode cX11_orders 66 = .ok (.invokevirtual 181, 3) := by decide +kernel
theorem dX11_orders_69 : decode cX11_orders 69 = .ok (.ireturn, 1) := by decide +kernel
theorem dX11_moved_0 : decode cX11_moved 0 = .ok (.aload_n 0, 1) := by decide +kernel
theorem dX11_moved_1 : decode cX11_moved 1 = .ok (.getfield 30, 3) := by decide +kernel
theorem dX11_moved_4 : decode cX11_moved 4 = .ok (.aload_n 0, 1) := by decide +kernel
theorem dX11_moved_5 : decode cX11_moved 5 = .ok (.getfield 44, 3) := by decide +kernel
theorem dX11_moved_8 : decode cX11_moved 8 = .ok (.getfield 85, 3) := by decide +kernel
theorem dX11_moved_11 : decode cX11_moved 11 = .ok (.aload_n 0, 1) := by decide +kernel
theorem dX11_moved_12 : decode cX11_moved 12 = .ok (.getfield 44, 3) := by decide +kernel
theorem dX11_moved_15 : decode cX11_moved 15 = .ok (.getfield 96, 3) := by decide +kernel
theorem dX11_moved_18 : decode cX11_moved 18 = .ok (.invokevirtual 174, 3) := by decide +kernel
theorem dX11_moved_21 : decode cX11_moved 21 = .ok (.aload_n 0, 1) := by decide +kernel
theorem dX11_moved_22 : decode cX11_moved 22 = .ok (.getfield 30, 3) := by decide +kernel
theorem dX11_moved_25 : decode cX11_moved 25 = .ok (.invokevirtual 184, 3) := by decide +kernel
theorem dX11_moved_28 : decode cX11_moved 28 = .ok (.ireturn, 1) := by decide +kernel
theorem dX11_longest_0 : decode cX11_longest 0 = .ok (.aload_n 0, 1) := by decide +kernel
theorem dX11_longest_1 : decode cX11_longest 1 = .ok (.getfield 30, 3) := by decide +kernel
theorem dX11_longest_4 : decode cX11_longest 4 = .ok (.aload_n 0, 1) := by decide +kernel
theorem dX11_longest_5 : decode cX11_longest 5 = .ok (.getfield 44, 3) := by decide +kernel
theorem dX11_longest_8 : decode cX11_longest 8 = .ok (.getfield 96, 3) := by decide +kernel
theorem dX11_longest_11 : decode cX11_longest 11 = .ok (.invokevirtual 187, 3) := by decide +kernel
theorem dX11_longest_14 : decode cX11_longest 14 = .ok (.ireturn, 1) := by decide +kernel
theorem dX11_greatest_0 : decode cX11_greatest 0 = .ok (.iload_n 1, 1) := by decide +kernel
theorem dX11_greatest_1 : decode cX11_greatest 1 = .ok (.invokestatic 160, 3) := by decide +kernel
theorem dX11_greatest_4 : decode cX11_greatest 4 = .ok (.ifCond .ne 8, 3) := by decide +kernel
theorem dX11_greatest_7 : decode cX11_greatest 7 = .ok (.aload_n 0, 1) := by decide +kernel
theorem dX11_greatest_8 : decode cX11_greatest 8 = .ok (.invokevirtual 74, 3) := by decide +kernel
theorem dX11_greatest_11 : decode cX11_greatest 11 = .ok (.ireturn, 1) := by decide +kernel
theorem dX11_greatest_12 : decode cX11_greatest 12 = .ok (.aload_n 0, 1) := by decide +kernel
theorem dX11_greatest_13 : decode cX11_greatest 13 = .ok (.getfield 30, 3) := by decide +kernel
theorem dX11_greatest_16 : decode cX11_greatest 16 = .ok (.aload_n 0, 1) := by decide +kernel
theorem dX11_greatest_17 : decode cX11_greatest 17 = .ok (.getfield 44, 3) := by decide +kernel
theorem dX11_greatest_20 : decode cX11_greatest 20 = .ok (.getfield 96, 3) := by decide +kernel
theorem dX11_greatest_23 : decode cX11_greatest 23 = .ok (.invokevirtual 191, 3) := by decide +kernel
theorem dX11_greatest_26 : decode cX11_greatest 26 = .ok (.istore_n 2, 1) := by decide +kernel
theorem dX11_greatest_27 : decode cX11_greatest 27 = .ok (.iload_n 1, 1) := by decide +kernel
theorem dX11_greatest_28 : decode cX11_greatest 28 = .ok (.ifCond .ne 10, 3) := by decide +kernel
theorem dX11_greatest_31 : decode cX11_greatest 31 = .ok (.iload_n 2, 1) := by decide +kernel
theorem dX11_greatest_32 : decode cX11_greatest 32 = .ok (.invokestatic 163, 3) := by decide +kernel
theorem dX11_greatest_35 : decode cX11_greatest 35 = .ok (.goto 4, 3) := by decide +kernel
theorem dX11_greatest_38 : decode cX11_greatest 38 = .ok (.iload_n 2, 1) := by decide +kernel
theorem dX11_greatest_39 : decode cX11_greatest 39 = .ok (.ireturn, 1) := by decide +kernel
theorem dX11_chain_0 : decode cX11_chain 0 = .ok (.iload_n 1, 1) := by decide +kernel
theorem dX11_chain_1 : decode cX11_chain 1 = .ok (.invokestatic 153, 3) := by decide +kernel
theorem dX11_chain_4 : decode cX11_chain 4 = .ok (.ifCond .eq 12, 3) := by decide +kernel
theorem dX11_chain_7 : decode cX11_chain 7 = .ok (.iload_n 2, 1) := by decide +kernel
theorem dX11_chain_8 : decode cX11_chain 8 = .ok (.ifCond .lt 8, 3) := by decide +kernel
theorem dX11_chain_11 : decode cX11_chain 11 = .ok (.iload_n 2, 1) := by decide +kernel
theorem dX11_chain_12 : decode cX11_chain 12 = .ok (.iconst 2, 1) := by decide +kernel
theorem dX11_chain_13 : decode cX11_chain 13 = .ok (.if_icmp .le 8, 3) := by decide +kernel
theorem dX11_chain_16 : decode cX11_chain 16 = .ok (.aload_n 0, 1) := by decide +kernel
theorem dX11_chain_17 : decode cX11_chain 17 = .ok (.invokevirtual 74, 3) := by decide +kernel
theorem dX11_chain_20 : decode cX11_chain 20 = .ok (.ireturn, 1) := by decide +kernel
theorem dX11_chain_21 : decode cX11_chain 21 = .ok (.iload_n 2, 1) := by decide +kernel
theorem dX11_chain_22 : decode cX11_chain 22 = .ok (.iconst 2, 1) := by decide +kernel
theorem dX11_chain_23 : decode cX11_chain 23 = .ok (.if_icmp .ne 24, 3) := by decide +kernel
theorem dX11_chain_26 : decode cX11_chain 26 = .ok (.aload_n 0, 1) := by decide +kernel
theorem dX11_chain_27 : decode cX11_chain 27 = .ok (.getfield 10, 3) := by decide +kernel
theorem dX11_chain_30 : decode cX11_chain 30 = .ok (.iload_n 1, 1) := by decide +kernel
theorem dX11_chain_31 : decode cX11_chain 31 = .ok (.invokevirtual 132, 3) := by decide +kernel
theorem dX11_chain_34 : decode cX11_chain 34 = .ok (.iload_n 1, 1) := by decide +kernel
theorem dX11_chain_35 : decode cX11_chain 35 = .ok (.if_icmp .ne 7, 3) := by decide +kernel
theorem dX11_chain_38 : decode cX11_chain 38 = .ok (.iconst 1, 1) := by decide +kernel
theorem dX11_chain_39 : decode cX11_chain 39 = .ok (.goto 4, 3) := by decide +kernel
theorem dX11_chain_42 : decode cX11_chain 42 = .ok (.iconst 0, 1) := by decide +kernel
theorem dX11_chain_43 : decode cX11_chain 43 = .ok (.invokestatic 139, 3) := by decide +kernel
theorem dX11_chain_46 : decode cX11_chain 46 = .ok (.ireturn, 1) := by decide +kernel
theorem dX11_chain_47 : decode cX11_chain 47 = .ok (.aload_n 0, 1) := by decide +kernel
theorem dX11_chain_48 : decode cX11_chain 48 = .ok (.iload_n 1, 1) := by decide +kernel
theorem dX11_chain_49 : decode cX11_chain 49 = .ok (.invokevirtual 194, 3) := by decide +kernel
theorem dX11_chain_52 : decode cX11_chain 52 = .ok (.istore_n 3, 1) := by decide +kernel
theorem dX11_chain_53 : decode cX11_chain 53 = .ok (.iload_n 2, 1) := by decide +kernel
theorem dX11_chain_54 : decode cX11_chain 54 = .ok (.ifCond .ne 12, 3) := by decide +kernel
theorem dX11_chain_57 : decode cX11_chain 57 = .ok (.aload_n 0, 1) := by decide +kernel
theorem dX11_chain_58 : decode cX11_chain 58 = .ok (.getfield 197, 3) := by decide +kernel
theorem dX11_chain_61 : decode cX11_chain 61 = .ok (.iconst 1, 1) := by decide +kernel
theorem dX11_chain_62 : decode cX11_chain 62 = .ok (.isub, 1) := by decide +kernel
theorem dX11_chain_63 : decode cX11_chain 63 = .ok (.goto 4, 3) := by decide +kernel
theorem dX11_chain_66 : decode cX11_chain 66 = .ok (.iload_n 3, 1) := by decide +kernel
theorem dX11_chain_67 : decode cX11_chain 67 = .ok (.ireturn, 1) := by decide +kernel
theorem dX11_meet_0 : decode cX11_meet 0 = .ok (.iconst 0, 1) := by decide +kernel
theorem dX11_meet_1 : decode cX11_meet 1 = .ok (.istore_n 1, 1) := by decide +kernel
theorem dX11_meet_2 : decode cX11_meet 2 = .ok (.iconst 1, 1) := by decide +kernel
theorem dX11_meet_3 : decode cX11_meet 3 = .ok (.istore_n 2, 1) := by decide +kernel
theorem dX11_meet_4 : decode cX11_meet 4 = .ok (.iconst 0, 1) := by decide +kernel
theorem dX11_meet_5 : decode cX11_meet 5 = .ok (.istore_n 3, 1) := by decide +kernel
theorem dX11_meet_6 : decode cX11_meet 6 = .ok (.iload_n 3, 1) := by decide +kernel
theorem dX11_meet_7 : decode cX11_meet 7 = .ok (.bipush 8, 2) := by decide +kernel
theorem dX11_meet_9 : decode cX11_meet 9 = .ok (.if_icmp .ge 41, 3) := by decide +kernel
theorem dX11_meet_12 : decode cX11_meet 12 = .ok (.aload_n 0, 1) := by decide +kernel
theorem dX11_meet_13 : decode cX11_meet 13 = .ok (.getfield 44, 3) := by decide +kernel
theorem dX11_meet_16 : decode cX11_meet 16 = .ok (.getfield 96, 3) := by decide +kernel
theorem dX11_meet_19 : decode cX11_meet 19 = .ok (.iload_n 3, 1) := by decide +kernel
theorem dX11_meet_20 : decode cX11_meet 20 = .ok (.iaload, 1) := by decide +kernel
theorem dX11_meet_21 : decode cX11_meet 21 = .ok (.istore 4, 2) := by decide +kernel
theorem dX11_meet_23 : decode cX11_meet 23 = .ok (.iload 4, 2) := by decide +kernel
theorem dX11_meet_25 : decode cX11_meet 25 = .ok (.ifCond .le 19, 3) := by decide +kernel
theorem dX11_meet_28 : decode cX11_meet 28 = .ok (.iload_n 1, 1) := by decide +kernel
theorem dX11_meet_29 : decode cX11_meet 29 = .ok (.iload_n 2, 1) := by decide +kernel
theorem dX11_meet_30 : decode cX11_meet 30 = .ok (.iload_n 3, 1) := by decide +kernel
theorem dX11_meet_31 : decode cX11_meet 31 = .ok (.iload 4, 2) := by decide +kernel
theorem dX11_meet_33 : decode cX11_meet 33 = .ok (.invokestatic 200, 3) := by decide +kernel
theorem dX11_meet_36 : decode cX11_meet 36 = .ok (.istore_n 1, 1) := by decide +kernel
theorem dX11_meet_37 : decode cX11_meet 37 = .ok (.iload_n 2, 1) := by decide +kernel
theorem dX11_meet_38 : decode cX11_meet 38 = .ok (.iload 4, 2) := by decide +kernel
theorem dX11_meet_40 : decode cX11_meet 40 = .ok (.invokestatic 204, 3) := by decide +kernel
theorem dX11_meet_43 : decode cX11_meet 43 = .ok (.istore_n 2, 1) := by decide +kernel
theorem dX11_meet_44 : decode cX11_meet 44 = .ok (.iinc 3 1, 3) := by decide +kernel
theorem dX11_meet_47 : decode cX11_meet 47 = .ok (.goto (-41), 3) := by decide +kernel
theorem dX11_meet_50 : decode cX11_meet 50 = .ok (.iload_n 1, 1) := by decide +kernel
theorem dX11_meet_51 : decode cX11_meet 51 = .ok (.ldc 208, 2) := by decide +kernel
theorem dX11_meet_53 : decode cX11_meet 53 = .ok (.if_icmp .le 7, 3) := by decide +kernel
theorem dX11_meet_56 : decode cX11_meet 56 = .ok (.iconst (-1), 1) := by decide +kernel
theorem dX11_meet_57 : decode cX11_meet 57 = .ok (.goto 4, 3) := by decide +kernel
theorem dX11_meet_60 : decode cX11_meet 60 = .ok (.iload_n 1, 1) := by decide +kernel
theorem dX11_meet_61 : decode cX11_meet 61 = .ok (.ireturn, 1) := by decide +kernel
theorem dX11_next_0 : decode cX11_next 0 = .ok (.iload_n 1, 1) := by decide +kernel
theorem dX11_next_1 : decode cX11_next 1 = .ok (.ifCond .lt 9, 3) := by decide +kernel
theorem dX11_next_4 : decode cX11_next 4 = .ok (.iload_n 1, 1) := by decide +kernel
theorem dX11_next_5 : decode cX11_next 5 = .ok (.ldc 208, 2) := by decide +kernel
theorem dX11_next_7 : decode cX11_next 7 = .ok (.if_icmp .le 8, 3) := by decide +kernel
theorem dX11_next_10 : decode cX11_next 10 = .ok (.aload_n 0, 1) := by decide +kernel
theorem dX11_next_11 : decode cX11_next 11 = .ok (.invokevirtual 74, 3) := by decide +kernel
theorem dX11_next_14 : decode cX11_next 14 = .ok (.ireturn, 1) := by decide +kernel
theorem dX11_next_15 : decode cX11_next 15 = .ok (.iconst (-1), 1) := by decide +kernel
theorem dX11_next_16 : decode cX11_next 16 = .ok (.istore_n 2, 1) := by decide +kernel
theorem dX11_next_17 : decode cX11_next 17 = .ok (.iconst 0, 1) := by decide +kernel
theorem dX11_next_18 : decode cX11_next 18 = .ok (.istore_n 3, 1) := by decide +kernel
theorem dX11_next_19 : decode cX11_next 19 = .ok (.iload_n 3, 1) := by decide +kernel
theorem dX11_next_20 : decode cX11_next 20 = .ok (.bipush 8, 2) := by decide +kernel
theorem dX11_next_22 : decode cX11_next 22 = .ok (.if_icmp .ge 51, 3) := by decide +kernel
theorem dX11_next_25 : decode cX11_next 25 = .ok (.aload_n 0, 1) := by decide +kernel
theorem dX11_next_26 : decode cX11_next 26 = .ok (.getfield 44, 3) := by decide +kernel
theorem dX11_next_29 : decode cX11_next 29 = .ok (.getfield 96, 3) := by decide +kernel
theorem dX11_next_32 : decode cX11_next 32 = .ok (.iload_n 3, 1) := by decide +kernel
theorem dX11_next_33 : decode cX11_next 33 = .ok (.iaload, 1) := by decide +kernel
theorem dX11_next_34 : decode cX11_next 34 = .ok (.istore 4, 2) := by decide +kernel
theorem dX11_next_36 : decode cX11_next 36 = .ok (.iload 4, 2) := by decide +kernel
theorem dX11_next_38 : decode cX11_next 38 = .ok (.ifCond .le 29, 3) := by decide +kernel
theorem dX11_next_41 : decode cX11_next 41 = .ok (.iload_n 1, 1) := by decide +kernel
theorem dX11_next_42 : decode cX11_next 42 = .ok (.iload_n 3, 1) := by decide +kernel
theorem dX11_next_43 : decode cX11_next 43 = .ok (.iload 4, 2) := by decide +kernel
theorem dX11_next_45 : decode cX11_next 45 = .ok (.invokestatic 209, 3) := by decide +kernel
theorem dX11_next_48 : decode cX11_next 48 = .ok (.istore 5, 2) := by decide +kernel
theorem dX11_next_50 : decode cX11_next 50 = .ok (.iload_n 2, 1) := by decide +kernel
theorem dX11_next_51 : decode cX11_next 51 = .ok (.iconst (-1), 1) := by decide +kernel
theorem dX11_next_52 : decode cX11_next 52 = .ok (.if_icmp .ne 8, 3) := by decide +kernel
theorem dX11_next_55 : decode cX11_next 55 = .ok (.iload 5, 2) := by decide +kernel
theorem dX11_next_57 : decode cX11_next 57 = .ok (.goto 9, 3) := by decide +kernel
theorem dX11_next_60 : decode cX11_next 60 = .ok (.iload_n 2, 1) := by decide +kernel
theorem dX11_next_61 : decode cX11_next 61 = .ok (.iload 5, 2) := by decide +kernel
theorem dX11_next_63 : decode cX11_next 63 = .ok (.invokestatic 213, 3) := by decide +kernel
theorem dX11_next_66 : decode cX11_next 66 = .ok (.istore_n 2, 1) := by decide +kernel
theorem dX11_next_67 : decode cX11_next 67 = .ok (.iinc 3 1, 3) := by decide +kernel
theorem dX11_next_70 : decode cX11_next 70 = .ok (.goto (-51), 3) := by decide +kernel
theorem dX11_next_73 : decode cX11_next 73 = .ok (.iload_n 2, 1) := by decide +kernel
theorem dX11_next_74 : decode cX11_next 74 = .ok (.ireturn, 1) := by decide +kernel
theorem dX11_reading_0 : decode cX11_reading 0 = .ok (.iload_n 1, 1) := by decide +kernel
theorem dX11_reading_1 : decode cX11_reading 1 = .ok (.invokestatic 153, 3) := by decide +kernel
theorem dX11_reading_4 : decode cX11_reading 4 = .ok (.ifCond .eq 10, 3) := by decide +kernel
theorem dX11_reading_7 : decode cX11_reading 7 = .ok (.iload_n 2, 1) := by decide +kernel
theorem dX11_reading_8 : decode cX11_reading 8 = .ok (.invokestatic 160, 3) := by decide +kernel
theorem dX11_reading_11 : decode cX11_reading 11 = .ok (.ifCond .ne 8, 3) := by decide +kernel
theorem dX11_reading_14 : decode cX11_reading 14 = .ok (.aload_n 0, 1) := by decide +kernel
theorem dX11_reading_15 : decode cX11_reading 15 = .ok (.invokevirtual 74, 3) := by decide +kernel
theorem dX11_reading_18 : decode cX11_reading 18 = .ok (.ireturn, 1) := by decide +kernel
theorem dX11_reading_19 : decode cX11_reading 19 = .ok (.aload_n 0, 1) := by decide +kernel
theorem dX11_reading_20 : decode cX11_reading 20 = .ok (.getfield 44, 3) := by decide +kernel
theorem dX11_reading_23 : decode cX11_reading 23 = .ok (.getfield 218, 3) := by decide +kernel
theorem dX11_reading_26 : decode cX11_reading 26 = .ok (.bipush 8, 2) := by decide +kernel
theorem dX11_reading_28 : decode cX11_reading 28 = .ok (.if_icmp .lt 8, 3) := by decide +kernel
theorem dX11_reading_31 : decode cX11_reading 31 = .ok (.aload_n 0, 1) := by decide +kernel
theorem dX11_reading_32 : decode cX11_reading 32 = .ok (.invokevirtual 109, 3) := by decide +kernel
theorem dX11_reading_35 : decode cX11_reading 35 = .ok (.ireturn, 1) := by decide +kernel
theorem dX11_reading_36 : decode cX11_reading 36 = .ok (.aload_n 0, 1) := by decide +kernel
theorem dX11_reading_37 : decode cX11_reading 37 = .ok (.getfield 44, 3) := by decide +kernel
theorem dX11_reading_40 : decode cX11_reading 40 = .ok (.iload_n 1, 1) := by decide +kernel
theorem dX11_reading_41 : decode cX11_reading 41 = .ok (.iload_n 2, 1) := by decide +kernel
theorem dX11_reading_42 : decode cX11_reading 42 = .ok (.invokevirtual 221, 3) := by decide +kernel
theorem dX11_reading_45 : decode cX11_reading 45 = .ok (.aload_n 0, 1) := by decide +kernel
theorem dX11_reading_46 : decode cX11_reading 46 = .ok (.getfield 44, 3) := by decide +kernel
theorem dX11_reading_49 : decode cX11_reading 49 = .ok (.getfield 218, 3) := by decide +kernel
theorem dX11_reading_52 : decode cX11_reading 52 = .ok (.ireturn, 1) := by decide +kernel
theorem dX11_who_0 : decode cX11_who 0 = .ok (.iload_n 1, 1) := by decide +kernel
theorem dX11_who_1 : decode cX11_who 1 = .ok (.invokestatic 160, 3) := by decide +kernel
theorem dX11_who_4 : decode cX11_who 4 = .ok (.ifCond .ne 8, 3) := by decide +kernel
theorem dX11_who_7 : decode cX11_who 7 = .ok (.aload_n 0, 1) := by decide +kernel
theorem dX11_who_8 : decode cX11_who 8 = .ok (.invokevirtual 171, 3) := by decide +kernel
theorem dX11_who_11 : decode cX11_who 11 = .ok (.ireturn, 1) := by decide +kernel
theorem dX11_who_12 : decode cX11_who 12 = .ok (.aload_n 0, 1) := by decide +kernel
theorem dX11_who_13 : decode cX11_who 13 = .ok (.invokevirtual 225, 3) := by decide +kernel
theorem dX11_who_16 : decode cX11_who 16 = .ok (.istore_n 2, 1) := by decide +kernel
theorem dX11_who_17 : decode cX11_who 17 = .ok (.iload_n 1, 1) := by decide +kernel
theorem dX11_who_18 : decode cX11_who 18 = .ok (.ifCond .ne 5, 3) := by decide +kernel
theorem dX11_who_21 : decode cX11_who 21 = .ok (.iload_n 2, 1) := by decide +kernel
theorem dX11_who_22 : decode cX11_who 22 = .ok (.ireturn, 1) := by decide +kernel
theorem dX11_who_23 : decode cX11_who 23 = .ok (.iload_n 2, 1) := by decide +kernel
theorem dX11_who_24 : decode cX11_who 24 = .ok (.ifCond .ne 7, 3) := by decide +kernel
theorem dX11_who_27 : decode cX11_who 27 = .ok (.iconst (-1), 1) := by decide +kernel
theorem dX11_who_28 : decode cX11_who 28 = .ok (.goto 9, 3) := by decide +kernel
theorem dX11_who_31 : decode cX11_who 31 = .ok (.aload_n 0, 1) := by decide +kernel
theorem dX11_who_32 : decode cX11_who 32 = .ok (.getfield 60, 3) := by decide +kernel
theorem dX11_who_35 : decode cX11_who 35 = .ok (.iconst 0, 1) := by decide +kernel
theorem dX11_who_36 : decode cX11_who 36 = .ok (.iaload, 1) := by decide +kernel
theorem dX11_who_37 : decode cX11_who 37 = .ok (.ireturn, 1) := by decide +kernel
theorem dX11_tryNext_0 : decode cX11_tryNext 0 = .ok (.aload_n 0, 1) := by decide +kernel
theorem dX11_tryNext_1 : decode cX11_tryNext 1 = .ok (.invokevirtual 225, 3) := by decide +kernel
theorem dX11_tryNext_4 : decode cX11_tryNext 4 = .ok (.istore_n 1, 1) := by decide +kernel
theorem dX11_tryNext_5 : decode cX11_tryNext 5 = .ok (.iconst (-1), 1) := by decide +kernel
theorem dX11_tryNext_6 : decode cX11_tryNext 6 = .ok (.istore_n 2, 1) := by decide +kernel
theorem dX11_tryNext_7 : decode cX11_tryNext 7 = .ok (.sipush 301, 3) := by decide +kernel
theorem dX11_tryNext_10 : decode cX11_tryNext 10 = .ok (.istore_n 3, 1) := by decide +kernel
theorem dX11_tryNext_11 : decode cX11_tryNext 11 = .ok (.iconst 1, 1) := by decide +kernel
theorem dX11_tryNext_12 : decode cX11_tryNext 12 = .ok (.istore 4, 2) := by decide +kernel
theorem dX11_tryNext_14 : decode cX11_tryNext 14 = .ok (.iload 4, 2) := by decide +kernel
theorem dX11_tryNext_16 : decode cX11_tryNext 16 = .ok (.sipush 300, 3) := by decide +kernel
theorem dX11_tryNext_19 : decode cX11_tryNext 19 = .ok (.if_icmp .gt 35, 3) := by decide +kernel
theorem dX11_tryNext_22 : decode cX11_tryNext 22 = .ok (.iload_n 1, 1) := by decide +kernel
theorem dX11_tryNext_23 : decode cX11_tryNext 23 = .ok (.ifCond .le 31, 3) := by decide +kernel
theorem dX11_tryNext_26 : decode cX11_tryNext 26 = .ok (.aload_n 0, 1) := by decide +kernel
theorem dX11_tryNext_27 : decode cX11_tryNext 27 = .ok (.iload 4, 2) := by decide +kernel
theorem dX11_tryNext_29 : decode cX11_tryNext 29 = .ok (.iload_n 1, 1) := by decide +kernel
theorem dX11_tryNext_30 : decode cX11_tryNext 30 = .ok (.iload_n 3, 1) := by decide +kernel
theorem dX11_tryNext_31 : decode cX11_tryNext 31 = .ok (.invokevirtual 228, 3) := by decide +kernel
theorem dX11_tryNext_34 : decode cX11_tryNext 34 = .ok (.istore 5, 2) := by decide +kernel
theorem dX11_tryNext_36 : decode cX11_tryNext 36 = .ok (.iload 5, 2) := by decide +kernel
theorem dX11_tryNext_38 : decode cX11_tryNext 38 = .ok (.iload_n 3, 1) := by decide +kernel
theorem dX11_tryNext_39 : decode cX11_tryNext 39 = .ok (.if_icmp .ge 9, 3) := by decide +kernel
theorem dX11_tryNext_42 : decode cX11_tryNext 42 = .ok (.iload 5, 2) := by decide +kernel
theorem dX11_tryNext_44 : decode cX11_tryNext 44 = .ok (.istore_n 3, 1) := by decide +kernel
theorem dX11_tryNext_45 : decode cX11_tryNext 45 = .ok (.iload 4, 2) := by decide +kernel
theorem dX11_tryNext_47 : decode cX11_tryNext 47 = .ok (.istore_n 2, 1) := by decide +kernel
theorem dX11_tryNext_48 : decode cX11_tryNext 48 = .ok (.iinc 4 1, 3) := by decide +kernel
theorem dX11_tryNext_51 : decode cX11_tryNext 51 = .ok (.goto (-37), 3) := by decide +kernel
theorem dX11_tryNext_54 : decode cX11_tryNext 54 = .ok (.iload_n 2, 1) := by decide +kernel
theorem dX11_tryNext_55 : decode cX11_tryNext 55 = .ok (.ireturn, 1) := by decide +kernel
theorem dX11_note_0 : decode cX11_note 0 = .ok (.iload_n 1, 1) := by decide +kernel
theorem dX11_note_1 : decode cX11_note 1 = .ok (.invokestatic 153, 3) := by decide +kernel
theorem dX11_note_4 : decode cX11_note 4 = .ok (.ifCond .eq 17, 3) := by decide +kernel
theorem dX11_note_7 : decode cX11_note 7 = .ok (.iload_n 2, 1) := by decide +kernel
theorem dX11_note_8 : decode cX11_note 8 = .ok (.invokestatic 153, 3) := by decide +kernel
theorem dX11_note_11 : decode cX11_note 11 = .ok (.ifCond .eq 10, 3) := by decide +kernel
theorem dX11_note_14 : decode cX11_note 14 = .ok (.iload_n 3, 1) := by decide +kernel
theorem dX11_note_15 : decode cX11_note 15 = .ok (.invokestatic 160, 3) := by decide +kernel
theorem dX11_note_18 : decode cX11_note 18 = .ok (.ifCond .ne 8, 3) := by decide +kernel
theorem dX11_note_21 : decode cX11_note 21 = .ok (.aload_n 0, 1) := by decide +kernel
theorem dX11_note_22 : decode cX11_note 22 = .ok (.invokevirtual 74, 3) := by decide +kernel
theorem dX11_note_25 : decode cX11_note 25 = .ok (.ireturn, 1) := by decide +kernel
theorem dX11_note_26 : decode cX11_note 26 = .ok (.aload_n 0, 1) := by decide +kernel
theorem dX11_note_27 : decode cX11_note 27 = .ok (.getfield 44, 3) := by decide +kernel
theorem dX11_note_30 : decode cX11_note 30 = .ok (.getfield 231, 3) := by decide +kernel
theorem dX11_note_33 : decode cX11_note 33 = .ok (.bipush 8, 2) := by decide +kernel
theorem dX11_note_35 : decode cX11_note 35 = .ok (.if_icmp .lt 8, 3) := by decide +kernel
theorem dX11_note_38 : decode cX11_note 38 = .ok (.aload_n 0, 1) := by decide +kernel
theorem dX11_note_39 : decode cX11_note 39 = .ok (.invokevirtual 109, 3) := by decide +kernel
theorem dX11_note_42 : decode cX11_note 42 = .ok (.ireturn, 1) := by decide +kernel
theorem dX11_note_43 : decode cX11_note 43 = .ok (.aload_n 0, 1) := by decide +kernel
theorem dX11_note_44 : decode cX11_note 44 = .ok (.getfield 44, 3) := by decide +kernel
theorem dX11_note_47 : decode cX11_note 47 = .ok (.iload_n 1, 1) := by decide +kernel
theorem dX11_note_48 : decode cX11_note 48 = .ok (.iload_n 2, 1) := by decide +kernel
theorem dX11_note_49 : decode cX11_note 49 = .ok (.iload_n 3, 1) := by decide +kernel
theorem dX11_note_50 : decode cX11_note 50 = .ok (.invokevirtual 234, 3) := by decide +kernel
theorem dX11_note_53 : decode cX11_note 53 = .ok (.aload_n 0, 1) := by decide +kernel
theorem dX11_note_54 : decode cX11_note 54 = .ok (.getfield 44, 3) := by decide +kernel
theorem dX11_note_57 : decode cX11_note 57 = .ok (.getfield 231, 3) := by decide +kernel
theorem dX11_note_60 : decode cX11_note 60 = .ok (.ireturn, 1) := by decide +kernel
theorem dX11_laws_0 : decode cX11_laws 0 = .ok (.iload_n 1, 1) := by decide +kernel
theorem dX11_laws_1 : decode cX11_laws 1 = .ok (.invokestatic 160, 3) := by decide +kernel
theorem dX11_laws_4 : decode cX11_laws 4 = .ok (.ifCond .ne 8, 3) := by decide +kernel
theorem dX11_laws_7 : decode cX11_laws 7 = .ok (.aload_n 0, 1) := by decide +kernel
theorem dX11_laws_8 : decode cX11_laws 8 = .ok (.invokevirtual 171, 3) := by decide +kernel
theorem dX11_laws_11 : decode cX11_laws 11 = .ok (.ireturn, 1) := by decide +kernel
theorem dX11_laws_12 : decode cX11_laws 12 = .ok (.iconst 0, 1) := by decide +kernel
theorem dX11_laws_13 : decode cX11_laws 13 = .ok (.istore_n 2, 1) := by decide +kernel
theorem dX11_laws_14 : decode cX11_laws 14 = .ok (.iconst (-1), 1) := by decide +kernel
theorem dX11_laws_15 : decode cX11_laws 15 = .ok (.istore_n 3, 1) := by decide +kernel
theorem dX11_laws_16 : decode cX11_laws 16 = .ok (.iconst 0, 1) := by decide +kernel
theorem dX11_laws_17 : decode cX11_laws 17 = .ok (.istore 4, 2) := by decide +kernel
theorem dX11_laws_19 : decode cX11_laws 19 = .ok (.iload 4, 2) := by decide +kernel
theorem dX11_laws_21 : decode cX11_laws 21 = .ok (.bipush 60, 2) := by decide +kernel
theorem dX11_laws_23 : decode cX11_laws 23 = .ok (.if_icmp .ge 32, 3) := by decide +kernel
theorem dX11_laws_26 : decode cX11_laws 26 = .ok (.aload_n 0, 1) := by decide +kernel
theorem dX11_laws_27 : decode cX11_laws 27 = .ok (.iload 4, 2) := by decide +kernel
theorem dX11_laws_29 : decode cX11_laws 29 = .ok (.invokevirtual 238, 3) := by decide +kernel
theorem dX11_laws_32 : decode cX11_laws 32 = .ok (.ifCond .eq 17, 3) := by decide +kernel
theorem dX11_laws_35 : decode cX11_laws 35 = .ok (.iload_n 2, 1) := by decide +kernel
theorem dX11_laws_36 : decode cX11_laws 36 = .ok (.ifCond .ne 8, 3) := by decide +kernel
theorem dX11_laws_39 : decode cX11_laws 39 = .ok (.iload 4, 2) := by decide +kernel
theorem dX11_laws_41 : decode cX11_laws 41 = .ok (.goto 4, 3) := by decide +kernel
theorem dX11_laws_44 : decode cX11_laws 44 = .ok (.iload_n 3, 1) := by decide +kernel
theorem dX11_laws_45 : decode cX11_laws 45 = .ok (.istore_n 3, 1) := by decide +kernel
theorem dX11_laws_46 : decode cX11_laws 46 = .ok (.iinc 2 1, 3) := by decide +kernel
theorem dX11_laws_49 : decode cX11_laws 49 = .ok (.iinc 4 1, 3) := by decide +kernel
theorem dX11_laws_52 : decode cX11_laws 52 = .ok (.goto (-33), 3) := by decide +kernel
theorem dX11_laws_55 : decode cX11_laws 55 = .ok (.iload_n 1, 1) := by decide +kernel
theorem dX11_laws_56 : decode cX11_laws 56 = .ok (.ifCond .ne 7, 3) := by decide +kernel
theorem dX11_laws_59 : decode cX11_laws 59 = .ok (.iload_n 2, 1) := by decide +kernel
theorem dX11_laws_60 : decode cX11_laws 60 = .ok (.goto 4, 3) := by decide +kernel
theorem dX11_laws_63 : decode cX11_laws 63 = .ok (.iload_n 3, 1) := by decide +kernel
theorem dX11_laws_64 : decode cX11_laws 64 = .ok (.ireturn, 1) := by decide +kernel
theorem dX11_forget_0 : decode cX11_forget 0 = .ok (.iload_n 1, 1) := by decide +kernel
theorem dX11_forget_1 : decode cX11_forget 1 = .ok (.invokestatic 160, 3) := by decide +kernel
theorem dX11_forget_4 : decode cX11_forget 4 = .ok (.ifCond .ne 8, 3) := by decide +kernel
theorem dX11_forget_7 : decode cX11_forget 7 = .ok (.aload_n 0, 1) := by decide +kernel
theorem dX11_forget_8 : decode cX11_forget 8 = .ok (.invokevirtual 74, 3) := by decide +kernel
theorem dX11_forget_11 : decode cX11_forget 11 = .ok (.ireturn, 1) := by decide +kernel
theorem dX11_forget_12 : decode cX11_forget 12 = .ok (.iload_n 1, 1) := by decide +kernel
theorem dX11_forget_13 : decode cX11_forget 13 = .ok (.ifCond .ne 13, 3) := by decide +kernel
theorem dX11_forget_16 : decode cX11_forget 16 = .ok (.aload_n 0, 1) := by decide +kernel
theorem dX11_forget_17 : decode cX11_forget 17 = .ok (.getfield 44, 3) := by decide +kernel
theorem dX11_forget_20 : decode cX11_forget 20 = .ok (.getfield 218, 3) := by decide +kernel
theorem dX11_forget_23 : decode cX11_forget 23 = .ok (.goto 10, 3) := by decide +kernel
theorem dX11_forget_26 : decode cX11_forget 26 = .ok (.aload_n 0, 1) := by decide +kernel
theorem dX11_forget_27 : decode cX11_forget 27 = .ok (.getfield 44, 3) := by decide +kernel
theorem dX11_forget_30 : decode cX11_forget 30 = .ok (.getfield 231, 3) := by decide +kernel
theorem dX11_forget_33 : decode cX11_forget 33 = .ok (.istore_n 2, 1) := by decide +kernel
theorem dX11_forget_34 : decode cX11_forget 34 = .ok (.iload_n 1, 1) := by decide +kernel
theorem dX11_forget_35 : decode cX11_forget 35 = .ok (.ifCond .ne 14, 3) := by decide +kernel
theorem dX11_forget_38 : decode cX11_forget 38 = .ok (.aload_n 0, 1) := by decide +kernel
theorem dX11_forget_39 : decode cX11_forget 39 = .ok (.getfield 44, 3) := by decide +kernel
theorem dX11_forget_42 : decode cX11_forget 42 = .ok (.iconst 0, 1) := by decide +kernel
theorem dX11_forget_43 : decode cX11_forget 43 = .ok (.putfield 218, 3) := by decide +kernel
theorem dX11_forget_46 : decode cX11_forget 46 = .ok (.goto 11, 3) := by decide +kernel
theorem dX11_forget_49 : decode cX11_forget 49 = .ok (.aload_n 0, 1) := by decide +kernel
theorem dX11_forget_50 : decode cX11_forget 50 = .ok (.getfield 44, 3) := by decide +kernel
theorem dX11_forget_53 : decode cX11_forget 53 = .ok (.iconst 0, 1) := by decide +kernel
theorem dX11_forget_54 : decode cX11_forget 54 = .ok (.putfield 231, 3) := by decide +kernel
theorem dX11_forget_57 : decode cX11_forget 57 = .ok (.iload_n 2, 1) := by decide +kernel
theorem dX11_forget_58 : decode cX11_forget 58 = .ok (.ireturn, 1) := by decide +kernel
theorem dX11_split_0 : decode cX11_split 0 = .ok (.iload_n 1, 1) := by decide +kernel
theorem dX11_split_1 : decode cX11_split 1 = .ok (.invokestatic 92, 3) := by decide +kernel
theorem dX11_split_4 : decode cX11_split 4 = .ok (.ifCond .ne 8, 3) := by decide +kernel
theorem dX11_split_7 : decode cX11_split 7 = .ok (.aload_n 0, 1) := by decide +kernel
theorem dX11_split_8 : decode cX11_split 8 = .ok (.invokevirtual 74, 3) := by decide +kernel
theorem dX11_split_11 : decode cX11_split 11 = .ok (.ireturn, 1) := by decide +kernel
theorem dX11_split_12 : decode cX11_split 12 = .ok (.aload_n 0, 1) := by decide +kernel
theorem dX11_split_13 : decode cX11_split 13 = .ok (.getfield 44, 3) := by decide +kernel
theorem dX11_split_16 : decode cX11_split 16 = .ok (.getfield 96, 3) := by decide +kernel
theorem dX11_split_19 : decode cX11_split 19 = .ok (.iload_n 1, 1) := by decide +kernel
theorem dX11_split_20 : decode cX11_split 20 = .ok (.iaload, 1) := by decide +kernel
theorem dX11_split_21 : decode cX11_split 21 = .ok (.istore_n 2, 1) := by decide +kernel
theorem dX11_split_22 : decode cX11_split 22 = .ok (.aload_n 0, 1) := by decide +kernel
theorem dX11_split_23 : decode cX11_split 23 = .ok (.iload_n 1, 1) := by decide +kernel
theorem dX11_split_24 : decode cX11_split 24 = .ok (.invokevirtual 241, 3) := by decide +kernel
theorem dX11_split_27 : decode cX11_split 27 = .ok (.istore_n 3, 1) := by decide +kernel
theorem dX11_split_28 : decode cX11_split 28 = .ok (.iload_n 2, 1) := by decide +kernel
theorem dX11_split_29 : decode cX11_split 29 = .ok (.iconst 2, 1) := by decide +kernel
theorem dX11_split_30 : decode cX11_split 30 = .ok (.if_icmp .lt 8, 3) := by decide +kernel
theorem dX11_split_33 : decode cX11_split 33 = .ok (.iload_n 3, 1) := by decide +kernel
theorem dX11_split_34 : decode cX11_split 34 = .ok (.iconst (-1), 1) := by decide +kernel
theorem dX11_split_35 : decode cX11_split 35 = .ok (.if_icmp .ne 5, 3) := by decide +kernel
theorem dX11_split_38 : decode cX11_split 38 = .ok (.iconst (-1), 1) := by decide +kernel
theorem dX11_split_39 : decode cX11_split 39 = .ok (.ireturn, 1) := by decide +kernel
theorem dX11_split_40 : decode cX11_split 40 = .ok (.aload_n 0, 1) := by decide +kernel
theorem dX11_split_41 : decode cX11_split 41 = .ok (.getfield 44, 3) := by decide +kernel
theorem dX11_split_44 : decode cX11_split 44 = .ok (.getfield 96, 3) := by decide +kernel
theorem dX11_split_47 : decode cX11_split 47 = .ok (.iconst 0, 1) := by decide +kernel
theorem dX11_split_48 : decode cX11_split 48 = .ok (.aload_n 0, 1) := by decide +kernel
theorem dX11_split_49 : decode cX11_split 49 = .ok (.getfield 56, 3) := by decide +kernel
theorem dX11_split_52 : decode cX11_split 52 = .ok (.iconst 0, 1) := by decide +kernel
theorem dX11_split_53 : decode cX11_split 53 = .ok (.bipush 8, 2) := by decide +kernel
theorem dX11_split_55 : decode cX11_split 55 = .ok (.invokestatic 123, 3) := by decide +kernel
theorem dX11_split_58 : decode cX11_split 58 = .ok (.aload_n 0, 1) := by decide +kernel
theorem dX11_split_59 : decode cX11_split 59 = .ok (.getfield 56, 3) := by decide +kernel
theorem dX11_split_62 : decode cX11_split 62 = .ok (.iload_n 1, 1) := by decide +kernel
theorem dX11_split_63 : decode cX11_split 63 = .ok (.iload_n 2, 1) := by decide +kernel
theorem dX11_split_64 : decode cX11_split 64 = .ok (.iconst 2, 1) := by decide +kernel
theorem dX11_split_65 : decode cX11_split 65 = .ok (.idiv, 1) := by decide +kernel
theorem dX11_split_66 : decode cX11_split 66 = .ok (.iastore, 1) := by decide +kernel
theorem dX11_split_67 : decode cX11_split 67 = .ok (.aload_n 0, 1) := by decide +kernel
theorem dX11_split_68 : decode cX11_split 68 = .ok (.getfield 56, 3) := by decide +kernel
theorem dX11_split_71 : decode cX11_split 71 = .ok (.iload_n 3, 1) := by decide +kernel
theorem dX11_split_72 : decode cX11_split 72 = .ok (.iload_n 2, 1) := by decide +kernel
theorem dX11_split_73 : decode cX11_split 73 = .ok (.iload_n 2, 1) := by decide +kernel
theorem dX11_split_74 : decode cX11_split 74 = .ok (.iconst 2, 1) := by decide +kernel
theorem dX11_split_75 : decode cX11_split 75 = .ok (.idiv, 1) := by decide +kernel
theorem dX11_split_76 : decode cX11_split 76 = .ok (.isub, 1) := by decide +kernel
theorem dX11_split_77 : decode cX11_split 77 = .ok (.iastore, 1) := by decide +kernel
theorem dX11_split_78 : decode cX11_split 78 = .ok (.aload_n 0, 1) := by decide +kernel
theorem dX11_split_79 : decode cX11_split 79 = .ok (.getfield 21, 3) := by decide +kernel
theorem dX11_split_82 : decode cX11_split 82 = .ok (.aload_n 0, 1) := by decide +kernel
theorem dX11_split_83 : decode cX11_split 83 = .ok (.getfield 44, 3) := by decide +kernel
theorem dX11_split_86 : decode cX11_split 86 = .ok (.getfield 85, 3) := by decide +kernel
theorem dX11_split_89 : decode cX11_split 89 = .ok (.aload_n 0, 1) := by decide +kernel
theorem dX11_split_90 : decode cX11_split 90 = .ok (.getfield 56, 3) := by decide +kernel
theorem dX11_split_93 : decode cX11_split 93 = .ok (.invokevirtual 146, 3) := by decide +kernel
theorem dX11_split_96 : decode cX11_split 96 = .ok (.invokestatic 163, 3) := by decide +kernel
theorem dX11_split_99 : decode cX11_split 99 = .ok (.ireturn, 1) := by decide +kernel
theorem dX11_odds_0 : decode cX11_odds 0 = .ok (.iload_n 1, 1) := by decide +kernel
theorem dX11_odds_1 : decode cX11_odds 1 = .ok (.ifCond .lt 9, 3) := by decide +kernel
theorem dX11_odds_4 : decode cX11_odds 4 = .ok (.iload_n 1, 1) := by decide +kernel
theorem dX11_odds_5 : decode cX11_odds 5 = .ok (.bipush 10, 2) := by decide +kernel
theorem dX11_odds_7 : decode cX11_odds 7 = .ok (.if_icmp .le 8, 3) := by decide +kernel
theorem dX11_odds_10 : decode cX11_odds 10 = .ok (.aload_n 0, 1) := by decide +kernel
theorem dX11_odds_11 : decode cX11_odds 11 = .ok (.invokevirtual 74, 3) := by decide +kernel
theorem dX11_odds_14 : decode cX11_odds 14 = .ok (.ireturn, 1) := by decide +kernel
theorem dX11_odds_15 : decode cX11_odds 15 = .ok (.aload_n 0, 1) := by decide +kernel
theorem dX11_odds_16 : decode cX11_odds 16 = .ok (.getfield 21, 3) := by decide +kernel
theorem dX11_odds_19 : decode cX11_odds 19 = .ok (.aload_n 0, 1) := by decide +kernel
theorem dX11_odds_20 : decode cX11_odds 20 = .ok (.getfield 44, 3) := by decide +kernel
theorem dX11_odds_23 : decode cX11_odds 23 = .ok (.getfield 85, 3) := by decide +kernel
theorem dX11_odds_26 : decode cX11_odds 26 = .ok (.aload_n 0, 1) := by decide +kernel
theorem dX11_odds_27 : decode cX11_odds 27 = .ok (.getfield 44, 3) := by decide +kernel
theorem dX11_odds_30 : decode cX11_odds 30 = .ok (.getfield 96, 3) := by decide +kernel
theorem dX11_odds_33 : decode cX11_odds 33 = .ok (.iload_n 1, 1) := by decide +kernel
theorem dX11_odds_34 : decode cX11_odds 34 = .ok (.invokevirtual 244, 3) := by decide +kernel
theorem dX11_odds_37 : decode cX11_odds 37 = .ok (.lstore_n 2, 1) := by decide +kernel
theorem dX11_odds_38 : decode cX11_odds 38 = .ok (.lconst 1, 1) := by decide +kernel
theorem dX11_odds_39 : decode cX11_odds 39 = .ok (.lstore 4, 2) := by decide +kernel
theorem dX11_odds_41 : decode cX11_odds 41 = .ok (.aload_n 0, 1) := by decide +kernel
theorem dX11_odds_42 : decode cX11_odds 42 = .ok (.getfield 44, 3) := by decide +kernel
theorem dX11_odds_45 : decode cX11_odds 45 = .ok (.invokevirtual 78, 3) := by decide +kernel
theorem dX11_odds_48 : decode cX11_odds 48 = .ok (.istore 6, 2) := by decide +kernel
theorem dX11_odds_50 : decode cX11_odds 50 = .ok (.iload 6, 2) := by decide +kernel
theorem dX11_odds_52 : decode cX11_odds 52 = .ok (.ifCond .le 17, 3) := by decide +kernel
theorem dX11_odds_55 : decode cX11_odds 55 = .ok (.lload 4, 2) := by decide +kernel
theorem dX11_odds_57 : decode cX11_odds 57 = .ok (.ldc2_w 248, 3) := by decide +kernel
theorem dX11_odds_60 : decode cX11_odds 60 = .ok (.lmul, 1) := by decide +kernel
theorem dX11_odds_61 : decode cX11_odds 61 = .ok (.lstore 4, 2) := by decide +kernel
theorem dX11_odds_63 : decode cX11_odds 63 = .ok (.iinc 6 (-1), 3) := by decide +kernel
theorem dX11_odds_66 : decode cX11_odds 66 = .ok (.goto (-16), 3) := by decide +kernel
theorem dX11_odds_69 : decode cX11_odds 69 = .ok (.lload 4, 2) := by decide +kernel
theorem dX11_odds_71 : decode cX11_odds 71 = .ok (.lload_n 2, 1) := by decide +kernel
theorem dX11_odds_72 : decode cX11_odds 72 = .ok (.invokestatic 250, 3) := by decide +kernel
theorem dX11_odds_75 : decode cX11_odds 75 = .ok (.lstore 6, 2) := by decide +kernel
theorem dX11_odds_77 : decode cX11_odds 77 = .ok (.lload 6, 2) := by decide +kernel
theorem dX11_odds_79 : decode cX11_odds 79 = .ok (.lconst 0, 1) := by decide +kernel
theorem dX11_odds_80 : decode cX11_odds 80 = .ok (.lcmp, 1) := by decide +kernel
theorem dX11_odds_81 : decode cX11_odds 81 = .ok (.ifCond .le 20, 3) := by decide +kernel
theorem dX11_odds_84 : decode cX11_odds 84 = .ok (.aload_n 0, 1) := by decide +kernel
theorem dX11_odds_85 : decode cX11_odds 85 = .ok (.lload_n 2, 1) := by decide +kernel
theorem dX11_odds_86 : decode cX11_odds 86 = .ok (.lload 6, 2) := by decide +kernel
theorem dX11_odds_88 : decode cX11_odds 88 = .ok (.ldiv, 1) := by decide +kernel
theorem dX11_odds_89 : decode cX11_odds 89 = .ok (.putfield 254, 3) := by decide +kernel
theorem dX11_odds_92 : decode cX11_odds 92 = .ok (.aload_n 0, 1) := by decide +kernel
theorem dX11_odds_93 : decode cX11_odds 93 = .ok (.lload 4, 2) := by decide +kernel
theorem dX11_odds_95 : decode cX11_odds 95 = .ok (.lload 6, 2) := by decide +kernel
theorem dX11_odds_97 : decode cX11_odds 97 = .ok (.ldiv, 1) := by decide +kernel
theorem dX11_odds_98 : decode cX11_odds 98 = .ok (.putfield 66, 3) := by decide +kernel
theorem dX11_odds_101 : decode cX11_odds 101 = .ok (.iconst 1, 1) := by decide +kernel
theorem dX11_odds_102 : decode cX11_odds 102 = .ok (.ireturn, 1) := by decide +kernel
theorem dX11_streets_0 : decode cX11_streets 0 = .ok (.iload_n 1, 1) := by decide +kernel
theorem dX11_streets_1 : decode cX11_streets 1 = .ok (.ifCond .lt 20, 3) := by decide +kernel
theorem dX11_streets_4 : decode cX11_streets 4 = .ok (.iload_n 1, 1) := by decide +kernel
theorem dX11_streets_5 : decode cX11_streets 5 = .ok (.ldc_w 257, 3) := by decide +kernel
theorem dX11_streets_8 : decode cX11_streets 8 = .ok (.if_icmp .gt 13, 3) := by decide +kernel
theorem dX11_streets_11 : decode cX11_streets 11 = .ok (.iload_n 2, 1) := by decide +kernel
theorem dX11_streets_12 : decode cX11_streets 12 = .ok (.ifCond .lt 9, 3) := by decide +kernel
theorem dX11_streets_15 : decode cX11_streets 15 = .ok (.iload_n 2, 1) := by decide +kernel
theorem dX11_streets_16 : decode cX11_streets 16 = .ok (.bipush 30, 2) := by decide +kernel
theorem dX11_streets_18 : decode cX11_streets 18 = .ok (.if_icmp .le 8, 3) := by decide +kernel
theorem dX11_streets_21 : decode cX11_streets 21 = .ok (.aload_n 0, 1) := by decide +kernel
theorem dX11_streets_22 : decode cX11_streets 22 = .ok (.invokevirtual 74, 3) := by decide +kernel
theorem dX11_streets_25 : decode cX11_streets 25 = .ok (.ireturn, 1) := by decide +kernel
theorem dX11_streets_26 : decode cX11_streets 26 = .ok (.iload_n 1, 1) := by decide +kernel
theorem dX11_streets_27 : decode cX11_streets 27 = .ok (.i2l, 1) := by decide +kernel
theorem dX11_streets_28 : decode cX11_streets 28 = .ok (.lstore_n 3, 1) := by decide +kernel
theorem dX11_streets_29 : decode cX11_streets 29 = .ok (.iconst 0, 1) := by decide +kernel
theorem dX11_streets_30 : decode cX11_streets 30 = .ok (.istore 5, 2) := by decide +kernel
theorem dX11_streets_32 : decode cX11_streets 32 = .ok (.iconst 0, 1) := by decide +kernel
theorem dX11_streets_33 : decode cX11_streets 33 = .ok (.istore 6, 2) := by decide +kernel
theorem dX11_streets_35 : decode cX11_streets 35 = .ok (.iload 6, 2) := by decide +kernel
theorem dX11_streets_37 : decode cX11_streets 37 = .ok (.iload_n 2, 1) := by decide +kernel
theorem dX11_streets_38 : decode cX11_streets 38 = .ok (.if_icmp .ge 39, 3) := by decide +kernel
theorem dX11_streets_41 : decode cX11_streets 41 = .ok (.aload_n 0, 1) := by decide +kernel
theorem dX11_streets_42 : decode cX11_streets 42 = .ok (.lload_n 3, 1) := by decide +kernel
theorem dX11_streets_43 : decode cX11_streets 43 = .ok (.invokevirtual 258, 3) := by decide +kernel
theorem dX11_streets_46 : decode cX11_streets 46 = .ok (.lstore_n 3, 1) := by decide +kernel
theorem dX11_streets_47 : decode cX11_streets 47 = .ok (.aload_n 0, 1) := by decide +kernel
theorem dX11_streets_48 : decode cX11_streets 48 = .ok (.getfield 21, 3) := by decide +kernel
theorem dX11_streets_51 : decode cX11_streets 51 = .ok (.aload_n 0, 1) := by decide +kernel
theorem dX11_streets_52 : decode cX11_streets 52 = .ok (.getfield 44, 3) := by decide +kernel
theorem dX11_streets_55 : decode cX11_streets 55 = .ok (.getfield 85, 3) := by decide +kernel
theorem dX11_streets_58 : decode cX11_streets 58 = .ok (.aload_n 0, 1) := by decide +kernel
theorem dX11_streets_59 : decode cX11_streets 59 = .ok (.getfield 56, 3) := by decide +kernel
theorem dX11_streets_62 : decode cX11_streets 62 = .ok (.invokevirtual 146, 3) := by decide +kernel
theorem dX11_streets_65 : decode cX11_streets 65 = .ok (.ifCond .ne 6, 3) := by decide +kernel
theorem dX11_streets_68 : decode cX11_streets 68 = .ok (.iinc 5 1, 3) := by decide +kernel
theorem dX11_streets_71 : decode cX11_streets 71 = .ok (.iinc 6 1, 3) := by decide +kernel
theorem dX11_streets_74 : decode cX11_streets 74 = .ok (.goto (-39), 3) := by decide +kernel
theorem dX11_streets_77 : decode cX11_streets 77 = .ok (.iload 5, 2) := by decide +kernel
theorem dX11_streets_79 : decode cX11_streets 79 = .ok (.ireturn, 1) := by decide +kernel
theorem dX11_part_0 : decode cX11_part 0 = .ok (.iload_n 1, 1) := by decide +kernel
theorem dX11_part_1 : decode cX11_part 1 = .ok (.invokestatic 160, 3) := by decide +kernel
theorem dX11_part_4 : decode cX11_part 4 = .ok (.ifCond .ne 9, 3) := by decide +kernel
theorem dX11_part_7 : decode cX11_part 7 = .ok (.aload_n 0, 1) := by decide +kernel
theorem dX11_part_8 : decode cX11_part 8 = .ok (.invokevirtual 74, 3) := by decide +kernel
theorem dX11_part_11 : decode cX11_part 11 = .ok (.i2l, 1) := by decide +kernel
theorem dX11_part_12 : decode cX11_part 12 = .ok (.lreturn, 1) := by decide +kernel
theorem dX11_part_13 : decode cX11_part 13 = .ok (.iload_n 1, 1) := by decide +kernel
theorem dX11_part_14 : decode cX11_part 14 = .ok (.ifCond .ne 10, 3) := by decide +kernel
theorem dX11_part_17 : decode cX11_part 17 = .ok (.aload_n 0, 1) := by decide +kernel
theorem dX11_part_18 : decode cX11_part 18 = .ok (.getfield 254, 3) := by decide +kernel
theorem dX11_part_21 : decode cX11_part 21 = .ok (.goto 7, 3) := by decide +kernel
theorem dX11_part_24 : decode cX11_part 24 = .ok (.aload_n 0, 1) := by decide +kernel
theorem dX11_part_25 : decode cX11_part 25 = .ok (.getfield 66, 3) := by decide +kernel
theorem dX11_part_28 : decode cX11_part 28 = .ok (.lreturn, 1) := by decide +kernel
theorem dX11_image_0 : decode cX11_image 0 = .ok (.aload_n 0, 1) := by decide +kernel
theorem dX11_image_1 : decode cX11_image 1 = .ok (.iload_n 1, 1) := by decide +kernel
theorem dX11_image_2 : decode cX11_image 2 = .ok (.invokevirtual 262, 3) := by decide +kernel
theorem dX11_image_5 : decode cX11_image 5 = .ok (.astore_n 2, 1) := by decide +kernel
theorem dX11_image_6 : decode cX11_image 6 = .ok (.aload_n 2, 1) := by decide +kernel
theorem dX11_image_7 : decode cX11_image 7 = .ok (.ifnonnull 8, 3) := by decide +kernel
theorem dX11_image_10 : decode cX11_image 10 = .ok (.aload_n 0, 1) := by decide +kernel
theorem dX11_image_11 : decode cX11_image 11 = .ok (.invokevirtual 74, 3) := by decide +kernel
theorem dX11_image_14 : decode cX11_image 14 = .ok (.ireturn, 1) := by decide +kernel
theorem dX11_image_15 : decode cX11_image 15 = .ok (.aload_n 2, 1) := by decide +kernel
theorem dX11_image_16 : decode cX11_image 16 = .ok (.aload_n 0, 1) := by decide +kernel
theorem dX11_image_17 : decode cX11_image 17 = .ok (.getfield 44, 3) := by decide +kernel
theorem dX11_image_20 : decode cX11_image 20 = .ok (.invokevirtual 266, 3) := by decide +kernel
theorem dX11_image_23 : decode cX11_image 23 = .ok (.aload_n 0, 1) := by decide +kernel
theorem dX11_image_24 : decode cX11_image 24 = .ok (.getfield 52, 3) := by decide +kernel
theorem dX11_image_27 : decode cX11_image 27 = .ok (.iload_n 1, 1) := by decide +kernel
theorem dX11_image_28 : decode cX11_image 28 = .ok (.iconst 1, 1) := by decide +kernel
theorem dX11_image_29 : decode cX11_image 29 = .ok (.bastore, 1) := by decide +kernel
theorem dX11_image_30 : decode cX11_image 30 = .ok (.iconst 1, 1) := by decide +kernel
theorem dX11_image_31 : decode cX11_image 31 = .ok (.ireturn, 1) := by decide +kernel
theorem dX11_from_0 : decode cX11_from 0 = .ok (.aload_n 0, 1) := by decide +kernel
theorem dX11_from_1 : decode cX11_from 1 = .ok (.iload_n 1, 1) := by decide +kernel
theorem dX11_from_2 : decode cX11_from 2 = .ok (.invokevirtual 262, 3) := by decide +kernel
theorem dX11_from_5 : decode cX11_from 5 = .ok (.astore_n 2, 1) := by decide +kernel
theorem dX11_from_6 : decode cX11_from 6 = .ok (.aload_n 2, 1) := by decide +kernel
theorem dX11_from_7 : decode cX11_from 7 = .ok (.ifnonnull 8, 3) := by decide +kernel
theorem dX11_from_10 : decode cX11_from 10 = .ok (.aload_n 0, 1) := by decide +kernel
theorem dX11_from_11 : decode cX11_from 11 = .ok (.invokevirtual 74, 3) := by decide +kernel
theorem dX11_from_14 : decode cX11_from 14 = .ok (.ireturn, 1) := by decide +kernel
theorem dX11_from_15 : decode cX11_from 15 = .ok (.aload_n 0, 1) := by decide +kernel
theorem dX11_from_16 : decode cX11_from 16 = .ok (.getfield 52, 3) := by decide +kernel
theorem dX11_from_19 : decode cX11_from 19 = .ok (.iload_n 1, 1) := by decide +kernel
theorem dX11_from_20 : decode cX11_from 20 = .ok (.baload, 1) := by decide +kernel
theorem dX11_from_21 : decode cX11_from 21 = .ok (.ifCond .ne 8, 3) := by decide +kernel
theorem dX11_from_24 : decode cX11_from 24 = .ok (.aload_n 0, 1) := by decide +kernel
theorem dX11_from_25 : decode cX11_from 25 = .ok (.invokevirtual 99, 3) := by decide +kernel
theorem dX11_from_28 : decode cX11_from 28 = .ok (.ireturn, 1) := by decide +kernel
theorem dX11_from_29 : decode cX11_from 29 = .ok (.aload_n 0, 1) := by decide +kernel
theorem dX11_from_30 : decode cX11_from 30 = .ok (.getfield 44, 3) := by decide +kernel
theorem dX11_from_33 : decode cX11_from 33 = .ok (.aload_n 2, 1) := by decide +kernel
theorem dX11_from_34 : decode cX11_from 34 = .ok (.invokevirtual 266, 3) := by decide +kernel
theorem dX11_from_37 : decode cX11_from 37 = .ok (.iconst 1, 1) := by decide +kernel
theorem dX11_from_38 : decode cX11_from 38 = .ok (.ireturn, 1) := by decide +kernel
theorem dX11_status_0 : decode cX11_status 0 = .ok (.iload_n 1, 1) := by decide +kernel
theorem dX11_status_1 : decode cX11_status 1 = .ok (.tableswitch 42 0 2 #[27, 32, 37], 27) := by decide +kernel
theorem dX11_status_28 : decode cX11_status 28 = .ok (.aload_n 0, 1) := by decide +kernel
theorem dX11_status_29 : decode cX11_status 29 = .ok (.getfield 270, 3) := by decide +kernel
theorem dX11_status_32 : decode cX11_status 32 = .ok (.ireturn, 1) := by decide +kernel
theorem dX11_status_33 : decode cX11_status 33 = .ok (.aload_n 0, 1) := by decide +kernel
theorem dX11_status_34 : decode cX11_status 34 = .ok (.getfield 273, 3) := by decide +kernel
theorem dX11_status_37 : decode cX11_status 37 = .ok (.ireturn, 1) := by decide +kernel
theorem dX11_status_38 : decode cX11_status 38 = .ok (.aload_n 0, 1) := by decide +kernel
theorem dX11_status_39 : decode cX11_status 39 = .ok (.getfield 276, 3) := by decide +kernel
theorem dX11_status_42 : decode cX11_status 42 = .ok (.ireturn, 1) := by decide +kernel
theorem dX11_status_43 : decode cX11_status 43 = .ok (.aload_n 0, 1) := by decide +kernel
theorem dX11_status_44 : decode cX11_status 44 = .ok (.dup, 1) := by decide +kernel
theorem dX11_status_45 : decode cX11_status 45 = .ok (.getfield 270, 3) := by decide +kernel
theorem dX11_status_48 : decode cX11_status 48 = .ok (.iconst 1, 1) := by decide +kernel
theorem dX11_status_49 : decode cX11_status 49 = .ok (.iadd, 1) := by decide +kernel
theorem dX11_status_50 : decode cX11_status 50 = .ok (.putfield 270, 3) := by decide +kernel
theorem dX11_status_53 : decode cX11_status 53 = .ok (.iconst (-1), 1) := by decide +kernel
theorem dX11_status_54 : decode cX11_status 54 = .ok (.ireturn, 1) := by decide +kernel
theorem dX11_count_0 : decode cX11_count 0 = .ok (.iload_n 1, 1) := by decide +kernel
theorem dX11_count_1 : decode cX11_count 1 = .ok (.ifCond .lt 8, 3) := by decide +kernel
theorem dX11_count_4 : decode cX11_count 4 = .ok (.iload_n 1, 1) := by decide +kernel
theorem dX11_count_5 : decode cX11_count 5 = .ok (.iconst 5, 1) := by decide +kernel
theorem dX11_count_6 : decode cX11_count 6 = .ok (.if_icmp .le 8, 3) := by decide +kernel
theorem dX11_count_9 : decode cX11_count 9 = .ok (.aload_n 0, 1) := by decide +kernel
theorem dX11_count_10 : decode cX11_count 10 = .ok (.invokevirtual 74, 3) := by decide +kernel
theorem dX11_count_13 : decode cX11_count 13 = .ok (.ireturn, 1) := by decide +kernel
theorem dX11_count_14 : decode cX11_count 14 = .ok (.aload_n 0, 1) := by decide +kernel
theorem dX11_count_15 : decode cX11_count 15 = .ok (.iload_n 1, 1) := by decide +kernel
theorem dX11_count_16 : decode cX11_count 16 = .ok (.invokevirtual 279, 3) := by decide +kernel
theorem dX11_count_19 : decode cX11_count 19 = .ok (.ireturn, 1) := by decide +kernel
theorem dX11_digest_0 : decode cX11_digest 0 = .ok (.ldc2_w 282, 3) := by decide +kernel
theorem dX11_digest_3 : decode cX11_digest 3 = .ok (.lstore_n 1, 1) := by decide +kernel
theorem dX11_digest_4 : decode cX11_digest 4 = .ok (.iconst 0, 1) := by decide +kernel
theorem dX11_digest_5 : decode cX11_digest 5 = .ok (.istore_n 3, 1) := by decide +kernel
theorem dX11_digest_6 : decode cX11_digest 6 = .ok (.iload_n 3, 1) := by decide +kernel
theorem dX11_digest_7 : decode cX11_digest 7 = .ok (.iconst 5, 1) := by decide +kernel
theorem dX11_digest_8 : decode cX11_digest 8 = .ok (.if_icmp .gt 22, 3) := by decide +kernel
theorem dX11_digest_11 : decode cX11_digest 11 = .ok (.ldc2_w 284, 3) := by decide +kernel
theorem dX11_digest_14 : decode cX11_digest 14 = .ok (.lload_n 1, 1) := by decide +kernel
theorem dX11_digest_15 : decode cX11_digest 15 = .ok (.lmul, 1) := by decide +kernel
theorem dX11_digest_16 : decode cX11_digest 16 = .ok (.aload_n 0, 1) := by decide +kernel
theorem dX11_digest_17 : decode cX11_digest 17 = .ok (.iload_n 3, 1) := by decide +kernel
theorem dX11_digest_18 : decode cX11_digest 18 = .ok (.invokevirtual 279, 3) := by decide +kernel
theorem dX11_digest_21 : decode cX11_digest 21 = .ok (.i2l, 1) := by decide +kernel
theorem dX11_digest_22 : decode cX11_digest 22 = .ok (.ladd, 1) := by decide +kernel
theorem dX11_digest_23 : decode cX11_digest 23 = .ok (.lstore_n 1, 1) := by decide +kernel
theorem dX11_digest_24 : decode cX11_digest 24 = .ok (.iinc 3 1, 3) := by decide +kernel
theorem dX11_digest_27 : decode cX11_digest 27 = .ok (.goto (-21), 3) := by decide +kernel
theorem dX11_digest_30 : decode cX11_digest 30 = .ok (.lload_n 1, 1) := by decide +kernel
theorem dX11_digest_31 : decode cX11_digest 31 = .ok (.aload_n 0, 1) := by decide +kernel
theorem dX11_digest_32 : decode cX11_digest 32 = .ok (.getfield 44, 3) := by decide +kernel
theorem dX11_digest_35 : decode cX11_digest 35 = .ok (.getfield 96, 3) := by decide +kernel
theorem dX11_digest_38 : decode cX11_digest 38 = .ok (.bipush 8, 2) := by decide +kernel
theorem dX11_digest_40 : decode cX11_digest 40 = .ok (.invokestatic 286, 3) := by decide +kernel
theorem dX11_digest_43 : decode cX11_digest 43 = .ok (.lstore_n 1, 1) := by decide +kernel
theorem dX11_digest_44 : decode cX11_digest 44 = .ok (.lload_n 1, 1) := by decide +kernel
theorem dX11_digest_45 : decode cX11_digest 45 = .ok (.aload_n 0, 1) := by decide +kernel
theorem dX11_digest_46 : decode cX11_digest 46 = .ok (.getfield 44, 3) := by decide +kernel
theorem dX11_digest_49 : decode cX11_digest 49 = .ok (.getfield 290, 3) := by decide +kernel
theorem dX11_digest_52 : decode cX11_digest 52 = .ok (.iconst 3, 1) := by decide +kernel
theorem dX11_digest_53 : decode cX11_digest 53 = .ok (.aload_n 0, 1) := by decide +kernel
theorem dX11_digest_54 : decode cX11_digest 54 = .ok (.getfield 44, 3) := by decide +kernel
theorem dX11_digest_57 : decode cX11_digest 57 = .ok (.getfield 218, 3) := by decide +kernel
theorem dX11_digest_60 : decode cX11_digest 60 = .ok (.imul, 1) := by decide +kernel
theorem dX11_digest_61 : decode cX11_digest 61 = .ok (.invokestatic 286, 3) := by decide +kernel
theorem dX11_digest_64 : decode cX11_digest 64 = .ok (.lstore_n 1, 1) := by decide +kernel
theorem dX11_digest_65 : decode cX11_digest 65 = .ok (.lload_n 1, 1) := by decide +kernel
theorem dX11_digest_66 : decode cX11_digest 66 = .ok (.aload_n 0, 1) := by decide +kernel
theorem dX11_digest_67 : decode cX11_digest 67 = .ok (.getfield 44, 3) := by decide +kernel
theorem dX11_digest_70 : decode cX11_digest 70 = .ok (.getfield 293, 3) := by decide +kernel
theorem dX11_digest_73 : decode cX11_digest 73 = .ok (.iconst 3, 1) := by decide +kernel
theorem dX11_digest_74 : decode cX11_digest 74 = .ok (.aload_n 0, 1) := by decide +kernel
theorem dX11_digest_75 : decode cX11_digest 75 = .ok (.getfield 44, 3) := by decide +kernel
theorem dX11_digest_78 : decode cX11_digest 78 = .ok (.getfield 231, 3) := by decide +kernel
theorem dX11_digest_81 : decode cX11_digest 81 = .ok (.imul, 1) := by decide +kernel
theorem dX11_digest_82 : decode cX11_digest 82 = .ok (.invokestatic 286, 3) := by decide +kernel
theorem dX11_digest_85 : decode cX11_digest 85 = .ok (.lstore_n 1, 1) := by decide +kernel
theorem dX11_digest_86 : decode cX11_digest 86 = .ok (.ldc2_w 284, 3) := by decide +kernel
theorem dX11_digest_89 : decode cX11_digest 89 = .ok (.lload_n 1, 1) := by decide +kernel
theorem dX11_digest_90 : decode cX11_digest 90 = .ok (.lmul, 1) := by decide +kernel
theorem dX11_digest_91 : decode cX11_digest 91 = .ok (.aload_n 0, 1) := by decide +kernel
theorem dX11_digest_92 : decode cX11_digest 92 = .ok (.getfield 254, 3) := by decide +kernel
theorem dX11_digest_95 : decode cX11_digest 95 = .ok (.ladd, 1) := by decide +kernel
theorem dX11_digest_96 : decode cX11_digest 96 = .ok (.lstore_n 1, 1) := by decide +kernel
theorem dX11_digest_97 : decode cX11_digest 97 = .ok (.ldc2_w 284, 3) := by decide +kernel
theorem dX11_digest_100 : decode cX11_digest 100 = .ok (.lload_n 1, 1) := by decide +kernel
theorem dX11_digest_101 : decode cX11_digest 101 = .ok (.lmul, 1) := by decide +kernel
theorem dX11_digest_102 : decode cX11_digest 102 = .ok (.aload_n 0, 1) := by decide +kernel
theorem dX11_digest_103 : decode cX11_digest 103 = .ok (.getfield 66, 3) := by decide +kernel
theorem dX11_digest_106 : decode cX11_digest 106 = .ok (.ladd, 1) := by decide +kernel
theorem dX11_digest_107 : decode cX11_digest 107 = .ok (.lreturn, 1) := by decide +kernel
theorem dX11_refuseBad_0 : decode cX11_refuseBad 0 = .ok (.aload_n 0, 1) := by decide +kernel
theorem dX11_refuseBad_1 : decode cX11_refuseBad 1 = .ok (.dup, 1) := by decide +kernel
theorem dX11_refuseBad_2 : decode cX11_refuseBad 2 = .ok (.getfield 270, 3) := by decide +kernel
theorem dX11_refuseBad_5 : decode cX11_refuseBad 5 = .ok (.iconst 1, 1) := by decide +kernel
theorem dX11_refuseBad_6 : decode cX11_refuseBad 6 = .ok (.iadd, 1) := by decide +kernel
theorem dX11_refuseBad_7 : decode cX11_refuseBad 7 = .ok (.putfield 270, 3) := by decide +kernel
theorem dX11_refuseBad_10 : decode cX11_refuseBad 10 = .ok (.bipush (-2), 2) := by decide +kernel
theorem dX11_refuseBad_12 : decode cX11_refuseBad 12 = .ok (.ireturn, 1) := by decide +kernel
theorem dX11_refuseBadApart_0 : decode cX11_refuseBadApart 0 = .ok (.aload_n 0, 1) := by decide +kernel
theorem dX11_refuseBadApart_1 : decode cX11_refuseBadApart 1 = .ok (.dup, 1) := by decide +kernel
theorem dX11_refuseBadApart_2 : decode cX11_refuseBadApart 2 = .ok (.getfield 270, 3) := by decide +kernel
theorem dX11_refuseBadApart_5 : decode cX11_refuseBadApart 5 = .ok (.iconst 1, 1) := by decide +kernel
theorem dX11_refuseBadApart_6 : decode cX11_refuseBadApart 6 = .ok (.iadd, 1) := by decide +kernel
theorem dX11_refuseBadApart_7 : decode cX11_refuseBadApart 7 = .ok (.putfield 270, 3) := by decide +kernel
theorem dX11_refuseBadApart_10 : decode cX11_refuseBadApart 10 = .ok (.bipush (-10), 2) := by decide +kernel
theorem dX11_refuseBadApart_12 : decode cX11_refuseBadApart 12 = .ok (.ireturn, 1) := by decide +kernel
theorem dX11_refuseNo_0 : decode cX11_refuseNo 0 = .ok (.aload_n 0, 1) := by decide +kernel
theorem dX11_refuseNo_1 : decode cX11_refuseNo 1 = .ok (.dup, 1) := by decide +kernel
theorem dX11_refuseNo_2 : decode cX11_refuseNo 2 = .ok (.getfield 273, 3) := by decide +kernel
theorem dX11_refuseNo_5 : decode cX11_refuseNo 5 = .ok (.iconst 1, 1) := by decide +kernel
theorem dX11_refuseNo_6 : decode cX11_refuseNo 6 = .ok (.iadd, 1) := by decide +kernel
theorem dX11_refuseNo_7 : decode cX11_refuseNo 7 = .ok (.putfield 273, 3) := by decide +kernel
theorem dX11_refuseNo_10 : decode cX11_refuseNo 10 = .ok (.bipush (-3), 2) := by decide +kernel
theorem dX11_refuseNo_12 : decode cX11_refuseNo 12 = .ok (.ireturn, 1) := by decide +kernel
theorem dX11_refuseFull_0 : decode cX11_refuseFull 0 = .ok (.aload_n 0, 1) := by decide +kernel
theorem dX11_refuseFull_1 : decode cX11_refuseFull 1 = .ok (.dup, 1) := by decide +kernel
theorem dX11_refuseFull_2 : decode cX11_refuseFull 2 = .ok (.getfield 276, 3) := by decide +kernel
theorem dX11_refuseFull_5 : decode cX11_refuseFull 5 = .ok (.iconst 1, 1) := by decide +kernel
theorem dX11_refuseFull_6 : decode cX11_refuseFull 6 = .ok (.iadd, 1) := by decide +kernel
theorem dX11_refuseFull_7 : decode cX11_refuseFull 7 = .ok (.putfield 276, 3) := by decide +kernel
theorem dX11_refuseFull_10 : decode cX11_refuseFull 10 = .ok (.bipush (-4), 2) := by decide +kernel
theorem dX11_refuseFull_12 : decode cX11_refuseFull 12 = .ok (.ireturn, 1) := by decide +kernel
theorem dX11_isLaw_0 : decode cX11_isLaw 0 = .ok (.iload_n 0, 1) := by decide +kernel
theorem dX11_isLaw_1 : decode cX11_isLaw 1 = .ok (.ifCond .lt 23, 3) := by decide +kernel
theorem dX11_isLaw_4 : decode cX11_isLaw 4 = .ok (.iload_n 0, 1) := by decide +kernel
theorem dX11_isLaw_5 : decode cX11_isLaw 5 = .ok (.bipush 6, 2) := by decide +kernel
theorem dX11_isLaw_7 : decode cX11_isLaw 7 = .ok (.if_icmp .ge 17, 3) := by decide +kernel
theorem dX11_isLaw_10 : decode cX11_isLaw 10 = .ok (.iload_n 1, 1) := by decide +kernel
theorem dX11_isLaw_11 : decode cX11_isLaw 11 = .ok (.ifCond .lt 13, 3) := by decide +kernel
theorem dX11_isLaw_14 : decode cX11_isLaw 14 = .ok (.iload_n 1, 1) := by decide +kernel
theorem dX11_isLaw_15 : decode cX11_isLaw 15 = .ok (.bipush 9, 2) := by decide +kernel
theorem dX11_isLaw_17 : decode cX11_isLaw 17 = .ok (.if_icmp .gt 7, 3) := by decide +kernel
theorem dX11_isLaw_20 : decode cX11_isLaw 20 = .ok (.iconst 1, 1) := by decide +kernel
theorem dX11_isLaw_21 : decode cX11_isLaw 21 = .ok (.goto 4, 3) := by decide +kernel
theorem dX11_isLaw_24 : decode cX11_isLaw 24 = .ok (.iconst 0, 1) := by decide +kernel
theorem dX11_isLaw_25 : decode cX11_isLaw 25 = .ok (.ireturn, 1) := by decide +kernel
theorem dX11_isHouse_0 : decode cX11_isHouse 0 = .ok (.iload_n 0, 1) := by decide +kernel
theorem dX11_isHouse_1 : decode cX11_isHouse 1 = .ok (.ifCond .lt 13, 3) := by decide +kernel
theorem dX11_isHouse_4 : decode cX11_isHouse 4 = .ok (.iload_n 0, 1) := by decide +kernel
theorem dX11_isHouse_5 : decode cX11_isHouse 5 = .ok (.bipush 8, 2) := by decide +kernel
theorem dX11_isHouse_7 : decode cX11_isHouse 7 = .ok (.if_icmp .ge 7, 3) := by decide +kernel
theorem dX11_isHouse_10 : decode cX11_isHouse 10 = .ok (.iconst 1, 1) := by decide +kernel
theorem dX11_isHouse_11 : decode cX11_isHouse 11 = .ok (.goto 4, 3) := by decide +kernel
theorem dX11_isHouse_14 : decode cX11_isHouse 14 = .ok (.iconst 0, 1) := by decide +kernel
theorem dX11_isHouse_15 : decode cX11_isHouse 15 = .ok (.ireturn, 1) := by decide +kernel
theorem dX11_isNumber_0 : decode cX11_isNumber 0 = .ok (.iload_n 0, 1) := by decide +kernel
theorem dX11_isNumber_1 : decode cX11_isNumber 1 = .ok (.iconst 1, 1) := by decide +kernel
theorem dX11_isNumber_2 : decode cX11_isNumber 2 = .ok (.if_icmp .lt 14, 3) := by decide +kernel
theorem dX11_isNumber_5 : decode cX11_isNumber 5 = .ok (.iload_n 0, 1) := by decide +kernel
theorem dX11_isNumber_6 : decode cX11_isNumber 6 = .ok (.sipush 300, 3) := by decide +kernel
theorem dX11_isNumber_9 : decode cX11_isNumber 9 = .ok (.if_icmp .gt 7, 3) := by decide +kernel
theorem dX11_isNumber_12 : decode cX11_isNumber 12 = .ok (.iconst 1, 1) := by decide +kernel
theorem dX11_isNumber_13 : decode cX11_isNumber 13 = .ok (.goto 4, 3) := by decide +kernel
theorem dX11_isNumber_16 : decode cX11_isNumber 16 = .ok (.iconst 0, 1) := by decide +kernel
theorem dX11_isNumber_17 : decode cX11_isNumber 17 = .ok (.ireturn, 1) := by decide +kernel
theorem dX11_isBit_0 : decode cX11_isBit 0 = .ok (.iload_n 0, 1) := by decide +kernel
theorem dX11_isBit_1 : decode cX11_isBit 1 = .ok (.ifCond .eq 8, 3) := by decide +kernel
theorem dX11_isBit_4 : decode cX11_isBit 4 = .ok (.iload_n 0, 1) := by decide +kernel
theorem dX11_isBit_5 : decode cX11_isBit 5 = .ok (.iconst 1, 1) := by decide +kernel
theorem dX11_isBit_6 : decode cX11_isBit 6 = .ok (.if_icmp .ne 7, 3) := by decide +kernel
theorem dX11_isBit_9 : decode cX11_isBit 9 = .ok (.iconst 1, 1) := by decide +kernel
theorem dX11_isBit_10 : decode cX11_isBit 10 = .ok (.goto 4, 3) := by decide +kernel
theorem dX11_isBit_13 : decode cX11_isBit 13 = .ok (.iconst 0, 1) := by decide +kernel
theorem dX11_isBit_14 : decode cX11_isBit 14 = .ok (.ireturn, 1) := by decide +kernel
theorem dX11_bit_0 : decode cX11_bit 0 = .ok (.iload_n 0, 1) := by decide +kernel
theorem dX11_bit_1 : decode cX11_bit 1 = .ok (.ifCond .eq 7, 3) := by decide +kernel
theorem dX11_bit_4 : decode cX11_bit 4 = .ok (.iconst 1, 1) := by decide +kernel
theorem dX11_bit_5 : decode cX11_bit 5 = .ok (.goto 4, 3) := by decide +kernel
theorem dX11_bit_8 : decode cX11_bit 8 = .ok (.iconst 0, 1) := by decide +kernel
theorem dX11_bit_9 : decode cX11_bit 9 = .ok (.ireturn, 1) := by decide +kernel
theorem dX11_followChain_0 : decode cX11_followChain 0 = .ok (.aload_n 0, 1) := by decide +kernel
theorem dX11_followChain_1 : decode cX11_followChain 1 = .ok (.getfield 63, 3) := by decide +kernel
theorem dX11_followChain_4 : decode cX11_followChain 4 = .ok (.iconst 0, 1) := by decide +kernel
theorem dX11_followChain_5 : decode cX11_followChain 5 = .ok (.iload_n 1, 1) := by decide +kernel
theorem dX11_followChain_6 : decode cX11_followChain 6 = .ok (.iastore, 1) := by decide +kernel
theorem dX11_followChain_7 : decode cX11_followChain 7 = .ok (.aload_n 0, 1) := by decide +kernel
theorem dX11_followChain_8 : decode cX11_followChain 8 = .ok (.iconst 1, 1) := by decide +kernel
theorem dX11_followChain_9 : decode cX11_followChain 9 = .ok (.putfield 197, 3) := by decide +kernel
theorem dX11_followChain_12 : decode cX11_followChain 12 = .ok (.iload_n 1, 1) := by decide +kernel
theorem dX11_followChain_13 : decode cX11_followChain 13 = .ok (.istore_n 2, 1) := by decide +kernel
theorem dX11_followChain_14 : decode cX11_followChain 14 = .ok (.iconst 0, 1) := by decide +kernel
theorem dX11_followChain_15 : decode cX11_followChain 15 = .ok (.istore_n 3, 1) := by decide +kernel
theorem dX11_followChain_16 : decode cX11_followChain 16 = .ok (.iconst 1, 1) := by decide +kernel
theorem dX11_followChain_17 : decode cX11_followChain 17 = .ok (.istore 4, 2) := by decide +kernel
theorem dX11_followChain_19 : decode cX11_followChain 19 = .ok (.iload 4, 2) := by decide +kernel
theorem dX11_followChain_21 : decode cX11_followChain 21 = .ok (.bipush 20, 2) := by decide +kernel
theorem dX11_followChain_23 : decode cX11_followChain 23 = .ok (.if_icmp .gt 63, 3) := by decide +kernel
theorem dX11_followChain_26 : decode cX11_followChain 26 = .ok (.iload_n 3, 1) := by decide +kernel
theorem dX11_followChain_27 : decode cX11_followChain 27 = .ok (.ifCond .ne 59, 3) := by decide +kernel
theorem dX11_followChain_30 : decode cX11_followChain 30 = .ok (.aload_n 0, 1) := by decide +kernel
theorem dX11_followChain_31 : decode cX11_followChain 31 = .ok (.getfield 10, 3) := by decide +kernel
theorem dX11_followChain_34 : decode cX11_followChain 34 = .ok (.iload_n 2, 1) := by decide +kernel
theorem dX11_followChain_35 : decode cX11_followChain 35 = .ok (.invokevirtual 132, 3) := by decide +kernel
theorem dX11_followChain_38 : decode cX11_followChain 38 = .ok (.istore_n 2, 1) := by decide +kernel
theorem dX11_followChain_39 : decode cX11_followChain 39 = .ok (.iload_n 2, 1) := by decide +kernel
theorem dX11_followChain_40 : decode cX11_followChain 40 = .ok (.ifCond .eq 18, 3) := by decide +kernel
theorem dX11_followChain_43 : decode cX11_followChain 43 = .ok (.iload_n 2, 1) := by decide +kernel
theorem dX11_followChain_44 : decode cX11_followChain 44 = .ok (.sipush 9999, 3) := by decide +kernel
theorem dX11_followChain_47 : decode cX11_followChain 47 = .ok (.if_icmp .gt 11, 3) := by decide +kernel
theorem dX11_followChain_50 : decode cX11_followChain 50 = .ok (.aload_n 0, 1) := by decide +kernel
theorem dX11_followChain_51 : decode cX11_followChain 51 = .ok (.iload_n 2, 1) := by decide +kernel
theorem dX11_followChain_52 : decode cX11_followChain 52 = .ok (.invokevirtual 296, 3) := by decide +kernel
theorem dX11_followChain_55 : decode cX11_followChain 55 = .ok (.ifCond .eq 7, 3) := by decide +kernel
theorem dX11_followChain_58 : decode cX11_followChain 58 = .ok (.iconst 1, 1) := by decide +kernel
theorem dX11_followChain_59 : decode cX11_followChain 59 = .ok (.goto 4, 3) := by decide +kernel
theorem dX11_followChain_62 : decode cX11_followChain 62 = .ok (.iconst 0, 1) := by decide +kernel
theorem dX11_followChain_63 : decode cX11_followChain 63 = .ok (.istore_n 3, 1) := by decide +kernel
theorem dX11_followChain_64 : decode cX11_followChain 64 = .ok (.aload_n 0, 1) := by decide +kernel
theorem dX11_followChain_65 : decode cX11_followChain 65 = .ok (.getfield 63, 3) := by decide +kernel
theorem dX11_followChain_68 : decode cX11_followChain 68 = .ok (.iload 4, 2) := by decide +kernel
theorem dX11_followChain_70 : decode cX11_followChain 70 = .ok (.iload_n 2, 1) := by decide +kernel
theorem dX11_followChain_71 : decode cX11_followChain 71 = .ok (.iastore, 1) := by decide +kernel
theorem dX11_followChain_72 : decode cX11_followChain 72 = .ok (.aload_n 0, 1) := by decide +kernel
theorem dX11_followChain_73 : decode cX11_followChain 73 = .ok (.iload 4, 2) := by decide +kernel
theorem dX11_followChain_75 : decode cX11_followChain 75 = .ok (.iconst 1, 1) := by decide +kernel
theorem dX11_followChain_76 : decode cX11_followChain 76 = .ok (.iadd, 1) := by decide +kernel
theorem dX11_followChain_77 : decode cX11_followChain 77 = .ok (.putfield 197, 3) := by decide +kernel
theorem dX11_followChain_80 : decode cX11_followChain 80 = .ok (.iinc 4 1, 3) := by decide +kernel
theorem dX11_followChain_83 : decode cX11_followChain 83 = .ok (.goto (-64), 3) := by decide +kernel
theorem dX11_followChain_86 : decode cX11_followChain 86 = .ok (.iload_n 2, 1) := by decide +kernel
theorem dX11_followChain_87 : decode cX11_followChain 87 = .ok (.ireturn, 1) := by decide +kernel
theorem dX11_isLink_0 : decode cX11_isLink 0 = .ok (.iconst 0, 1) := by decide +kernel
theorem dX11_isLink_1 : decode cX11_isLink 1 = .ok (.istore_n 2, 1) := by decide +kernel
theorem dX11_isLink_2 : decode cX11_isLink 2 = .ok (.iload_n 2, 1) := by decide +kernel
theorem dX11_isLink_3 : decode cX11_isLink 3 = .ok (.aload_n 0, 1) := by decide +kernel
theorem dX11_isLink_4 : decode cX11_isLink 4 = .ok (.getfield 197, 3) := by decide +kernel
theorem dX11_isLink_7 : decode cX11_isLink 7 = .ok (.if_icmp .ge 30, 3) := by decide +kernel
theorem dX11_isLink_10 : decode cX11_isLink 10 = .ok (.iload_n 2, 1) := by decide +kernel
theorem dX11_isLink_11 : decode cX11_isLink 11 = .ok (.aload_n 0, 1) := by decide +kernel
theorem dX11_isLink_12 : decode cX11_isLink 12 = .ok (.getfield 63, 3) := by decide +kernel
theorem dX11_isLink_15 : decode cX11_isLink 15 = .ok (.arraylength, 1) := by decide +kernel
theorem dX11_isLink_16 : decode cX11_isLink 16 = .ok (.if_icmp .ge 21, 3) := by decide +kernel
theorem dX11_isLink_19 : decode cX11_isLink 19 = .ok (.aload_n 0, 1) := by decide +kernel
theorem dX11_isLink_20 : decode cX11_isLink 20 = .ok (.getfield 63, 3) := by decide +kernel
theorem dX11_isLink_23 : decode cX11_isLink 23 = .ok (.iload_n 2, 1) := by decide +kernel
theorem dX11_isLink_24 : decode cX11_isLink 24 = .ok (.iaload, 1) := by decide +kernel
theorem dX11_isLink_25 : decode cX11_isLink 25 = .ok (.iload_n 1, 1) := by decide +kernel
theorem dX11_isLink_26 : decode cX11_isLink 26 = .ok (.if_icmp .ne 5, 3) := by decide +kernel
theorem dX11_isLink_29 : decode cX11_isLink 29 = .ok (.iconst 1, 1) := by decide +kernel
theorem dX11_isLink_30 : decode cX11_isLink 30 = .ok (.ireturn, 1) := by decide +kernel
theorem dX11_isLink_31 : decode cX11_isLink 31 = .ok (.iinc 2 1, 3) := by decide +kernel
theorem dX11_isLink_34 : decode cX11_isLink 34 = .ok (.goto (-32), 3) := by decide +kernel
theorem dX11_isLink_37 : decode cX11_isLink 37 = .ok (.iconst 0, 1) := by decide +kernel
theorem dX11_isLink_38 : decode cX11_isLink 38 = .ok (.ireturn, 1) := by decide +kernel
theorem dX11_firstShared_0 : decode cX11_firstShared 0 = .ok (.iload_n 0, 1) := by decide +kernel
theorem dX11_firstShared_1 : decode cX11_firstShared 1 = .ok (.istore 4, 2) := by decide +kernel
theorem dX11_firstShared_3 : decode cX11_firstShared 3 = .ok (.iconst 0, 1) := by decide +kernel
theorem dX11_firstShared_4 : decode cX11_firstShared 4 = .ok (.istore 5, 2) := by decide +kernel
theorem dX11_firstShared_6 : decode cX11_firstShared 6 = .ok (.iload 5, 2) := by decide +kernel
theorem dX11_firstShared_8 : decode cX11_firstShared 8 = .ok (.ldc 208, 2) := by decide +kernel
theorem dX11_firstShared_10 : decode cX11_firstShared 10 = .ok (.if_icmp .gt 32, 3) := by decide +kernel
theorem dX11_firstShared_13 : decode cX11_firstShared 13 = .ok (.iload 4, 2) := by decide +kernel
theorem dX11_firstShared_15 : decode cX11_firstShared 15 = .ok (.ldc 208, 2) := by decide +kernel
theorem dX11_firstShared_17 : decode cX11_firstShared 17 = .ok (.if_icmp .gt 25, 3) := by decide +kernel
theorem dX11_firstShared_20 : decode cX11_firstShared 20 = .ok (.iload 4, 2) := by decide +kernel
theorem dX11_firstShared_22 : decode cX11_firstShared 22 = .ok (.iload_n 2, 1) := by decide +kernel
theorem dX11_firstShared_23 : decode cX11_firstShared 23 = .ok (.iload_n 3, 1) := by decide +kernel
theorem dX11_firstShared_24 : decode cX11_firstShared 24 = .ok (.invokestatic 299, 3) := by decide +kernel
theorem dX11_firstShared_27 : decode cX11_firstShared 27 = .ok (.ifCond .ne 15, 3) := by decide +kernel
theorem dX11_firstShared_30 : decode cX11_firstShared 30 = .ok (.iload 4, 2) := by decide +kernel
theorem dX11_firstShared_32 : decode cX11_firstShared 32 = .ok (.iload_n 1, 1) := by decide +kernel
theorem dX11_firstShared_33 : decode cX11_firstShared 33 = .ok (.iadd, 1) := by decide +kernel
theorem dX11_firstShared_34 : decode cX11_firstShared 34 = .ok (.istore 4, 2) := by decide +kernel
theorem dX11_firstShared_36 : decode cX11_firstShared 36 = .ok (.iinc 5 1, 3) := by decide +kernel
theorem dX11_firstShared_39 : decode cX11_firstShared 39 = .ok (.goto (-33), 3) := by decide +kernel
theorem dX11_firstShared_42 : decode cX11_firstShared 42 = .ok (.iload 4, 2) := by decide +kernel
theorem dX11_firstShared_44 : decode cX11_firstShared 44 = .ok (.ireturn, 1) := by decide +kernel
theorem dX11_isThere_0 : decode cX11_isThere 0 = .ok (.iload_n 0, 1) := by decide +kernel
theorem dX11_isThere_1 : decode cX11_isThere 1 = .ok (.iload_n 1, 1) := by decide +kernel
theorem dX11_isThere_2 : decode cX11_isThere 2 = .ok (.if_icmp .lt 19, 3) := by decide +kernel
theorem dX11_isThere_5 : decode cX11_isThere 5 = .ok (.iload_n 2, 1) := by decide +kernel
theorem dX11_isThere_6 : decode cX11_isThere 6 = .ok (.ifCond .le 15, 3) := by decide +kernel
theorem dX11_isThere_9 : decode cX11_isThere 9 = .ok (.iload_n 0, 1) := by decide +kernel
theorem dX11_isThere_10 : decode cX11_isThere 10 = .ok (.iload_n 1, 1) := by decide +kernel
theorem dX11_isThere_11 : decode cX11_isThere 11 = .ok (.isub, 1) := by decide +kernel
theorem dX11_isThere_12 : decode cX11_isThere 12 = .ok (.iload_n 2, 1) := by decide +kernel
theorem dX11_isThere_13 : decode cX11_isThere 13 = .ok (.irem, 1) := by decide +kernel
theorem dX11_isThere_14 : decode cX11_isThere 14 = .ok (.ifCond .ne 7, 3) := by decide +kernel
theorem dX11_isThere_17 : decode cX11_isThere 17 = .ok (.iconst 1, 1) := by decide +kernel
theorem dX11_isThere_18 : decode cX11_isThere 18 = .ok (.goto 4, 3) := by decide +kernel
theorem dX11_isThere_21 : decode cX11_isThere 21 = .ok (.iconst 0, 1) := by decide +kernel
theorem dX11_isThere_22 : decode cX11_isThere 22 = .ok (.ireturn, 1) := by decide +kernel
theorem dX11_sharedStep_0 : decode cX11_sharedStep 0 = .ok (.iload_n 0, 1) := by decide +kernel
theorem dX11_sharedStep_1 : decode cX11_sharedStep 1 = .ok (.i2l, 1) := by decide +kernel
theorem dX11_sharedStep_2 : decode cX11_sharedStep 2 = .ok (.iload_n 1, 1) := by decide +kernel
theorem dX11_sharedStep_3 : decode cX11_sharedStep 3 = .ok (.i2l, 1) := by decide +kernel
theorem dX11_sharedStep_4 : decode cX11_sharedStep 4 = .ok (.invokestatic 250, 3) := by decide +kernel
theorem dX11_sharedStep_7 : decode cX11_sharedStep 7 = .ok (.lstore_n 2, 1) := by decide +kernel
theorem dX11_sharedStep_8 : decode cX11_sharedStep 8 = .ok (.lload_n 2, 1) := by decide +kernel
theorem dX11_sharedStep_9 : decode cX11_sharedStep 9 = .ok (.lconst 1, 1) := by decide +kernel
theorem dX11_sharedStep_10 : decode cX11_sharedStep 10 = .ok (.lcmp, 1) := by decide +kernel
theorem dX11_sharedStep_11 : decode cX11_sharedStep 11 = .ok (.ifCond .ge 5, 3) := by decide +kernel
theorem dX11_sharedStep_14 : decode cX11_sharedStep 14 = .ok (.iload_n 0, 1) := by decide +kernel
theorem dX11_sharedStep_15 : decode cX11_sharedStep 15 = .ok (.ireturn, 1) := by decide +kernel
theorem dX11_sharedStep_16 : decode cX11_sharedStep 16 = .ok (.iload_n 0, 1) := by decide +kernel
theorem dX11_sharedStep_17 : decode cX11_sharedStep 17 = .ok (.i2l, 1) := by decide +kernel
theorem dX11_sharedStep_18 : decode cX11_sharedStep 18 = .ok (.lload_n 2, 1) := by decide +kernel
theorem dX11_sharedStep_19 : decode cX11_sharedStep 19 = .ok (.ldiv, 1) := by decide +kernel
theorem dX11_sharedStep_20 : decode cX11_sharedStep 20 = .ok (.iload_n 1, 1) := by decide +kernel
theorem dX11_sharedStep_21 : decode cX11_sharedStep 21 = .ok (.i2l, 1) := by decide +kernel
theorem dX11_sharedStep_22 : decode cX11_sharedStep 22 = .ok (.lmul, 1) := by decide +kernel
theorem dX11_sharedStep_23 : decode cX11_sharedStep 23 = .ok (.ldc2_w 302, 3) := by decide +kernel
theorem dX11_sharedStep_26 : decode cX11_sharedStep 26 = .ok (.invokestatic 304, 3) := by decide +kernel
theorem dX11_sharedStep_29 : decode cX11_sharedStep 29 = .ok (.l2i, 1) := by decide +kernel
theorem dX11_sharedStep_30 : decode cX11_sharedStep 30 = .ok (.ireturn, 1) := by decide +kernel
theorem dX11_waitFrom_0 : decode cX11_waitFrom 0 = .ok (.iload_n 0, 1) := by decide +kernel
theorem dX11_waitFrom_1 : decode cX11_waitFrom 1 = .ok (.iload_n 1, 1) := by decide +kernel
theorem dX11_waitFrom_2 : decode cX11_waitFrom 2 = .ok (.if_icmp .le 8, 3) := by decide +kernel
theorem dX11_waitFrom_5 : decode cX11_waitFrom 5 = .ok (.iload_n 2, 1) := by decide +kernel
theorem dX11_waitFrom_6 : decode cX11_waitFrom 6 = .ok (.iconst 1, 1) := by decide +kernel
theorem dX11_waitFrom_7 : decode cX11_waitFrom 7 = .ok (.if_icmp .ge 7, 3) := by decide +kernel
theorem dX11_waitFrom_10 : decode cX11_waitFrom 10 = .ok (.iload_n 1, 1) := by decide +kernel
theorem dX11_waitFrom_11 : decode cX11_waitFrom 11 = .ok (.iload_n 0, 1) := by decide +kernel
theorem dX11_waitFrom_12 : decode cX11_waitFrom 12 = .ok (.isub, 1) := by decide +kernel
theorem dX11_waitFrom_13 : decode cX11_waitFrom 13 = .ok (.ireturn, 1) := by decide +kernel
theorem dX11_waitFrom_14 : decode cX11_waitFrom 14 = .ok (.iload_n 0, 1) := by decide +kernel
theorem dX11_waitFrom_15 : decode cX11_waitFrom 15 = .ok (.iload_n 1, 1) := by decide +kernel
theorem dX11_waitFrom_16 : decode cX11_waitFrom 16 = .ok (.isub, 1) := by decide +kernel
theorem dX11_waitFrom_17 : decode cX11_waitFrom 17 = .ok (.iload_n 2, 1) := by decide +kernel
theorem dX11_waitFrom_18 : decode cX11_waitFrom 18 = .ok (.irem, 1) := by decide +kernel
theorem dX11_waitFrom_19 : decode cX11_waitFrom 19 = .ok (.istore_n 3, 1) := by decide +kernel
theorem dX11_waitFrom_20 : decode cX11_waitFrom 20 = .ok (.iload_n 3, 1) := by decide +kernel
theorem dX11_waitFrom_21 : decode cX11_waitFrom 21 = .ok (.ifCond .ne 7, 3) := by decide +kernel
theorem dX11_waitFrom_24 : decode cX11_waitFrom 24 = .ok (.iconst 0, 1) := by decide +kernel
theorem dX11_waitFrom_25 : decode cX11_waitFrom 25 = .ok (.goto 6, 3) := by decide +kernel
theorem dX11_waitFrom_28 : decode cX11_waitFrom 28 = .ok (.iload_n 2, 1) := by decide +kernel
theorem dX11_waitFrom_29 : decode cX11_waitFrom 29 = .ok (.iload_n 3, 1) := by decide +kernel
theorem dX11_waitFrom_30 : decode cX11_waitFrom 30 = .ok (.isub, 1) := by decide +kernel
theorem dX11_waitFrom_31 : decode cX11_waitFrom 31 = .ok (.ireturn, 1) := by decide +kernel
theorem dX11_commonDivisor_0 : decode cX11_commonDivisor 0 = .ok (.lload_n 0, 1) := by decide +kernel
theorem dX11_commonDivisor_1 : decode cX11_commonDivisor 1 = .ok (.lstore 4, 2) := by decide +kernel
theorem dX11_commonDivisor_3 : decode cX11_commonDivisor 3 = .ok (.lload_n 2, 1) := by decide +kernel
theorem dX11_commonDivisor_4 : decode cX11_commonDivisor 4 = .ok (.lstore 6, 2) := by decide +kernel
theorem dX11_commonDivisor_6 : decode cX11_commonDivisor 6 = .ok (.iconst 0, 1) := by decide +kernel
theorem dX11_commonDivisor_7 : decode cX11_commonDivisor 7 = .ok (.istore 8, 2) := by decide +kernel
theorem dX11_commonDivisor_9 : decode cX11_commonDivisor 9 = .ok (.iload 8, 2) := by decide +kernel
theorem dX11_commonDivisor_11 : decode cX11_commonDivisor 11 = .ok (.bipush 100, 2) := by decide +kernel
theorem dX11_commonDivisor_13 : decode cX11_commonDivisor 13 = .ok (.if_icmp .ge 31, 3) := by decide +kernel
theorem dX11_commonDivisor_16 : decode cX11_commonDivisor 16 = .ok (.lload 6, 2) := by decide +kernel
theorem dX11_commonDivisor_18 : decode cX11_commonDivisor 18 = .ok (.lconst 0, 1) := by decide +kernel
theorem dX11_commonDivisor_19 : decode cX11_commonDivisor 19 = .ok (.lcmp, 1) := by decide +kernel
theorem dX11_commonDivisor_20 : decode cX11_commonDivisor 20 = .ok (.ifCond .eq 24, 3) := by decide +kernel
theorem dX11_commonDivisor_23 : decode cX11_commonDivisor 23 = .ok (.lload 4, 2) := by decide +kernel
theorem dX11_commonDivisor_25 : decode cX11_commonDivisor 25 = .ok (.lload 6, 2) := by decide +kernel
theorem dX11_commonDivisor_27 : decode cX11_commonDivisor 27 = .ok (.lrem, 1) := by decide +kernel
theorem dX11_commonDivisor_28 : decode cX11_commonDivisor 28 = .ok (.lstore 9, 2) := by decide +kernel
theorem dX11_commonDivisor_30 : decode cX11_commonDivisor 30 = .ok (.lload 6, 2) := by decide +kernel
theorem dX11_commonDivisor_32 : decode cX11_commonDivisor 32 = .ok (.lstore 4, 2) := by decide +kernel
theorem dX11_commonDivisor_34 : decode cX11_commonDivisor 34 = .ok (.lload 9, 2) := by decide +kernel
theorem dX11_commonDivisor_36 : decode cX11_commonDivisor 36 = .ok (.lstore 6, 2) := by decide +kernel
theorem dX11_commonDivisor_38 : decode cX11_commonDivisor 38 = .ok (.iinc 8 1, 3) := by decide +kernel
theorem dX11_commonDivisor_41 : decode cX11_commonDivisor 41 = .ok (.goto (-32), 3) := by decide +kernel
theorem dX11_commonDivisor_44 : decode cX11_commonDivisor 44 = .ok (.lload 4, 2) := by decide +kernel
theorem dX11_commonDivisor_46 : decode cX11_commonDivisor 46 = .ok (.lreturn, 1) := by decide +kernel
theorem dX11_gatherFits_0 : decode cX11_gatherFits 0 = .ok (.iconst 0, 1) := by decide +kernel
theorem dX11_gatherFits_1 : decode cX11_gatherFits 1 = .ok (.istore_n 1, 1) := by decide +kernel
theorem dX11_gatherFits_2 : decode cX11_gatherFits 2 = .ok (.iconst 1, 1) := by decide +kernel
theorem dX11_gatherFits_3 : decode cX11_gatherFits 3 = .ok (.istore_n 2, 1) := by decide +kernel
theorem dX11_gatherFits_4 : decode cX11_gatherFits 4 = .ok (.iload_n 2, 1) := by decide +kernel
theorem dX11_gatherFits_5 : decode cX11_gatherFits 5 = .ok (.sipush 300, 3) := by decide +kernel
theorem dX11_gatherFits_8 : decode cX11_gatherFits 8 = .ok (.if_icmp .gt 36, 3) := by decide +kernel
theorem dX11_gatherFits_11 : decode cX11_gatherFits 11 = .ok (.aload_n 0, 1) := by decide +kernel
theorem dX11_gatherFits_12 : decode cX11_gatherFits 12 = .ok (.iload_n 2, 1) := by decide +kernel
theorem dX11_gatherFits_13 : decode cX11_gatherFits 13 = .ok (.invokevirtual 306, 3) := by decide +kernel
theorem dX11_gatherFits_16 : decode cX11_gatherFits 16 = .ok (.ifCond .eq 22, 3) := by decide +kernel
theorem dX11_gatherFits_19 : decode cX11_gatherFits 19 = .ok (.iload_n 1, 1) := by decide +kernel
theorem dX11_gatherFits_20 : decode cX11_gatherFits 20 = .ok (.aload_n 0, 1) := by decide +kernel
theorem dX11_gatherFits_21 : decode cX11_gatherFits 21 = .ok (.getfield 60, 3) := by decide +kernel
theorem dX11_gatherFits_24 : decode cX11_gatherFits 24 = .ok (.arraylength, 1) := by decide +kernel
theorem dX11_gatherFits_25 : decode cX11_gatherFits 25 = .ok (.if_icmp .ge 13, 3) := by decide +kernel
theorem dX11_gatherFits_28 : decode cX11_gatherFits 28 = .ok (.aload_n 0, 1) := by decide +kernel
theorem dX11_gatherFits_29 : decode cX11_gatherFits 29 = .ok (.getfield 60, 3) := by decide +kernel
theorem dX11_gatherFits_32 : decode cX11_gatherFits 32 = .ok (.iload_n 1, 1) := by decide +kernel
theorem dX11_gatherFits_33 : decode cX11_gatherFits 33 = .ok (.iload_n 2, 1) := by decide +kernel
theorem dX11_gatherFits_34 : decode cX11_gatherFits 34 = .ok (.iastore, 1) := by decide +kernel
theorem dX11_gatherFits_35 : decode cX11_gatherFits 35 = .ok (.iinc 1 1, 3) := by decide +kernel
theorem dX11_gatherFits_38 : decode cX11_gatherFits 38 = .ok (.iinc 2 1, 3) := by decide +kernel
theorem dX11_gatherFits_41 : decode cX11_gatherFits 41 = .ok (.goto (-37), 3) := by decide +kernel
theorem dX11_gatherFits_44 : decode cX11_gatherFits 44 = .ok (.iload_n 1, 1) := by decide +kernel
theorem dX11_gatherFits_45 : decode cX11_gatherFits 45 = .ok (.ireturn, 1) := by decide +kernel
theorem dX11_agreesWithReadings_0 : decode cX11_agreesWithReadings 0 = .ok (.iconst 0, 1) := by decide +kernel
theorem dX11_agreesWithReadings_1 : decode cX11_agreesWithReadings 1 = .ok (.istore_n 2, 1) := by decide +kernel
theorem dX11_agreesWithReadings_2 : decode cX11_agreesWithReadings 2 = .ok (.iload_n 2, 1) := by decide +kernel
theorem dX11_agreesWithReadings_3 : decode cX11_agreesWithReadings 3 = .ok (.aload_n 0, 1) := by decide +kernel
theorem dX11_agreesWithReadings_4 : decode cX11_agreesWithReadings 4 = .ok (.getfield 44, 3) := by decide +kernel
theorem dX11_agreesWithReadings_7 : decode cX11_agreesWithReadings 7 = .ok (.getfield 218, 3) := by decide +kernel
theorem dX11_agreesWithReadings_10 : decode cX11_agreesWithReadings 10 = .ok (.if_icmp .ge 70, 3) := by decide +kernel
theorem dX11_agreesWithReadings_13 : decode cX11_agreesWithReadings 13 = .ok (.iload_n 2, 1) := by decide +kernel
theorem dX11_agreesWithReadings_14 : decode cX11_agreesWithReadings 14 = .ok (.bipush 8, 2) := by decide +kernel
theorem dX11_agreesWithReadings_16 : decode cX11_agreesWithReadings 16 = .ok (.if_icmp .ge 64, 3) := by decide +kernel
theorem dX11_agreesWithReadings_19 : decode cX11_agreesWithReadings 19 = .ok (.aload_n 0, 1) := by decide +kernel
theorem dX11_agreesWithReadings_20 : decode cX11_agreesWithReadings 20 = .ok (.getfield 21, 3) := by decide +kernel
theorem dX11_agreesWithReadings_23 : decode cX11_agreesWithReadings 23 = .ok (.aload_n 0, 1) := by decide +kernel
theorem dX11_agreesWithReadings_24 : decode cX11_agreesWithReadings 24 = .ok (.getfield 44, 3) := by decide +kernel
theorem dX11_agreesWithReadings_27 : decode cX11_agreesWithReadings 27 = .ok (.getfield 290, 3) := by decide +kernel
theorem dX11_agreesWithReadings_30 : decode cX11_agreesWithReadings 30 = .ok (.iconst 3, 1) := by decide +kernel
theorem dX11_agreesWithReadings_31 : decode cX11_agreesWithReadings 31 = .ok (.iload_n 2, 1) := by decide +kernel
theorem dX11_agreesWithReadings_32 : decode cX11_agreesWithReadings 32 = .ok (.imul, 1) := by decide +kernel
theorem dX11_agreesWithReadings_33 : decode cX11_agreesWithReadings 33 = .ok (.iconst 2, 1) := by decide +kernel
theorem dX11_agreesWithReadings_34 : decode cX11_agreesWithReadings 34 = .ok (.iadd, 1) := by decide +kernel
theorem dX11_agreesWithReadings_35 : decode cX11_agreesWithReadings 35 = .ok (.iaload, 1) := by decide +kernel
theorem dX11_agreesWithReadings_36 : decode cX11_agreesWithReadings 36 = .ok (.iload_n 1, 1) := by decide +kernel
theorem dX11_agreesWithReadings_37 : decode cX11_agreesWithReadings 37 = .ok (.aload_n 0, 1) := by decide +kernel
theorem dX11_agreesWithReadings_38 : decode cX11_agreesWithReadings 38 = .ok (.getfield 44, 3) := by decide +kernel
theorem dX11_agreesWithReadings_41 : decode cX11_agreesWithReadings 41 = .ok (.getfield 290, 3) := by decide +kernel
theorem dX11_agreesWithReadings_44 : decode cX11_agreesWithReadings 44 = .ok (.iconst 3, 1) := by decide +kernel
theorem dX11_agreesWithReadings_45 : decode cX11_agreesWithReadings 45 = .ok (.iload_n 2, 1) := by decide +kernel
theorem dX11_agreesWithReadings_46 : decode cX11_agreesWithReadings 46 = .ok (.imul, 1) := by decide +kernel
theorem dX11_agreesWithReadings_47 : decode cX11_agreesWithReadings 47 = .ok (.iaload, 1) := by decide +kernel
theorem dX11_agreesWithReadings_48 : decode cX11_agreesWithReadings 48 = .ok (.invokevirtual 156, 3) := by decide +kernel
theorem dX11_agreesWithReadings_51 : decode cX11_agreesWithReadings 51 = .ok (.istore_n 3, 1) := by decide +kernel
theorem dX11_agreesWithReadings_52 : decode cX11_agreesWithReadings 52 = .ok (.iload_n 3, 1) := by decide +kernel
theorem dX11_agreesWithReadings_53 : decode cX11_agreesWithReadings 53 = .ok (.invokestatic 139, 3) := by decide +kernel
theorem dX11_agreesWithReadings_56 : decode cX11_agreesWithReadings 56 = .ok (.aload_n 0, 1) := by decide +kernel
theorem dX11_agreesWithReadings_57 : decode cX11_agreesWithReadings 57 = .ok (.getfield 44, 3) := by decide +kernel
theorem dX11_agreesWithReadings_60 : decode cX11_agreesWithReadings 60 = .ok (.getfield 290, 3) := by decide +kernel
theorem dX11_agreesWithReadings_63 : decode cX11_agreesWithReadings 63 = .ok (.iconst 3, 1) := by decide +kernel
theorem dX11_agreesWithReadings_64 : decode cX11_agreesWithReadings 64 = .ok (.iload_n 2, 1) := by decide +kernel
theorem dX11_agreesWithReadings_65 : decode cX11_agreesWithReadings 65 = .ok (.imul, 1) := by decide +kernel
theorem dX11_agreesWithReadings_66 : decode cX11_agreesWithReadings 66 = .ok (.iconst 1, 1) := by decide +kernel
theorem dX11_agreesWithReadings_67 : decode cX11_agreesWithReadings 67 = .ok (.iadd, 1) := by decide +kernel
theorem dX11_agreesWithReadings_68 : decode cX11_agreesWithReadings 68 = .ok (.iaload, 1) := by decide +kernel
theorem dX11_agreesWithReadings_69 : decode cX11_agreesWithReadings 69 = .ok (.if_icmp .eq 5, 3) := by decide +kernel
theorem dX11_agreesWithReadings_72 : decode cX11_agreesWithReadings 72 = .ok (.iconst 0, 1) := by decide +kernel
theorem dX11_agreesWithReadings_73 : decode cX11_agreesWithReadings 73 = .ok (.ireturn, 1) := by decide +kernel
theorem dX11_agreesWithReadings_74 : decode cX11_agreesWithReadings 74 = .ok (.iinc 2 1, 3) := by decide +kernel
theorem dX11_agreesWithReadings_77 : decode cX11_agreesWithReadings 77 = .ok (.goto (-75), 3) := by decide +kernel
theorem dX11_agreesWithReadings_80 : decode cX11_agreesWithReadings 80 = .ok (.iconst 1, 1) := by decide +kernel
theorem dX11_agreesWithReadings_81 : decode cX11_agreesWithReadings 81 = .ok (.ireturn, 1) := by decide +kernel
theorem dX11_greaterPart_0 : decode cX11_greaterPart 0 = .ok (.iconst 0, 1) := by decide +kernel
theorem dX11_greaterPart_1 : decode cX11_greaterPart 1 = .ok (.istore 4, 2) := by decide +kernel
theorem dX11_greaterPart_3 : decode cX11_greaterPart 3 = .ok (.iconst 0, 1) := by decide +kernel
theorem dX11_greaterPart_4 : decode cX11_greaterPart 4 = .ok (.istore 5, 2) := by decide +kernel
theorem dX11_greaterPart_6 : decode cX11_greaterPart 6 = .ok (.iconst 0, 1) := by decide +kernel
theorem dX11_greaterPart_7 : decode cX11_greaterPart 7 = .ok (.istore 6, 2) := by decide +kernel
theorem dX11_greaterPart_9 : decode cX11_greaterPart 9 = .ok (.iload 6, 2) := by decide +kernel
theorem dX11_greaterPart_11 : decode cX11_greaterPart 11 = .ok (.iload_n 2, 1) := by decide +kernel
theorem dX11_greaterPart_12 : decode cX11_greaterPart 12 = .ok (.if_icmp .ge 65, 3) := by decide +kernel
theorem dX11_greaterPart_15 : decode cX11_greaterPart 15 = .ok (.iload 6, 2) := by decide +kernel
theorem dX11_greaterPart_17 : decode cX11_greaterPart 17 = .ok (.aload_n 0, 1) := by decide +kernel
theorem dX11_greaterPart_18 : decode cX11_greaterPart 18 = .ok (.getfield 60, 3) := by decide +kernel
theorem dX11_greaterPart_21 : decode cX11_greaterPart 21 = .ok (.arraylength, 1) := by decide +kernel
theorem dX11_greaterPart_22 : decode cX11_greaterPart 22 = .ok (.if_icmp .ge 55, 3) := by decide +kernel
theorem dX11_greaterPart_25 : decode cX11_greaterPart 25 = .ok (.iload 4, 2) := by decide +kernel
theorem dX11_greaterPart_27 : decode cX11_greaterPart 27 = .ok (.iload_n 3, 1) := by decide +kernel
theorem dX11_greaterPart_28 : decode cX11_greaterPart 28 = .ok (.if_icmp .ge 49, 3) := by decide +kernel
theorem dX11_greaterPart_31 : decode cX11_greaterPart 31 = .ok (.iload 5, 2) := by decide +kernel
theorem dX11_greaterPart_33 : decode cX11_greaterPart 33 = .ok (.iload_n 3, 1) := by decide +kernel
theorem dX11_greaterPart_34 : decode cX11_greaterPart 34 = .ok (.if_icmp .ge 43, 3) := by decide +kernel
theorem dX11_greaterPart_37 : decode cX11_greaterPart 37 = .ok (.aload_n 0, 1) := by decide +kernel
theorem dX11_greaterPart_38 : decode cX11_greaterPart 38 = .ok (.getfield 21, 3) := by decide +kernel
theorem dX11_greaterPart_41 : decode cX11_greaterPart 41 = .ok (.aload_n 0, 1) := by decide +kernel
theorem dX11_greaterPart_42 : decode cX11_greaterPart 42 = .ok (.getfield 44, 3) := by decide +kernel
theorem dX11_greaterPart_45 : decode cX11_greaterPart 45 = .ok (.getfield 85, 3) := by decide +kernel
theorem dX11_greaterPart_48 : decode cX11_greaterPart 48 = .ok (.iload_n 1, 1) := by decide +kernel
theorem dX11_greaterPart_49 : decode cX11_greaterPart 49 = .ok (.aload_n 0, 1) := by decide +kernel
theorem dX11_greaterPart_50 : decode cX11_greaterPart 50 = .ok (.getfield 60, 3) := by decide +kernel
theorem dX11_greaterPart_53 : decode cX11_greaterPart 53 = .ok (.iload 6, 2) := by decide +kernel
theorem dX11_greaterPart_55 : decode cX11_greaterPart 55 = .ok (.iaload, 1) := by decide +kernel
theorem dX11_greaterPart_56 : decode cX11_greaterPart 56 = .ok (.invokevirtual 156, 3) := by decide +kernel
theorem dX11_greaterPart_59 : decode cX11_greaterPart 59 = .ok (.ifCond .eq 9, 3) := by decide +kernel
theorem dX11_greaterPart_62 : decode cX11_greaterPart 62 = .ok (.iinc 4 1, 3) := by decide +kernel
theorem dX11_greaterPart_65 : decode cX11_greaterPart 65 = .ok (.goto 6, 3) := by decide +kernel
theorem dX11_greaterPart_68 : decode cX11_greaterPart 68 = .ok (.iinc 5 1, 3) := by decide +kernel
theorem dX11_greaterPart_71 : decode cX11_greaterPart 71 = .ok (.iinc 6 1, 3) := by decide +kernel
theorem dX11_greaterPart_74 : decode cX11_greaterPart 74 = .ok (.goto (-65), 3) := by decide +kernel
theorem dX11_greaterPart_77 : decode cX11_greaterPart 77 = .ok (.iload 4, 2) := by decide +kernel
theorem dX11_greaterPart_79 : decode cX11_greaterPart 79 = .ok (.iload 5, 2) := by decide +kernel
theorem dX11_greaterPart_81 : decode cX11_greaterPart 81 = .ok (.invokestatic 309, 3) := by decide +kernel
theorem dX11_greaterPart_84 : decode cX11_greaterPart 84 = .ok (.ireturn, 1) := by decide +kernel
theorem dX11_agreesWithNotes_0 : decode cX11_agreesWithNotes 0 = .ok (.iconst 0, 1) := by decide +kernel
theorem dX11_agreesWithNotes_1 : decode cX11_agreesWithNotes 1 = .ok (.istore_n 2, 1) := by decide +kernel
theorem dX11_agreesWithNotes_2 : decode cX11_agreesWithNotes 2 = .ok (.iload_n 2, 1) := by decide +kernel
theorem dX11_agreesWithNotes_3 : decode cX11_agreesWithNotes 3 = .ok (.aload_n 0, 1) := by decide +kernel
theorem dX11_agreesWithNotes_4 : decode cX11_agreesWithNotes 4 = .ok (.getfield 44, 3) := by decide +kernel
theorem dX11_agreesWithNotes_7 : decode cX11_agreesWithNotes 7 = .ok (.getfield 231, 3) := by decide +kernel
theorem dX11_agreesWithNotes_10 : decode cX11_agreesWithNotes 10 = .ok (.if_icmp .ge 70, 3) := by decide +kernel
theorem dX11_agreesWithNotes_13 : decode cX11_agreesWithNotes 13 = .ok (.iload_n 2, 1) := by decide +kernel
theorem dX11_agreesWithNotes_14 : decode cX11_agreesWithNotes 14 = .ok (.bipush 8, 2) := by decide +kernel
theorem dX11_agreesWithNotes_16 : decode cX11_agreesWithNotes 16 = .ok (.if_icmp .ge 64, 3) := by decide +kernel
theorem dX11_agreesWithNotes_19 : decode cX11_agreesWithNotes 19 = .ok (.aload_n 0, 1) := by decide +kernel
theorem dX11_agreesWithNotes_20 : decode cX11_agreesWithNotes 20 = .ok (.getfield 21, 3) := by decide +kernel
theorem dX11_agreesWithNotes_23 : decode cX11_agreesWithNotes 23 = .ok (.iload_n 1, 1) := by decide +kernel
theorem dX11_agreesWithNotes_24 : decode cX11_agreesWithNotes 24 = .ok (.aload_n 0, 1) := by decide +kernel
theorem dX11_agreesWithNotes_25 : decode cX11_agreesWithNotes 25 = .ok (.getfield 44, 3) := by decide +kernel
theorem dX11_agreesWithNotes_28 : decode cX11_agreesWithNotes 28 = .ok (.getfield 293, 3) := by decide +kernel
theorem dX11_agreesWithNotes_31 : decode cX11_agreesWithNotes 31 = .ok (.iconst 3, 1) := by decide +kernel
theorem dX11_agreesWithNotes_32 : decode cX11_agreesWithNotes 32 = .ok (.iload_n 2, 1) := by decide +kernel
theorem dX11_agreesWithNotes_33 : decode cX11_agreesWithNotes 33 = .ok (.imul, 1) := by decide +kernel
theorem dX11_agreesWithNotes_34 : decode cX11_agreesWithNotes 34 = .ok (.iaload, 1) := by decide +kernel
theorem dX11_agreesWithNotes_35 : decode cX11_agreesWithNotes 35 = .ok (.aload_n 0, 1) := by decide +kernel
theorem dX11_agreesWithNotes_36 : decode cX11_agreesWithNotes 36 = .ok (.getfield 44, 3) := by decide +kernel
theorem dX11_agreesWithNotes_39 : decode cX11_agreesWithNotes 39 = .ok (.getfield 293, 3) := by decide +kernel
theorem dX11_agreesWithNotes_42 : decode cX11_agreesWithNotes 42 = .ok (.iconst 3, 1) := by decide +kernel
theorem dX11_agreesWithNotes_43 : decode cX11_agreesWithNotes 43 = .ok (.iload_n 2, 1) := by decide +kernel
theorem dX11_agreesWithNotes_44 : decode cX11_agreesWithNotes 44 = .ok (.imul, 1) := by decide +kernel
theorem dX11_agreesWithNotes_45 : decode cX11_agreesWithNotes 45 = .ok (.iconst 1, 1) := by decide +kernel
theorem dX11_agreesWithNotes_46 : decode cX11_agreesWithNotes 46 = .ok (.iadd, 1) := by decide +kernel
theorem dX11_agreesWithNotes_47 : decode cX11_agreesWithNotes 47 = .ok (.iaload, 1) := by decide +kernel
theorem dX11_agreesWithNotes_48 : decode cX11_agreesWithNotes 48 = .ok (.invokevirtual 156, 3) := by decide +kernel
theorem dX11_agreesWithNotes_51 : decode cX11_agreesWithNotes 51 = .ok (.istore_n 3, 1) := by decide +kernel
theorem dX11_agreesWithNotes_52 : decode cX11_agreesWithNotes 52 = .ok (.iload_n 3, 1) := by decide +kernel
theorem dX11_agreesWithNotes_53 : decode cX11_agreesWithNotes 53 = .ok (.invokestatic 139, 3) := by decide +kernel
theorem dX11_agreesWithNotes_56 : decode cX11_agreesWithNotes 56 = .ok (.aload_n 0, 1) := by decide +kernel
theorem dX11_agreesWithNotes_57 : decode cX11_agreesWithNotes 57 = .ok (.getfield 44, 3) := by decide +kernel
theorem dX11_agreesWithNotes_60 : decode cX11_agreesWithNotes 60 = .ok (.getfield 293, 3) := by decide +kernel
theorem dX11_agreesWithNotes_63 : decode cX11_agreesWithNotes 63 = .ok (.iconst 3, 1) := by decide +kernel
theorem dX11_agreesWithNotes_64 : decode cX11_agreesWithNotes 64 = .ok (.iload_n 2, 1) := by decide +kernel
theorem dX11_agreesWithNotes_65 : decode cX11_agreesWithNotes 65 = .ok (.imul, 1) := by decide +kernel
theorem dX11_agreesWithNotes_66 : decode cX11_agreesWithNotes 66 = .ok (.iconst 2, 1) := by decide +kernel
theorem dX11_agreesWithNotes_67 : decode cX11_agreesWithNotes 67 = .ok (.iadd, 1) := by decide +kernel
theorem dX11_agreesWithNotes_68 : decode cX11_agreesWithNotes 68 = .ok (.iaload, 1) := by decide +kernel
theorem dX11_agreesWithNotes_69 : decode cX11_agreesWithNotes 69 = .ok (.if_icmp .eq 5, 3) := by decide +kernel
theorem dX11_agreesWithNotes_72 : decode cX11_agreesWithNotes 72 = .ok (.iconst 0, 1) := by decide +kernel
theorem dX11_agreesWithNotes_73 : decode cX11_agreesWithNotes 73 = .ok (.ireturn, 1) := by decide +kernel
theorem dX11_agreesWithNotes_74 : decode cX11_agreesWithNotes 74 = .ok (.iinc 2 1, 3) := by decide +kernel
theorem dX11_agreesWithNotes_77 : decode cX11_agreesWithNotes 77 = .ok (.goto (-75), 3) := by decide +kernel
theorem dX11_agreesWithNotes_80 : decode cX11_agreesWithNotes 80 = .ok (.iconst 1, 1) := by decide +kernel
theorem dX11_agreesWithNotes_81 : decode cX11_agreesWithNotes 81 = .ok (.ireturn, 1) := by decide +kernel
theorem dX11_emptyBehind_0 : decode cX11_emptyBehind 0 = .ok (.iconst 1, 1) := by decide +kernel
theorem dX11_emptyBehind_1 : decode cX11_emptyBehind 1 = .ok (.istore_n 2, 1) := by decide +kernel
theorem dX11_emptyBehind_2 : decode cX11_emptyBehind 2 = .ok (.iload_n 2, 1) := by decide +kernel
theorem dX11_emptyBehind_3 : decode cX11_emptyBehind 3 = .ok (.bipush 8, 2) := by decide +kernel
theorem dX11_emptyBehind_5 : decode cX11_emptyBehind 5 = .ok (.if_icmp .ge 51, 3) := by decide +kernel
theorem dX11_emptyBehind_8 : decode cX11_emptyBehind 8 = .ok (.iload_n 1, 1) := by decide +kernel
theorem dX11_emptyBehind_9 : decode cX11_emptyBehind 9 = .ok (.iload_n 2, 1) := by decide +kernel
theorem dX11_emptyBehind_10 : decode cX11_emptyBehind 10 = .ok (.iadd, 1) := by decide +kernel
theorem dX11_emptyBehind_11 : decode cX11_emptyBehind 11 = .ok (.bipush 8, 2) := by decide +kernel
theorem dX11_emptyBehind_13 : decode cX11_emptyBehind 13 = .ok (.if_icmp .ge 9, 3) := by decide +kernel
theorem dX11_emptyBehind_16 : decode cX11_emptyBehind 16 = .ok (.iload_n 1, 1) := by decide +kernel
theorem dX11_emptyBehind_17 : decode cX11_emptyBehind 17 = .ok (.iload_n 2, 1) := by decide +kernel
theorem dX11_emptyBehind_18 : decode cX11_emptyBehind 18 = .ok (.iadd, 1) := by decide +kernel
theorem dX11_emptyBehind_19 : decode cX11_emptyBehind 19 = .ok (.goto 9, 3) := by decide +kernel
theorem dX11_emptyBehind_22 : decode cX11_emptyBehind 22 = .ok (.iload_n 1, 1) := by decide +kernel
theorem dX11_emptyBehind_23 : decode cX11_emptyBehind 23 = .ok (.iload_n 2, 1) := by decide +kernel
theorem dX11_emptyBehind_24 : decode cX11_emptyBehind 24 = .ok (.iadd, 1) := by decide +kernel
theorem dX11_emptyBehind_25 : decode cX11_emptyBehind 25 = .ok (.bipush 8, 2) := by decide +kernel
theorem dX11_emptyBehind_27 : decode cX11_emptyBehind 27 = .ok (.isub, 1) := by decide +kernel
theorem dX11_emptyBehind_28 : decode cX11_emptyBehind 28 = .ok (.istore_n 3, 1) := by decide +kernel
theorem dX11_emptyBehind_29 : decode cX11_emptyBehind 29 = .ok (.iload_n 3, 1) := by decide +kernel
theorem dX11_emptyBehind_30 : decode cX11_emptyBehind 30 = .ok (.invokestatic 92, 3) := by decide +kernel
theorem dX11_emptyBehind_33 : decode cX11_emptyBehind 33 = .ok (.ifCond .eq 17, 3) := by decide +kernel
theorem dX11_emptyBehind_36 : decode cX11_emptyBehind 36 = .ok (.aload_n 0, 1) := by decide +kernel
theorem dX11_emptyBehind_37 : decode cX11_emptyBehind 37 = .ok (.getfield 44, 3) := by decide +kernel
theorem dX11_emptyBehind_40 : decode cX11_emptyBehind 40 = .ok (.getfield 96, 3) := by decide +kernel
theorem dX11_emptyBehind_43 : decode cX11_emptyBehind 43 = .ok (.iload_n 3, 1) := by decide +kernel
theorem dX11_emptyBehind_44 : decode cX11_emptyBehind 44 = .ok (.iaload, 1) := by decide +kernel
theorem dX11_emptyBehind_45 : decode cX11_emptyBehind 45 = .ok (.ifCond .ne 5, 3) := by decide +kernel
theorem dX11_emptyBehind_48 : decode cX11_emptyBehind 48 = .ok (.iload_n 3, 1) := by decide +kernel
theorem dX11_emptyBehind_49 : decode cX11_emptyBehind 49 = .ok (.ireturn, 1) := by decide +kernel
theorem dX11_emptyBehind_50 : decode cX11_emptyBehind 50 = .ok (.iinc 2 1, 3) := by decide +kernel
theorem dX11_emptyBehind_53 : decode cX11_emptyBehind 53 = .ok (.goto (-51), 3) := by decide +kernel
theorem dX11_emptyBehind_56 : decode cX11_emptyBehind 56 = .ok (.iconst (-1), 1) := by decide +kernel
theorem dX11_emptyBehind_57 : decode cX11_emptyBehind 57 = .ok (.ireturn, 1) := by decide +kernel
theorem dX11_fillTrial_0 : decode cX11_fillTrial 0 = .ok (.lload_n 1, 1) := by decide +kernel
theorem dX11_fillTrial_1 : decode cX11_fillTrial 1 = .ok (.lstore_n 3, 1) := by decide +kernel
theorem dX11_fillTrial_2 : decode cX11_fillTrial 2 = .ok (.iconst 0, 1) := by decide +kernel
theorem dX11_fillTrial_3 : decode cX11_fillTrial 3 = .ok (.istore 5, 2) := by decide +kernel
theorem dX11_fillTrial_5 : decode cX11_fillTrial 5 = .ok (.iload 5, 2) := by decide +kernel
theorem dX11_fillTrial_7 : decode cX11_fillTrial 7 = .ok (.bipush 8, 2) := by decide +kernel
theorem dX11_fillTrial_9 : decode cX11_fillTrial 9 = .ok (.if_icmp .ge 40, 3) := by decide +kernel
theorem dX11_fillTrial_12 : decode cX11_fillTrial 12 = .ok (.lload_n 3, 1) := by decide +kernel
theorem dX11_fillTrial_13 : decode cX11_fillTrial 13 = .ok (.ldc2_w 312, 3) := by decide +kernel
theorem dX11_fillTrial_16 : decode cX11_fillTrial 16 = .ok (.lmul, 1) := by decide +kernel
theorem dX11_fillTrial_17 : decode cX11_fillTrial 17 = .ok (.ldc2_w 314, 3) := by decide +kernel
theorem dX11_fillTrial_20 : decode cX11_fillTrial 20 = .ok (.ladd, 1) := by decide +kernel
theorem dX11_fillTrial_21 : decode cX11_fillTrial 21 = .ok (.ldc2_w 316, 3) := by decide +kernel
theorem dX11_fillTrial_24 : decode cX11_fillTrial 24 = .ok (.lrem, 1) := by decide +kernel
theorem dX11_fillTrial_25 : decode cX11_fillTrial 25 = .ok (.lstore_n 3, 1) := by decide +kernel
theorem dX11_fillTrial_26 : decode cX11_fillTrial 26 = .ok (.aload_n 0, 1) := by decide +kernel
theorem dX11_fillTrial_27 : decode cX11_fillTrial 27 = .ok (.getfield 56, 3) := by decide +kernel
theorem dX11_fillTrial_30 : decode cX11_fillTrial 30 = .ok (.iload 5, 2) := by decide +kernel
theorem dX11_fillTrial_32 : decode cX11_fillTrial 32 = .ok (.lload_n 3, 1) := by decide +kernel
theorem dX11_fillTrial_33 : decode cX11_fillTrial 33 = .ok (.ldc2_w 318, 3) := by decide +kernel
theorem dX11_fillTrial_36 : decode cX11_fillTrial 36 = .ok (.ldiv, 1) := by decide +kernel
theorem dX11_fillTrial_37 : decode cX11_fillTrial 37 = .ok (.ldc2_w 320, 3) := by decide +kernel
theorem dX11_fillTrial_40 : decode cX11_fillTrial 40 = .ok (.lrem, 1) := by decide +kernel
theorem dX11_fillTrial_41 : decode cX11_fillTrial 41 = .ok (.l2i, 1) := by decide +kernel
theorem dX11_fillTrial_42 : decode cX11_fillTrial 42 = .ok (.iastore, 1) := by decide +kernel
theorem dX11_fillTrial_43 : decode cX11_fillTrial 43 = .ok (.iinc 5 1, 3) := by decide +kernel
theorem dX11_fillTrial_46 : decode cX11_fillTrial 46 = .ok (.goto (-41), 3) := by decide +kernel
theorem dX11_fillTrial_49 : decode cX11_fillTrial 49 = .ok (.lload_n 3, 1) := by decide +kernel
theorem dX11_fillTrial_50 : decode cX11_fillTrial 50 = .ok (.lreturn, 1) := by decide +kernel
theorem dX11_imageAt_0 : decode cX11_imageAt 0 = .ok (.iload_n 1, 1) := by decide +kernel
theorem dX11_imageAt_1 : decode cX11_imageAt 1 = .ok (.ifCond .lt 17, 3) := by decide +kernel
theorem dX11_imageAt_4 : decode cX11_imageAt 4 = .ok (.iload_n 1, 1) := by decide +kernel
theorem dX11_imageAt_5 : decode cX11_imageAt 5 = .ok (.iconst 2, 1) := by decide +kernel
theorem dX11_imageAt_6 : decode cX11_imageAt 6 = .ok (.if_icmp .ge 12, 3) := by decide +kernel
theorem dX11_imageAt_9 : decode cX11_imageAt 9 = .ok (.aload_n 0, 1) := by decide +kernel
theorem dX11_imageAt_10 : decode cX11_imageAt 10 = .ok (.getfield 48, 3) := by decide +kernel
theorem dX11_imageAt_13 : decode cX11_imageAt 13 = .ok (.iload_n 1, 1) := by decide +kernel
theorem dX11_imageAt_14 : decode cX11_imageAt 14 = .ok (.aaload, 1) := by decide +kernel
theorem dX11_imageAt_15 : decode cX11_imageAt 15 = .ok (.goto 4, 3) := by decide +kernel
theorem dX11_imageAt_18 : decode cX11_imageAt 18 = .ok (.aconst_null, 1) := by decide +kernel
theorem dX11_imageAt_19 : decode cX11_imageAt 19 = .ok (.areturn, 1) := by decide +kernel
theorem dX11_tally_0 : decode cX11_tally 0 = .ok (.iload_n 1, 1) := by decide +kernel
theorem dX11_tally_1 : decode cX11_tally 1 = .ok (.tableswitch 75 0 4 #[35, 43, 51, 59, 67], 35) := by decide +kernel
theorem dX11_tally_36 : decode cX11_tally 36 = .ok (.aload_n 0, 1) := by decide +kernel
theorem dX11_tally_37 : decode cX11_tally 37 = .ok (.getfield 44, 3) := by decide +kernel
theorem dX11_tally_40 : decode cX11_tally 40 = .ok (.invokevirtual 78, 3) := by decide +kernel
theorem dX11_tally_43 : decode cX11_tally 43 = .ok (.ireturn, 1) := by decide +kernel
theorem dX11_tally_44 : decode cX11_tally 44 = .ok (.aload_n 0, 1) := by decide +kernel
theorem dX11_tally_45 : decode cX11_tally 45 = .ok (.getfield 44, 3) := by decide +kernel
theorem dX11_tally_48 : decode cX11_tally 48 = .ok (.getfield 85, 3) := by decide +kernel
theorem dX11_tally_51 : decode cX11_tally 51 = .ok (.ireturn, 1) := by decide +kernel
theorem dX11_tally_52 : decode cX11_tally 52 = .ok (.aload_n 0, 1) := by decide +kernel
theorem dX11_tally_53 : decode cX11_tally 53 = .ok (.getfield 44, 3) := by decide +kernel
theorem dX11_tally_56 : decode cX11_tally 56 = .ok (.getfield 218, 3) := by decide +kernel
theorem dX11_tally_59 : decode cX11_tally 59 = .ok (.ireturn, 1) := by decide +kernel
theorem dX11_tally_60 : decode cX11_tally 60 = .ok (.aload_n 0, 1) := by decide +kernel
theorem dX11_tally_61 : decode cX11_tally 61 = .ok (.getfield 44, 3) := by decide +kernel
theorem dX11_tally_64 : decode cX11_tally 64 = .ok (.getfield 231, 3) := by decide +kernel
theorem dX11_tally_67 : decode cX11_tally 67 = .ok (.ireturn, 1) := by decide +kernel
theorem dX11_tally_68 : decode cX11_tally 68 = .ok (.aload_n 0, 1) := by decide +kernel
theorem dX11_tally_69 : decode cX11_tally 69 = .ok (.getfield 44, 3) := by decide +kernel
theorem dX11_tally_72 : decode cX11_tally 72 = .ok (.getfield 322, 3) := by decide +kernel
theorem dX11_tally_75 : decode cX11_tally 75 = .ok (.ireturn, 1) := by decide +kernel
theorem dX11_tally_76 : decode cX11_tally 76 = .ok (.aload_n 0, 1) := by decide +kernel
theorem dX11_tally_77 : decode cX11_tally 77 = .ok (.getfield 37, 3) := by decide +kernel
theorem dX11_tally_80 : decode cX11_tally 80 = .ok (.getfield 112, 3) := by decide +kernel
theorem dX11_tally_83 : decode cX11_tally 83 = .ok (.ireturn, 1) := by decide +kernel
theorem dX11_fold_0 : decode cX11_fold 0 = .ok (.lload_n 0, 1) := by decide +kernel
theorem dX11_fold_1 : decode cX11_fold 1 = .ok (.lstore 4, 2) := by decide +kernel
theorem dX11_fold_3 : decode cX11_fold 3 = .ok (.iconst 0, 1) := by decide +kernel
theorem dX11_fold_4 : decode cX11_fold 4 = .ok (.istore 6, 2) := by decide +kernel
theorem dX11_fold_6 : decode cX11_fold 6 = .ok (.iload 6, 2) := by decide +kernel
theorem dX11_fold_8 : decode cX11_fold 8 = .ok (.iload_n 3, 1) := by decide +kernel
theorem dX11_fold_9 : decode cX11_fold 9 = .ok (.if_icmp .ge 30, 3) := by decide +kernel
theorem dX11_fold_12 : decode cX11_fold 12 = .ok (.iload 6, 2) := by decide +kernel
theorem dX11_fold_14 : decode cX11_fold 14 = .ok (.aload_n 2, 1) := by decide +kernel
theorem dX11_fold_15 : decode cX11_fold 15 = .ok (.arraylength, 1) := by decide +kernel
theorem dX11_fold_16 : decode cX11_fold 16 = .ok (.if_icmp .ge 23, 3) := by decide +kernel
theorem dX11_fold_19 : decode cX11_fold 19 = .ok (.ldc2_w 284, 3) := by decide +kernel
theorem dX11_fold_22 : decode cX11_fold 22 = .ok (.lload 4, 2) := by decide +kernel
theorem dX11_fold_24 : decode cX11_fold 24 = .ok (.lmul, 1) := by decide +kernel
theorem dX11_fold_25 : decode cX11_fold 25 = .ok (.aload_n 2, 1) := by decide +kernel
theorem dX11_fold_26 : decode cX11_fold 26 = .ok (.iload 6, 2) := by decide +kernel
theorem dX11_fold_28 : decode cX11_fold 28 = .ok (.iaload, 1) := by decide +kernel
theorem dX11_fold_29 : decode cX11_fold 29 = .ok (.i2l, 1) := by decide +kernel
theorem dX11_fold_30 : decode cX11_fold 30 = .ok (.ladd, 1) := by decide +kernel
theorem dX11_fold_31 : decode cX11_fold 31 = .ok (.lstore 4, 2) := by decide +kernel
theorem dX11_fold_33 : decode cX11_fold 33 = .ok (.iinc 6 1, 3) := by decide +kernel
theorem dX11_fold_36 : decode cX11_fold 36 = .ok (.goto (-30), 3) := by decide +kernel
theorem dX11_fold_39 : decode cX11_fold 39 = .ok (.lload 4, 2) := by decide +kernel
theorem dX11_fold_41 : decode cX11_fold 41 = .ok (.lreturn, 1) := by decide +kernel
end
section
theorem dX12_init_0 : decode cX12_init 0 = .ok (.aload_n 0, 1) := by decide +kernel
theorem dX12_init_1 : decode cX12_init 1 = .ok (.invokespecial 1, 3) := by decide +kernel
theorem dX12_init_4 : decode cX12_init 4 = .ok (.aload_n 0, 1) := by decide +kernel
theorem dX12_init_5 : decode cX12_init 5 = .ok (.sipush 149, 3) := by decide +kernel
theorem dX12_init_8 : decode cX12_init 8 = .ok (.newarray .int, 2) := by decide +kernel
theorem dX12_init_10 : decode cX12_init 10 = .ok (.putfield 7, 3) := by decide +kernel
theorem dX12_init_13 : decode cX12_init 13 = .ok (.aload_n 0, 1) := by decide +kernel
theorem dX12_init_14 : decode cX12_init 14 = .ok (.sipush 298, 3) := by decide +kernel
theorem dX12_init_17 : decode cX12_init 17 = .ok (.newarray .int, 2) := by decide +kernel
theorem dX12_init_19 : decode cX12_init 19 = .ok (.putfield 13, 3) := by decide +kernel
theorem dX12_init_22 : decode cX12_init 22 = .ok (.aload_n 0, 1) := by decide +kernel
theorem dX12_init_23 : decode cX12_init 23 = .ok (.iconst 2, 1) := by decide +kernel
theorem dX12_init_24 : decode cX12_init 24 = .ok (.newarray .boolean, 2) := by decide +kernel
theorem dX12_init_26 : decode cX12_init 26 = .ok (.putfield 16, 3) := by decide +kernel
theorem dX12_init_29 : decode cX12_init 29 = .ok (.aload_n 0, 1) := by decide +kernel
theorem dX12_init_30 : decode cX12_init 30 = .ok (.iconst 3, 1) := by decide +kernel
theorem dX12_init_31 : decode cX12_init 31 = .ok (.newarray .int, 2) := by decide +kernel
theorem dX12_init_33 : decode cX12_init 33 = .ok (.putfield 20, 3) := by decide +kernel
theorem dX12_init_36 : decode cX12_init 36 = .ok (.aload_n 0, 1) := by decide +kernel
theorem dX12_init_37 : decode cX12_init 37 = .ok (.sipush 301, 3) := by decide +kernel
theorem dX12_init_40 : decode cX12_init 40 = .ok (.newarray .int, 2) := by decide +kernel
theorem dX12_init_42 : decode cX12_init 42 = .ok (.putfield 23, 3) := by decide +kernel
theorem dX12_init_45 : decode cX12_init 45 = .ok (.aload_n 0, 1) := by decide +kernel
theorem dX12_init_46 : decode cX12_init 46 = .ok (.lconst 1, 1) := by decide +kernel
theorem dX12_init_47 : decode cX12_init 47 = .ok (.putfield 26, 3) := by decide +kernel
theorem dX12_init_50 : decode cX12_init 50 = .ok (.aload_n 0, 1) := by decide +kernel
theorem dX12_init_51 : decode cX12_init 51 = .ok (.bipush 8, 2) := by decide +kernel
theorem dX12_init_53 : decode cX12_init 53 = .ok (.newarray .int, 2) := by decide +kernel
theorem dX12_init_55 : decode cX12_init 55 = .ok (.putfield 30, 3) := by decide +kernel
theorem dX12_init_58 : decode cX12_init 58 = .ok (.aload_n 0, 1) := by decide +kernel
theorem dX12_init_59 : decode cX12_init 59 = .ok (.bipush 9, 2) := by decide +kernel
theorem dX12_init_61 : decode cX12_init 61 = .ok (.newarray .int, 2) := by decide +kernel
theorem dX12_init_63 : decode cX12_init 63 = .ok (.putfield 33, 3) := by decide +kernel
theorem dX12_init_66 : decode cX12_init 66 = .ok (.aload_n 0, 1) := by decide +kernel
theorem dX12_init_67 : decode cX12_init 67 = .ok (.bipush 8, 2) := by decide +kernel
theorem dX12_init_69 : decode cX12_init 69 = .ok (.newarray .int, 2) := by decide +kernel
theorem dX12_init_71 : decode cX12_init 71 = .ok (.putfield 36, 3) := by decide +kernel
theorem dX12_init_74 : decode cX12_init 74 = .ok (.aload_n 0, 1) := by decide +kernel
theorem dX12_init_75 : decode cX12_init 75 = .ok (.sipush 256, 3) := by decide +kernel
theorem dX12_init_78 : decode cX12_init 78 = .ok (.newarray .int, 2) := by decide +kernel
theorem dX12_init_80 : decode cX12_init 80 = .ok (.putfield 39, 3) := by decide +kernel
theorem dX12_init_83 : decode cX12_init 83 = .ok (.aload_n 0, 1) := by decide +kernel
theorem dX12_init_84 : decode cX12_init 84 = .ok (.bipush 21, 2) := by decide +kernel
theorem dX12_init_86 : decode cX12_init 86 = .ok (.newarray .int, 2) := by decide +kernel
theorem dX12_init_88 : decode cX12_init 88 = .ok (.putfield 42, 3) := by decide +kernel
theorem dX12_init_91 : decode cX12_init 91 = .ok (.aload_n 0, 1) := by decide +kernel
theorem dX12_init_92 : decode cX12_init 92 = .ok (.sipush 301, 3) := by decide +kernel
theorem dX12_init_95 : decode cX12_init 95 = .ok (.newarray .boolean, 2) := by decide +kernel
theorem dX12_init_97 : decode cX12_init 97 = .ok (.putfield 45, 3) := by decide +kernel
theorem dX12_init_100 : decode cX12_init 100 = .ok (.aload_n 0, 1) := by decide +kernel
theorem dX12_init_101 : decode cX12_init 101 = .ok (.sipush 150, 3) := by decide +kernel
theorem dX12_init_104 : decode cX12_init 104 = .ok (.newarray .int, 2) := by decide +kernel
theorem dX12_init_106 : decode cX12_init 106 = .ok (.putfield 48, 3) := by decide +kernel
theorem dX12_init_109 : decode cX12_init 109 = .ok (.aload_n 0, 1) := by decide +kernel
theorem dX12_init_110 : decode cX12_init 110 = .ok (.bipush 69, 2) := by decide +kernel
theorem dX12_init_112 : decode cX12_init 112 = .ok (.newarray .int, 2) := by decide +kernel
theorem dX12_init_114 : decode cX12_init 114 = .ok (.putfield 51, 3) := by decide +kernel
theorem dX12_init_117 : decode cX12_init 117 = .ok (.aload_n 0, 1) := by decide +kernel
theorem dX12_init_118 : decode cX12_init 118 = .ok (.iconst 2, 1) := by decide +kernel
theorem dX12_init_119 : decode cX12_init 119 = .ok (.newarray .int, 2) := by decide +kernel
theorem dX12_init_121 : decode cX12_init 121 = .ok (.putfield 54, 3) := by decide +kernel
theorem dX12_init_124 : decode cX12_init 124 = .ok (.iconst 1, 1) := by decide +kernel
theorem dX12_init_125 : decode cX12_init 125 = .ok (.istore_n 1, 1) := by decide +kernel
theorem dX12_init_126 : decode cX12_init 126 = .ok (.iload_n 1, 1) := by decide +kernel
theorem dX12_init_127 : decode cX12_init 127 = .ok (.sipush 300, 3) := by decide +kernel
theorem dX12_init_130 : decode cX12_init 130 = .ok (.if_icmp .gt 37, 3) := by decide +kernel
theorem dX12_init_133 : decode cX12_init 133 = .ok (.iconst 2, 1) := by decide +kernel
theorem dX12_init_134 : decode cX12_init 134 = .ok (.iload_n 1, 1) := by decide +kernel
theorem dX12_init_135 : decode cX12_init 135 = .ok (.imul, 1) := by decide +kernel
theorem dX12_init_136 : decode cX12_init 136 = .ok (.istore_n 2, 1) := by decide +kernel
theorem dX12_init_137 : decode cX12_init 137 = .ok (.iload_n 2, 1) := by decide +kernel
theorem dX12_init_138 : decode cX12_init 138 = .ok (.sipush 300, 3) := by decide +kernel
theorem dX12_init_141 : decode cX12_init 141 = .ok (.if_icmp .gt 20, 3) := by decide +kernel
theorem dX12_init_144 : decode cX12_init 144 = .ok (.aload_n 0, 1) := by decide +kernel
theorem dX12_init_145 : decode cX12_init 145 = .ok (.getfield 23, 3) := by decide +kernel
theorem dX12_init_148 : decode cX12_init 148 = .ok (.iload_n 2, 1) := by decide +kernel
theorem dX12_init_149 : decode cX12_init 149 = .ok (.dup2, 1) := by decide +kernel
theorem dX12_init_150 : decode cX12_init 150 = .ok (.iaload, 1) := by decide +kernel
theorem dX12_init_151 : decode cX12_init 151 = .ok (.iload_n 1, 1) := by decide +kernel
theorem dX12_init_152 : decode cX12_init 152 = .ok (.iadd, 1) := by decide +kernel
theorem dX12_init_153 : decode cX12_init 153 = .ok (.iastore, 1) := by decide +kernel
theorem dX12_init_154 : decode cX12_init 154 = .ok (.iload_n 2, 1) := by decide +kernel
theorem dX12_init_155 : decode cX12_init 155 = .ok (.iload_n 1, 1) := by decide +kernel
theorem dX12_init_156 : decode cX12_init 156 = .ok (.iadd, 1) := by decide +kernel
theorem dX12_init_157 : decode cX12_init 157 = .ok (.istore_n 2, 1) := by decide +kernel
theorem dX12_init_158 : decode cX12_init 158 = .ok (.goto (-21), 3) := by decide +kernel
theorem dX12_init_161 : decode cX12_init 161 = .ok (.iinc 1 1, 3) := by decide +kernel
theorem dX12_init_164 : decode cX12_init 164 = .ok (.goto (-38), 3) := by decide +kernel
theorem dX12_init_167 : decode cX12_init 167 = .ok (.return_, 1) := by decide +kernel
theorem dX12_in_0 : decode cX12_in 0 = .ok (.lload_n 0, 1) := by decide +kernel
theorem dX12_in_1 : decode cX12_in 1 = .ok (.lload_n 2, 1) := by decide +kernel
theorem dX12_in_2 : decode cX12_in 2 = .ok (.lcmp, 1) := by decide +kernel
theorem dX12_in_3 : decode cX12_in 3 = .ok (.ifCond .lt 14, 3) := by decide +kernel
theorem dX12_in_6 : decode cX12_in 6 = .ok (.lload_n 0, 1) := by decide +kernel
theorem dX12_in_7 : decode cX12_in 7 = .ok (.lload 4, 2) := by decide +kernel
theorem dX12_in_9 : decode cX12_in 9 = .ok (.lcmp, 1) := by decide +kernel
theorem dX12_in_10 : decode cX12_in 10 = .ok (.ifCond .gt 7, 3) := by decide +kernel
theorem dX12_in_13 : decode cX12_in 13 = .ok (.iconst 1, 1) := by decide +kernel
theorem dX12_in_14 : decode cX12_in 14 = .ok (.goto 4, 3) := by decide +kernel
theorem dX12_in_17 : decode cX12_in 17 = .ok (.iconst 0, 1) := by decide +kernel
theorem dX12_in_18 : decode cX12_in 18 = .ok (.ireturn, 1) := by decide +kernel
theorem dX12_bad_0 : decode cX12_bad 0 = .ok (.aload_n 0, 1) := by decide +kernel
theorem dX12_bad_1 : decode cX12_bad 1 = .ok (.getfield 20, 3) := by decide +kernel
theorem dX12_bad_4 : decode cX12_bad 4 = .ok (.iconst 0, 1) := by decide +kernel
theorem dX12_bad_5 : decode cX12_bad 5 = .ok (.dup2, 1) := by decide +kernel
theorem dX12_bad_6 : decode cX12_bad 6 = .ok (.iaload, 1) := by decide +kernel
theorem dX12_bad_7 : decode cX12_bad 7 = .ok (.iconst 1, 1) := by decide +kernel
theorem dX12_bad_8 : decode cX12_bad 8 = .ok (.iadd, 1) := by decide +kernel
theorem dX12_bad_9 : decode cX12_bad 9 = .ok (.iastore, 1) := by decide +kernel
theorem dX12_bad_10 : decode cX12_bad 10 = .ok (.iload_n 1, 1) := by decide +kernel
theorem dX12_bad_11 : decode cX12_bad 11 = .ok (.ireturn, 1) := by decide +kernel
theorem dX12_no_0 : decode cX12_no 0 = .ok (.aload_n 0, 1) := by decide +kernel
theorem dX12_no_1 : decode cX12_no 1 = .ok (.getfield 20, 3) := by decide +kernel
theorem dX12_no_4 : decode cX12_no 4 = .ok (.iconst 1, 1) := by decide +kernel
theorem dX12_no_5 : decode cX12_no 5 = .ok (.dup2, 1) := by decide +kernel
theorem dX12_no_6 : decode cX12_no 6 = .ok (.iaload, 1) := by decide +kernel
theorem dX12_no_7 : decode cX12_no 7 = .ok (.iconst 1, 1) := by decide +kernel
theorem dX12_no_8 : decode cX12_no 8 = .ok (.iadd, 1) := by decide +kernel
theorem dX12_no_9 : decode cX12_no 9 = .ok (.iastore, 1) := by decide +kernel
theorem dX12_no_10 : decode cX12_no 10 = .ok (.bipush (-3), 2) := by decide +kernel
theorem dX12_no_12 : decode cX12_no 12 = .ok (.ireturn, 1) := by decide +kernel
theorem dX12_full_0 : decode cX12_full 0 = .ok (.aload_n 0, 1) := by decide +kernel
theorem dX12_full_1 : decode cX12_full 1 = .ok (.getfield 20, 3) := by decide +kernel
theorem dX12_full_4 : decode cX12_full 4 = .ok (.iconst 2, 1) := by decide +kernel
theorem dX12_full_5 : decode cX12_full 5 = .ok (.dup2, 1) := by decide +kernel
theorem dX12_full_6 : decode cX12_full 6 = .ok (.iaload, 1) := by decide +kernel
theorem dX12_full_7 : decode cX12_full 7 = .ok (.iconst 1, 1) := by decide +kernel
theorem dX12_full_8 : decode cX12_full 8 = .ok (.iadd, 1) := by decide +kernel
theorem dX12_full_9 : decode cX12_full 9 = .ok (.iastore, 1) := by decide +kernel
theorem dX12_full_10 : decode cX12_full 10 = .ok (.bipush (-4), 2) := by decide +kernel
theorem dX12_full_12 : decode cX12_full 12 = .ok (.ireturn, 1) := by decide +kernel
theorem dX12_bits_0 : decode cX12_bits 0 = .ok (.iconst 0, 1) := by decide +kernel
theorem dX12_bits_1 : decode cX12_bits 1 = .ok (.istore_n 1, 1) := by decide +kernel
theorem dX12_bits_2 : decode cX12_bits 2 = .ok (.iload_n 0, 1) := by decide +kernel
theorem dX12_bits_3 : decode cX12_bits 3 = .ok (.istore_n 2, 1) := by decide +kernel
theorem dX12_bits_4 : decode cX12_bits 4 = .ok (.iload_n 2, 1) := by decide +kernel
theorem dX12_bits_5 : decode cX12_bits 5 = .ok (.ifCond .le 16, 3) := by decide +kernel
theorem dX12_bits_8 : decode cX12_bits 8 = .ok (.iload_n 1, 1) := by decide +kernel
theorem dX12_bits_9 : decode cX12_bits 9 = .ok (.iload_n 2, 1) := by decide +kernel
theorem dX12_bits_10 : decode cX12_bits 10 = .ok (.iconst 1, 1) := by decide +kernel
theorem dX12_bits_11 : decode cX12_bits 11 = .ok (.iand, 1) := by decide +kernel
theorem dX12_bits_12 : decode cX12_bits 12 = .ok (.iadd, 1) := by decide +kernel
theorem dX12_bits_13 : decode cX12_bits 13 = .ok (.istore_n 1, 1) := by decide +kernel
theorem dX12_bits_14 : decode cX12_bits 14 = .ok (.iload_n 2, 1) := by decide +kernel
theorem dX12_bits_15 : decode cX12_bits 15 = .ok (.iconst 1, 1) := by decide +kernel
theorem dX12_bits_16 : decode cX12_bits 16 = .ok (.ishr, 1) := by decide +kernel
theorem dX12_bits_17 : decode cX12_bits 17 = .ok (.istore_n 2, 1) := by decide +kernel
theorem dX12_bits_18 : decode cX12_bits 18 = .ok (.goto (-14), 3) := by decide +kernel
theorem dX12_bits_21 : decode cX12_bits 21 = .ok (.iload_n 1, 1) := by decide +kernel
theorem dX12_bits_22 : decode cX12_bits 22 = .ok (.ireturn, 1) := by decide +kernel
theorem dX12_isHouse_0 : decode cX12_isHouse 0 = .ok (.iload_n 0, 1) := by decide +kernel
theorem dX12_isHouse_1 : decode cX12_isHouse 1 = .ok (.i2l, 1) := by decide +kernel
theorem dX12_isHouse_2 : decode cX12_isHouse 2 = .ok (.lconst 0, 1) := by decide +kernel
theorem dX12_isHouse_3 : decode cX12_isHouse 3 = .ok (.ldc2_w 57, 3) := by decide +kernel
theorem dX12_isHouse_6 : decode cX12_isHouse 6 = .ok (.invokestatic 59, 3) := by decide +kernel
theorem dX12_isHouse_9 : decode cX12_isHouse 9 = .ok (.ireturn, 1) := by decide +kernel
theorem dX12_isNumber_0 : decode cX12_isNumber 0 = .ok (.iload_n 0, 1) := by decide +kernel
theorem dX12_isNumber_1 : decode cX12_isNumber 1 = .ok (.i2l, 1) := by decide +kernel
theorem dX12_isNumber_2 : decode cX12_isNumber 2 = .ok (.lconst 1, 1) := by decide +kernel
theorem dX12_isNumber_3 : decode cX12_isNumber 3 = .ok (.ldc2_w 63, 3) := by decide +kernel
theorem dX12_isNumber_6 : decode cX12_isNumber 6 = .ok (.invokestatic 59, 3) := by decide +kernel
theorem dX12_isNumber_9 : decode cX12_isNumber 9 = .ok (.ireturn, 1) := by decide +kernel
theorem dX12_isLaw_0 : decode cX12_isLaw 0 = .ok (.iload_n 0, 1) := by decide +kernel
theorem dX12_isLaw_1 : decode cX12_isLaw 1 = .ok (.i2l, 1) := by decide +kernel
theorem dX12_isLaw_2 : decode cX12_isLaw 2 = .ok (.lconst 0, 1) := by decide +kernel
theorem dX12_isLaw_3 : decode cX12_isLaw 3 = .ok (.ldc2_w 65, 3) := by decide +kernel
theorem dX12_isLaw_6 : decode cX12_isLaw 6 = .ok (.invokestatic 59, 3) := by decide +kernel
theorem dX12_isLaw_9 : decode cX12_isLaw 9 = .ok (.ifCond .eq 19, 3) := by decide +kernel
theorem dX12_isLaw_12 : decode cX12_isLaw 12 = .ok (.iload_n 1, 1) := by decide +kernel
theorem dX12_isLaw_13 : decode cX12_isLaw 13 = .ok (.i2l, 1) := by decide +kernel
theorem dX12_isLaw_14 : decode cX12_isLaw 14 = .ok (.lconst 0, 1) := by decide +kernel
theorem dX12_isLaw_15 : decode cX12_isLaw 15 = .ok (.ldc2_w 67, 3) := by decide +kernel
theorem dX12_isLaw_18 : decode cX12_isLaw 18 = .ok (.invokestatic 59, 3) := by decide +kernel
theorem dX12_isLaw_21 : decode cX12_isLaw 21 = .ok (.ifCond .eq 7, 3) := by decide +kernel
theorem dX12_isLaw_24 : decode cX12_isLaw 24 = .ok (.iconst 1, 1) := by decide +kernel
theorem dX12_isLaw_25 : decode cX12_isLaw 25 = .ok (.goto 4, 3) := by decide +kernel
theorem dX12_isLaw_28 : decode cX12_isLaw 28 = .ok (.iconst 0, 1) := by decide +kernel
theorem dX12_isLaw_29 : decode cX12_isLaw 29 = .ok (.ireturn, 1) := by decide +kernel
theorem dX12_divides_0 : decode cX12_divides 0 = .ok (.iload_n 1, 1) := by decide +kernel
theorem dX12_divides_1 : decode cX12_divides 1 = .ok (.iload_n 0, 1) := by decide +kernel
theorem dX12_divides_2 : decode cX12_divides 2 = .ok (.irem, 1) := by decide +kernel
theorem dX12_divides_3 : decode cX12_divides 3 = .ok (.ifCond .ne 7, 3) := by decide +kernel
theorem dX12_divides_6 : decode cX12_divides 6 = .ok (.iconst 1, 1) := by decide +kernel
theorem dX12_divides_7 : decode cX12_divides 7 = .ok (.goto 4, 3) := by decide +kernel
theorem dX12_divides_10 : decode cX12_divides 10 = .ok (.iconst 0, 1) := by decide +kernel
theorem dX12_divides_11 : decode cX12_divides 11 = .ok (.ireturn, 1) := by decide +kernel
theorem dX12_isSquare_0 : decode cX12_isSquare 0 = .ok (.iconst 1, 1) := by decide +kernel
theorem dX12_isSquare_1 : decode cX12_isSquare 1 = .ok (.istore_n 1, 1) := by decide +kernel
theorem dX12_isSquare_2 : decode cX12_isSquare 2 = .ok (.iload_n 1, 1) := by decide +kernel
theorem dX12_isSquare_3 : decode cX12_isSquare 3 = .ok (.iload_n 1, 1) := by decide +kernel
theorem dX12_isSquare_4 : decode cX12_isSquare 4 = .ok (.imul, 1) := by decide +kernel
theorem dX12_isSquare_5 : decode cX12_isSquare 5 = .ok (.iload_n 0, 1) := by decide +kernel
theorem dX12_isSquare_6 : decode cX12_isSquare 6 = .ok (.if_icmp .ge 9, 3) := by decide +kernel
theorem dX12_isSquare_9 : decode cX12_isSquare 9 = .ok (.iinc 1 1, 3) := by decide +kernel
theorem dX12_isSquare_12 : decode cX12_isSquare 12 = .ok (.goto (-10), 3) := by decide +kernel
theorem dX12_isSquare_15 : decode cX12_isSquare 15 = .ok (.iload_n 1, 1) := by decide +kernel
theorem dX12_isSquare_16 : decode cX12_isSquare 16 = .ok (.iload_n 1, 1) := by decide +kernel
theorem dX12_isSquare_17 : decode cX12_isSquare 17 = .ok (.imul, 1) := by decide +kernel
theorem dX12_isSquare_18 : decode cX12_isSquare 18 = .ok (.iload_n 0, 1) := by decide +kernel
theorem dX12_isSquare_19 : decode cX12_isSquare 19 = .ok (.if_icmp .ne 7, 3) := by decide +kernel
theorem dX12_isSquare_22 : decode cX12_isSquare 22 = .ok (.iconst 1, 1) := by decide +kernel
theorem dX12_isSquare_23 : decode cX12_isSquare 23 = .ok (.goto 4, 3) := by decide +kernel
theorem dX12_isSquare_26 : decode cX12_isSquare 26 = .ok (.iconst 0, 1) := by decide +kernel
theorem dX12_isSquare_27 : decode cX12_isSquare 27 = .ok (.ireturn, 1) := by decide +kernel
theorem dX12_isPrime_0 : decode cX12_isPrime 0 = .ok (.aload_n 0, 1) := by decide +kernel
theorem dX12_isPrime_1 : decode cX12_isPrime 1 = .ok (.getfield 23, 3) := by decide +kernel
theorem dX12_isPrime_4 : decode cX12_isPrime 4 = .ok (.iload_n 1, 1) := by decide +kernel
theorem dX12_isPrime_5 : decode cX12_isPrime 5 = .ok (.iaload, 1) := by decide +kernel
theorem dX12_isPrime_6 : decode cX12_isPrime 6 = .ok (.iconst 1, 1) := by decide +kernel
theorem dX12_isPrime_7 : decode cX12_isPrime 7 = .ok (.if_icmp .ne 7, 3) := by decide +kernel
theorem dX12_isPrime_10 : decode cX12_isPrime 10 = .ok (.iconst 1, 1) := by decide +kernel
theorem dX12_isPrime_11 : decode cX12_isPrime 11 = .ok (.goto 4, 3) := by decide +kernel
theorem dX12_isPrime_14 : decode cX12_isPrime 14 = .ok (.iconst 0, 1) := by decide +kernel
theorem dX12_isPrime_15 : decode cX12_isPrime 15 = .ok (.ireturn, 1) := by decide +kernel
theorem dX12_mayBy_0 : decode cX12_mayBy 0 = .ok (.iload_n 3, 1) := by decide +kernel
theorem dX12_mayBy_1 : decode cX12_mayBy 1 = .ok (.iload 4, 2) := by decide +kernel
theorem dX12_mayBy_3 : decode cX12_mayBy 3 = .ok (.if_icmp .eq 21, 3) := by decide +kernel
theorem dX12_mayBy_6 : decode cX12_mayBy 6 = .ok (.iload_n 3, 1) := by decide +kernel
theorem dX12_mayBy_7 : decode cX12_mayBy 7 = .ok (.iload 4, 2) := by decide +kernel
theorem dX12_mayBy_9 : decode cX12_mayBy 9 = .ok (.invokestatic 69, 3) := by decide +kernel
theorem dX12_mayBy_12 : decode cX12_mayBy 12 = .ok (.ifCond .ne 16, 3) := by decide +kernel
theorem dX12_mayBy_15 : decode cX12_mayBy 15 = .ok (.iload 4, 2) := by decide +kernel
theorem dX12_mayBy_17 : decode cX12_mayBy 17 = .ok (.iload_n 3, 1) := by decide +kernel
theorem dX12_mayBy_18 : decode cX12_mayBy 18 = .ok (.invokestatic 69, 3) := by decide +kernel
theorem dX12_mayBy_21 : decode cX12_mayBy 21 = .ok (.ifCond .ne 7, 3) := by decide +kernel
theorem dX12_mayBy_24 : decode cX12_mayBy 24 = .ok (.iconst 1, 1) := by decide +kernel
theorem dX12_mayBy_25 : decode cX12_mayBy 25 = .ok (.goto 4, 3) := by decide +kernel
theorem dX12_mayBy_28 : decode cX12_mayBy 28 = .ok (.iconst 0, 1) := by decide +kernel
theorem dX12_mayBy_29 : decode cX12_mayBy 29 = .ok (.istore 5, 2) := by decide +kernel
theorem dX12_mayBy_31 : decode cX12_mayBy 31 = .ok (.iload 5, 2) := by decide +kernel
theorem dX12_mayBy_33 : decode cX12_mayBy 33 = .ok (.ifCond .eq 16, 3) := by decide +kernel
theorem dX12_mayBy_36 : decode cX12_mayBy 36 = .ok (.iload_n 3, 1) := by decide +kernel
theorem dX12_mayBy_37 : decode cX12_mayBy 37 = .ok (.iload 4, 2) := by decide +kernel
theorem dX12_mayBy_39 : decode cX12_mayBy 39 = .ok (.isub, 1) := by decide +kernel
theorem dX12_mayBy_40 : decode cX12_mayBy 40 = .ok (.iconst 2, 1) := by decide +kernel
theorem dX12_mayBy_41 : decode cX12_mayBy 41 = .ok (.irem, 1) := by decide +kernel
theorem dX12_mayBy_42 : decode cX12_mayBy 42 = .ok (.ifCond .ne 7, 3) := by decide +kernel
theorem dX12_mayBy_45 : decode cX12_mayBy 45 = .ok (.iconst 1, 1) := by decide +kernel
theorem dX12_mayBy_46 : decode cX12_mayBy 46 = .ok (.goto 4, 3) := by decide +kernel
theorem dX12_mayBy_49 : decode cX12_mayBy 49 = .ok (.iconst 0, 1) := by decide +kernel
theorem dX12_mayBy_50 : decode cX12_mayBy 50 = .ok (.istore 6, 2) := by decide +kernel
theorem dX12_mayBy_52 : decode cX12_mayBy 52 = .ok (.iload 5, 2) := by decide +kernel
theorem dX12_mayBy_54 : decode cX12_mayBy 54 = .ok (.ifCond .eq 24, 3) := by decide +kernel
theorem dX12_mayBy_57 : decode cX12_mayBy 57 = .ok (.aload_n 0, 1) := by decide +kernel
theorem dX12_mayBy_58 : decode cX12_mayBy 58 = .ok (.iload_n 3, 1) := by decide +kernel
theorem dX12_mayBy_59 : decode cX12_mayBy 59 = .ok (.invokevirtual 73, 3) := by decide +kernel
theorem dX12_mayBy_62 : decode cX12_mayBy 62 = .ok (.ifCond .ne 16, 3) := by decide +kernel
theorem dX12_mayBy_65 : decode cX12_mayBy 65 = .ok (.aload_n 0, 1) := by decide +kernel
theorem dX12_mayBy_66 : decode cX12_mayBy 66 = .ok (.iload 4, 2) := by decide +kernel
theorem dX12_mayBy_68 : decode cX12_mayBy 68 = .ok (.invokevirtual 73, 3) := by decide +kernel
theorem dX12_mayBy_71 : decode cX12_mayBy 71 = .ok (.ifCond .ne 7, 3) := by decide +kernel
theorem dX12_mayBy_74 : decode cX12_mayBy 74 = .ok (.iconst 1, 1) := by decide +kernel
theorem dX12_mayBy_75 : decode cX12_mayBy 75 = .ok (.goto 4, 3) := by decide +kernel
theorem dX12_mayBy_78 : decode cX12_mayBy 78 = .ok (.iconst 0, 1) := by decide +kernel
theorem dX12_mayBy_79 : decode cX12_mayBy 79 = .ok (.istore 7, 2) := by decide +kernel
theorem dX12_mayBy_81 : decode cX12_mayBy 81 = .ok (.iload_n 1, 1) := by decide +kernel
theorem dX12_mayBy_82 : decode cX12_mayBy 82 = .ok (.tableswitch 126 1 5 #[34, 37, 40, 66, 93], 34) := by decide +kernel
theorem dX12_mayBy_116 : decode cX12_mayBy 116 = .ok (.iload 6, 2) := by decide +kernel
theorem dX12_mayBy_118 : decode cX12_mayBy 118 = .ok (.ireturn, 1) := by decide +kernel
theorem dX12_mayBy_119 : decode cX12_mayBy 119 = .ok (.iload 7, 2) := by decide +kernel
theorem dX12_mayBy_121 : decode cX12_mayBy 121 = .ok (.ireturn, 1) := by decide +kernel
theorem dX12_mayBy_122 : decode cX12_mayBy 122 = .ok (.iload 6, 2) := by decide +kernel
theorem dX12_mayBy_124 : decode cX12_mayBy 124 = .ok (.ifCond .ne 18, 3) := by decide +kernel
theorem dX12_mayBy_127 : decode cX12_mayBy 127 = .ok (.iload_n 3, 1) := by decide +kernel
theorem dX12_mayBy_128 : decode cX12_mayBy 128 = .ok (.invokestatic 77, 3) := by decide +kernel
theorem dX12_mayBy_131 : decode cX12_mayBy 131 = .ok (.ifCond .eq 15, 3) := by decide +kernel
theorem dX12_mayBy_134 : decode cX12_mayBy 134 = .ok (.iload 4, 2) := by decide +kernel
theorem dX12_mayBy_136 : decode cX12_mayBy 136 = .ok (.invokestatic 77, 3) := by decide +kernel
theorem dX12_mayBy_139 : decode cX12_mayBy 139 = .ok (.ifCond .eq 7, 3) := by decide +kernel
theorem dX12_mayBy_142 : decode cX12_mayBy 142 = .ok (.iconst 1, 1) := by decide +kernel
theorem dX12_mayBy_143 : decode cX12_mayBy 143 = .ok (.goto 4, 3) := by decide +kernel
theorem dX12_mayBy_146 : decode cX12_mayBy 146 = .ok (.iconst 0, 1) := by decide +kernel
theorem dX12_mayBy_147 : decode cX12_mayBy 147 = .ok (.ireturn, 1) := by decide +kernel
theorem dX12_mayBy_148 : decode cX12_mayBy 148 = .ok (.iload 5, 2) := by decide +kernel
theorem dX12_mayBy_150 : decode cX12_mayBy 150 = .ok (.ifCond .eq 23, 3) := by decide +kernel
theorem dX12_mayBy_153 : decode cX12_mayBy 153 = .ok (.iload_n 3, 1) := by decide +kernel
theorem dX12_mayBy_154 : decode cX12_mayBy 154 = .ok (.iload 4, 2) := by decide +kernel
theorem dX12_mayBy_156 : decode cX12_mayBy 156 = .ok (.isub, 1) := by decide +kernel
theorem dX12_mayBy_157 : decode cX12_mayBy 157 = .ok (.iload_n 2, 1) := by decide +kernel
theorem dX12_mayBy_158 : decode cX12_mayBy 158 = .ok (.if_icmp .ge 11, 3) := by decide +kernel
theorem dX12_mayBy_161 : decode cX12_mayBy 161 = .ok (.iload 4, 2) := by decide +kernel
theorem dX12_mayBy_163 : decode cX12_mayBy 163 = .ok (.iload_n 3, 1) := by decide +kernel
theorem dX12_mayBy_164 : decode cX12_mayBy 164 = .ok (.isub, 1) := by decide +kernel
theorem dX12_mayBy_165 : decode cX12_mayBy 165 = .ok (.iload_n 2, 1) := by decide +kernel
theorem dX12_mayBy_166 : decode cX12_mayBy 166 = .ok (.if_icmp .lt 7, 3) := by decide +kernel
theorem dX12_mayBy_169 : decode cX12_mayBy 169 = .ok (.iconst 1, 1) := by decide +kernel
theorem dX12_mayBy_170 : decode cX12_mayBy 170 = .ok (.goto 4, 3) := by decide +kernel
theorem dX12_mayBy_173 : decode cX12_mayBy 173 = .ok (.iconst 0, 1) := by decide +kernel
theorem dX12_mayBy_174 : decode cX12_mayBy 174 = .ok (.ireturn, 1) := by decide +kernel
theorem dX12_mayBy_175 : decode cX12_mayBy 175 = .ok (.iload 7, 2) := by decide +kernel
theorem dX12_mayBy_177 : decode cX12_mayBy 177 = .ok (.ifCond .ne 25, 3) := by decide +kernel
theorem dX12_mayBy_180 : decode cX12_mayBy 180 = .ok (.aload_n 0, 1) := by decide +kernel
theorem dX12_mayBy_181 : decode cX12_mayBy 181 = .ok (.getfield 23, 3) := by decide +kernel
theorem dX12_mayBy_184 : decode cX12_mayBy 184 = .ok (.iload_n 3, 1) := by decide +kernel
theorem dX12_mayBy_185 : decode cX12_mayBy 185 = .ok (.iaload, 1) := by decide +kernel
theorem dX12_mayBy_186 : decode cX12_mayBy 186 = .ok (.iload 4, 2) := by decide +kernel
theorem dX12_mayBy_188 : decode cX12_mayBy 188 = .ok (.if_icmp .ne 18, 3) := by decide +kernel
theorem dX12_mayBy_191 : decode cX12_mayBy 191 = .ok (.aload_n 0, 1) := by decide +kernel
theorem dX12_mayBy_192 : decode cX12_mayBy 192 = .ok (.getfield 23, 3) := by decide +kernel
theorem dX12_mayBy_195 : decode cX12_mayBy 195 = .ok (.iload 4, 2) := by decide +kernel
theorem dX12_mayBy_197 : decode cX12_mayBy 197 = .ok (.iaload, 1) := by decide +kernel
theorem dX12_mayBy_198 : decode cX12_mayBy 198 = .ok (.iload_n 3, 1) := by decide +kernel
theorem dX12_mayBy_199 : decode cX12_mayBy 199 = .ok (.if_icmp .ne 7, 3) := by decide +kernel
theorem dX12_mayBy_202 : decode cX12_mayBy 202 = .ok (.iconst 1, 1) := by decide +kernel
theorem dX12_mayBy_203 : decode cX12_mayBy 203 = .ok (.goto 4, 3) := by decide +kernel
theorem dX12_mayBy_206 : decode cX12_mayBy 206 = .ok (.iconst 0, 1) := by decide +kernel
theorem dX12_mayBy_207 : decode cX12_mayBy 207 = .ok (.ireturn, 1) := by decide +kernel
theorem dX12_mayBy_208 : decode cX12_mayBy 208 = .ok (.iload 5, 2) := by decide +kernel
theorem dX12_mayBy_210 : decode cX12_mayBy 210 = .ok (.ireturn, 1) := by decide +kernel
theorem dX12_mayNow_0 : decode cX12_mayNow 0 = .ok (.aload_n 0, 1) := by decide +kernel
theorem dX12_mayNow_1 : decode cX12_mayNow 1 = .ok (.aload_n 0, 1) := by decide +kernel
theorem dX12_mayNow_2 : decode cX12_mayNow 2 = .ok (.getfield 7, 3) := by decide +kernel
theorem dX12_mayNow_5 : decode cX12_mayNow 5 = .ok (.bipush 8, 2) := by decide +kernel
theorem dX12_mayNow_7 : decode cX12_mayNow 7 = .ok (.iaload, 1) := by decide +kernel
theorem dX12_mayNow_8 : decode cX12_mayNow 8 = .ok (.aload_n 0, 1) := by decide +kernel
theorem dX12_mayNow_9 : decode cX12_mayNow 9 = .ok (.getfield 7, 3) := by decide +kernel
theorem dX12_mayNow_12 : decode cX12_mayNow 12 = .ok (.bipush 9, 2) := by decide +kernel
theorem dX12_mayNow_14 : decode cX12_mayNow 14 = .ok (.iaload, 1) := by decide +kernel
theorem dX12_mayNow_15 : decode cX12_mayNow 15 = .ok (.iload_n 1, 1) := by decide +kernel
theorem dX12_mayNow_16 : decode cX12_mayNow 16 = .ok (.iload_n 2, 1) := by decide +kernel
theorem dX12_mayNow_17 : decode cX12_mayNow 17 = .ok (.invokevirtual 80, 3) := by decide +kernel
theorem dX12_mayNow_20 : decode cX12_mayNow 20 = .ok (.ireturn, 1) := by decide +kernel
theorem dX12_begin_0 : decode cX12_begin 0 = .ok (.iconst 0, 1) := by decide +kernel
theorem dX12_begin_1 : decode cX12_begin 1 = .ok (.istore_n 3, 1) := by decide +kernel
theorem dX12_begin_2 : decode cX12_begin 2 = .ok (.iload_n 3, 1) := by decide +kernel
theorem dX12_begin_3 : decode cX12_begin 3 = .ok (.bipush 69, 2) := by decide +kernel
theorem dX12_begin_5 : decode cX12_begin 5 = .ok (.if_icmp .ge 13, 3) := by decide +kernel
theorem dX12_begin_8 : decode cX12_begin 8 = .ok (.aload_n 0, 1) := by decide +kernel
theorem dX12_begin_9 : decode cX12_begin 9 = .ok (.iload_n 3, 1) := by decide +kernel
theorem dX12_begin_10 : decode cX12_begin 10 = .ok (.iconst 0, 1) := by decide +kernel
theorem dX12_begin_11 : decode cX12_begin 11 = .ok (.iastore, 1) := by decide +kernel
theorem dX12_begin_12 : decode cX12_begin 12 = .ok (.iinc 3 1, 3) := by decide +kernel
theorem dX12_begin_15 : decode cX12_begin 15 = .ok (.goto (-13), 3) := by decide +kernel
theorem dX12_begin_18 : decode cX12_begin 18 = .ok (.aload_n 0, 1) := by decide +kernel
theorem dX12_begin_19 : decode cX12_begin 19 = .ok (.bipush 8, 2) := by decide +kernel
theorem dX12_begin_21 : decode cX12_begin 21 = .ok (.iload_n 1, 1) := by decide +kernel
theorem dX12_begin_22 : decode cX12_begin 22 = .ok (.iastore, 1) := by decide +kernel
theorem dX12_begin_23 : decode cX12_begin 23 = .ok (.aload_n 0, 1) := by decide +kernel
theorem dX12_begin_24 : decode cX12_begin 24 = .ok (.bipush 9, 2) := by decide +kernel
theorem dX12_begin_26 : decode cX12_begin 26 = .ok (.iload_n 2, 1) := by decide +kernel
theorem dX12_begin_27 : decode cX12_begin 27 = .ok (.iastore, 1) := by decide +kernel
theorem dX12_begin_28 : decode cX12_begin 28 = .ok (.return_, 1) := by decide +kernel
theorem dX12_lived_0 : decode cX12_lived 0 = .ok (.iconst 0, 1) := by decide +kernel
theorem dX12_lived_1 : decode cX12_lived 1 = .ok (.istore_n 1, 1) := by decide +kernel
theorem dX12_lived_2 : decode cX12_lived 2 = .ok (.iconst 0, 1) := by decide +kernel
theorem dX12_lived_3 : decode cX12_lived 3 = .ok (.istore_n 2, 1) := by decide +kernel
theorem dX12_lived_4 : decode cX12_lived 4 = .ok (.iload_n 2, 1) := by decide +kernel
theorem dX12_lived_5 : decode cX12_lived 5 = .ok (.bipush 8, 2) := by decide +kernel
theorem dX12_lived_7 : decode cX12_lived 7 = .ok (.if_icmp .ge 28, 3) := by decide +kernel
theorem dX12_lived_10 : decode cX12_lived 10 = .ok (.iload_n 1, 1) := by decide +kernel
theorem dX12_lived_11 : decode cX12_lived 11 = .ok (.aload_n 0, 1) := by decide +kernel
theorem dX12_lived_12 : decode cX12_lived 12 = .ok (.getfield 7, 3) := by decide +kernel
theorem dX12_lived_15 : decode cX12_lived 15 = .ok (.iload_n 2, 1) := by decide +kernel
theorem dX12_lived_16 : decode cX12_lived 16 = .ok (.iaload, 1) := by decide +kernel
theorem dX12_lived_17 : decode cX12_lived 17 = .ok (.ifCond .le 9, 3) := by decide +kernel
theorem dX12_lived_20 : decode cX12_lived 20 = .ok (.iconst 1, 1) := by decide +kernel
theorem dX12_lived_21 : decode cX12_lived 21 = .ok (.iload_n 2, 1) := by decide +kernel
theorem dX12_lived_22 : decode cX12_lived 22 = .ok (.ishl, 1) := by decide +kernel
theorem dX12_lived_23 : decode cX12_lived 23 = .ok (.goto 4, 3) := by decide +kernel
theorem dX12_lived_26 : decode cX12_lived 26 = .ok (.iconst 0, 1) := by decide +kernel
theorem dX12_lived_27 : decode cX12_lived 27 = .ok (.ior, 1) := by decide +kernel
theorem dX12_lived_28 : decode cX12_lived 28 = .ok (.istore_n 1, 1) := by decide +kernel
theorem dX12_lived_29 : decode cX12_lived 29 = .ok (.iinc 2 1, 3) := by decide +kernel
theorem dX12_lived_32 : decode cX12_lived 32 = .ok (.goto (-28), 3) := by decide +kernel
theorem dX12_lived_35 : decode cX12_lived 35 = .ok (.iload_n 1, 1) := by decide +kernel
theorem dX12_lived_36 : decode cX12_lived 36 = .ok (.ireturn, 1) := by decide +kernel
theorem dX12_law_0 : decode cX12_law 0 = .ok (.bipush 10, 2) := by decide +kernel
theorem dX12_law_2 : decode cX12_law 2 = .ok (.aload_n 0, 1) := by decide +kernel
theorem dX12_law_3 : decode cX12_law 3 = .ok (.getfield 7, 3) := by decide +kernel
theorem dX12_law_6 : decode cX12_law 6 = .ok (.bipush 8, 2) := by decide +kernel
theorem dX12_law_8 : decode cX12_law 8 = .ok (.iaload, 1) := by decide +kernel
theorem dX12_law_9 : decode cX12_law 9 = .ok (.imul, 1) := by decide +kernel
theorem dX12_law_10 : decode cX12_law 10 = .ok (.aload_n 0, 1) := by decide +kernel
theorem dX12_law_11 : decode cX12_law 11 = .ok (.getfield 7, 3) := by decide +kernel
theorem dX12_law_14 : decode cX12_law 14 = .ok (.bipush 9, 2) := by decide +kernel
theorem dX12_law_16 : decode cX12_law 16 = .ok (.iaload, 1) := by decide +kernel
theorem dX12_law_17 : decode cX12_law 17 = .ok (.iadd, 1) := by decide +kernel
theorem dX12_law_18 : decode cX12_law 18 = .ok (.ireturn, 1) := by decide +kernel
theorem dX12_keep_0 : decode cX12_keep 0 = .ok (.aload_n 0, 1) := by decide +kernel
theorem dX12_keep_1 : decode cX12_keep 1 = .ok (.getfield 7, 3) := by decide +kernel
theorem dX12_keep_4 : decode cX12_keep 4 = .ok (.bipush 12, 2) := by decide +kernel
theorem dX12_keep_6 : decode cX12_keep 6 = .ok (.iaload, 1) := by decide +kernel
theorem dX12_keep_7 : decode cX12_keep 7 = .ok (.bipush 8, 2) := by decide +kernel
theorem dX12_keep_9 : decode cX12_keep 9 = .ok (.if_icmp .ne 44, 3) := by decide +kernel
theorem dX12_keep_12 : decode cX12_keep 12 = .ok (.iconst 0, 1) := by decide +kernel
theorem dX12_keep_13 : decode cX12_keep 13 = .ok (.istore_n 1, 1) := by decide +kernel
theorem dX12_keep_14 : decode cX12_keep 14 = .ok (.iload_n 1, 1) := by decide +kernel
theorem dX12_keep_15 : decode cX12_keep 15 = .ok (.bipush 70, 2) := by decide +kernel
theorem dX12_keep_17 : decode cX12_keep 17 = .ok (.if_icmp .ge 27, 3) := by decide +kernel
theorem dX12_keep_20 : decode cX12_keep 20 = .ok (.aload_n 0, 1) := by decide +kernel
theorem dX12_keep_21 : decode cX12_keep 21 = .ok (.getfield 7, 3) := by decide +kernel
theorem dX12_keep_24 : decode cX12_keep 24 = .ok (.bipush 69, 2) := by decide +kernel
theorem dX12_keep_26 : decode cX12_keep 26 = .ok (.iload_n 1, 1) := by decide +kernel
theorem dX12_keep_27 : decode cX12_keep 27 = .ok (.iadd, 1) := by decide +kernel
theorem dX12_keep_28 : decode cX12_keep 28 = .ok (.aload_n 0, 1) := by decide +kernel
theorem dX12_keep_29 : decode cX12_keep 29 = .ok (.getfield 7, 3) := by decide +kernel
theorem dX12_keep_32 : decode cX12_keep 32 = .ok (.bipush 79, 2) := by decide +kernel
theorem dX12_keep_34 : decode cX12_keep 34 = .ok (.iload_n 1, 1) := by decide +kernel
theorem dX12_keep_35 : decode cX12_keep 35 = .ok (.iadd, 1) := by decide +kernel
theorem dX12_keep_36 : decode cX12_keep 36 = .ok (.iaload, 1) := by decide +kernel
theorem dX12_keep_37 : decode cX12_keep 37 = .ok (.iastore, 1) := by decide +kernel
theorem dX12_keep_38 : decode cX12_keep 38 = .ok (.iinc 1 1, 3) := by decide +kernel
theorem dX12_keep_41 : decode cX12_keep 41 = .ok (.goto (-27), 3) := by decide +kernel
theorem dX12_keep_44 : decode cX12_keep 44 = .ok (.aload_n 0, 1) := by decide +kernel
theorem dX12_keep_45 : decode cX12_keep 45 = .ok (.getfield 7, 3) := by decide +kernel
theorem dX12_keep_48 : decode cX12_keep 48 = .ok (.bipush 12, 2) := by decide +kernel
theorem dX12_keep_50 : decode cX12_keep 50 = .ok (.bipush 7, 2) := by decide +kernel
theorem dX12_keep_52 : decode cX12_keep 52 = .ok (.iastore, 1) := by decide +kernel
theorem dX12_keep_53 : decode cX12_keep 53 = .ok (.iconst 0, 1) := by decide +kernel
theorem dX12_keep_54 : decode cX12_keep 54 = .ok (.istore_n 1, 1) := by decide +kernel
theorem dX12_keep_55 : decode cX12_keep 55 = .ok (.iload_n 1, 1) := by decide +kernel
theorem dX12_keep_56 : decode cX12_keep 56 = .ok (.bipush 10, 2) := by decide +kernel
theorem dX12_keep_58 : decode cX12_keep 58 = .ok (.if_icmp .ge 35, 3) := by decide +kernel
theorem dX12_keep_61 : decode cX12_keep 61 = .ok (.aload_n 0, 1) := by decide +kernel
theorem dX12_keep_62 : decode cX12_keep 62 = .ok (.getfield 7, 3) := by decide +kernel
theorem dX12_keep_65 : decode cX12_keep 65 = .ok (.bipush 69, 2) := by decide +kernel
theorem dX12_keep_67 : decode cX12_keep 67 = .ok (.bipush 10, 2) := by decide +kernel
theorem dX12_keep_69 : decode cX12_keep 69 = .ok (.aload_n 0, 1) := by decide +kernel
theorem dX12_keep_70 : decode cX12_keep 70 = .ok (.getfield 7, 3) := by decide +kernel
theorem dX12_keep_73 : decode cX12_keep 73 = .ok (.bipush 12, 2) := by decide +kernel
theorem dX12_keep_75 : decode cX12_keep 75 = .ok (.iaload, 1) := by decide +kernel
theorem dX12_keep_76 : decode cX12_keep 76 = .ok (.imul, 1) := by decide +kernel
theorem dX12_keep_77 : decode cX12_keep 77 = .ok (.iadd, 1) := by decide +kernel
theorem dX12_keep_78 : decode cX12_keep 78 = .ok (.iload_n 1, 1) := by decide +kernel
theorem dX12_keep_79 : decode cX12_keep 79 = .ok (.iadd, 1) := by decide +kernel
theorem dX12_keep_80 : decode cX12_keep 80 = .ok (.aload_n 0, 1) := by decide +kernel
theorem dX12_keep_81 : decode cX12_keep 81 = .ok (.getfield 7, 3) := by decide +kernel
theorem dX12_keep_84 : decode cX12_keep 84 = .ok (.iload_n 1, 1) := by decide +kernel
theorem dX12_keep_85 : decode cX12_keep 85 = .ok (.iaload, 1) := by decide +kernel
theorem dX12_keep_86 : decode cX12_keep 86 = .ok (.iastore, 1) := by decide +kernel
theorem dX12_keep_87 : decode cX12_keep 87 = .ok (.iinc 1 1, 3) := by decide +kernel
theorem dX12_keep_90 : decode cX12_keep 90 = .ok (.goto (-35), 3) := by decide +kernel
theorem dX12_keep_93 : decode cX12_keep 93 = .ok (.aload_n 0, 1) := by decide +kernel
theorem dX12_keep_94 : decode cX12_keep 94 = .ok (.getfield 7, 3) := by decide +kernel
theorem dX12_keep_97 : decode cX12_keep 97 = .ok (.bipush 12, 2) := by decide +kernel
theorem dX12_keep_99 : decode cX12_keep 99 = .ok (.dup2, 1) := by decide +kernel
theorem dX12_keep_100 : decode cX12_keep 100 = .ok (.iaload, 1) := by decide +kernel
theorem dX12_keep_101 : decode cX12_keep 101 = .ok (.iconst 1, 1) := by decide +kernel
theorem dX12_keep_102 : decode cX12_keep 102 = .ok (.iadd, 1) := by decide +kernel
theorem dX12_keep_103 : decode cX12_keep 103 = .ok (.iastore, 1) := by decide +kernel
theorem dX12_keep_104 : decode cX12_keep 104 = .ok (.return_, 1) := by decide +kernel
theorem dX12_street_0 : decode cX12_street 0 = .ok (.iload_n 1, 1) := by decide +kernel
theorem dX12_street_1 : decode cX12_street 1 = .ok (.iload_n 2, 1) := by decide +kernel
theorem dX12_street_2 : decode cX12_street 2 = .ok (.invokestatic 84, 3) := by decide +kernel
theorem dX12_street_5 : decode cX12_street 5 = .ok (.ifCond .ne 10, 3) := by decide +kernel
theorem dX12_street_8 : decode cX12_street 8 = .ok (.aload_n 0, 1) := by decide +kernel
theorem dX12_street_9 : decode cX12_street 9 = .ok (.bipush (-2), 2) := by decide +kernel
theorem dX12_street_11 : decode cX12_street 11 = .ok (.invokevirtual 87, 3) := by decide +kernel
theorem dX12_street_14 : decode cX12_street 14 = .ok (.ireturn, 1) := by decide +kernel
theorem dX12_street_15 : decode cX12_street 15 = .ok (.aload_n 0, 1) := by decide +kernel
theorem dX12_street_16 : decode cX12_street 16 = .ok (.invokevirtual 91, 3) := by decide +kernel
theorem dX12_street_19 : decode cX12_street 19 = .ok (.invokestatic 95, 3) := by decide +kernel
theorem dX12_street_22 : decode cX12_street 22 = .ok (.istore_n 3, 1) := by decide +kernel
theorem dX12_street_23 : decode cX12_street 23 = .ok (.aload_n 0, 1) := by decide +kernel
theorem dX12_street_24 : decode cX12_street 24 = .ok (.getfield 7, 3) := by decide +kernel
theorem dX12_street_27 : decode cX12_street 27 = .ok (.iload_n 1, 1) := by decide +kernel
theorem dX12_street_28 : decode cX12_street 28 = .ok (.iload_n 2, 1) := by decide +kernel
theorem dX12_street_29 : decode cX12_street 29 = .ok (.invokestatic 98, 3) := by decide +kernel
theorem dX12_street_32 : decode cX12_street 32 = .ok (.iload_n 3, 1) := by decide +kernel
theorem dX12_street_33 : decode cX12_street 33 = .ok (.ireturn, 1) := by decide +kernel
theorem dX12_rule_0 : decode cX12_rule 0 = .ok (.iload_n 1, 1) := by decide +kernel
theorem dX12_rule_1 : decode cX12_rule 1 = .ok (.iload_n 2, 1) := by decide +kernel
theorem dX12_rule_2 : decode cX12_rule 2 = .ok (.invokestatic 84, 3) := by decide +kernel
theorem dX12_rule_5 : decode cX12_rule 5 = .ok (.ifCond .ne 10, 3) := by decide +kernel
theorem dX12_rule_8 : decode cX12_rule 8 = .ok (.aload_n 0, 1) := by decide +kernel
theorem dX12_rule_9 : decode cX12_rule 9 = .ok (.bipush (-2), 2) := by decide +kernel
theorem dX12_rule_11 : decode cX12_rule 11 = .ok (.invokevirtual 87, 3) := by decide +kernel
theorem dX12_rule_14 : decode cX12_rule 14 = .ok (.ireturn, 1) := by decide +kernel
theorem dX12_rule_15 : decode cX12_rule 15 = .ok (.aload_n 0, 1) := by decide +kernel
theorem dX12_rule_16 : decode cX12_rule 16 = .ok (.invokevirtual 102, 3) := by decide +kernel
theorem dX12_rule_19 : decode cX12_rule 19 = .ok (.istore_n 3, 1) := by decide +kernel
theorem dX12_rule_20 : decode cX12_rule 20 = .ok (.aload_n 0, 1) := by decide +kernel
theorem dX12_rule_21 : decode cX12_rule 21 = .ok (.invokevirtual 105, 3) := by decide +kernel
theorem dX12_rule_24 : decode cX12_rule 24 = .ok (.aload_n 0, 1) := by decide +kernel
theorem dX12_rule_25 : decode cX12_rule 25 = .ok (.getfield 7, 3) := by decide +kernel
theorem dX12_rule_28 : decode cX12_rule 28 = .ok (.bipush 8, 2) := by decide +kernel
theorem dX12_rule_30 : decode cX12_rule 30 = .ok (.iload_n 1, 1) := by decide +kernel
theorem dX12_rule_31 : decode cX12_rule 31 = .ok (.iastore, 1) := by decide +kernel
theorem dX12_rule_32 : decode cX12_rule 32 = .ok (.aload_n 0, 1) := by decide +kernel
theorem dX12_rule_33 : decode cX12_rule 33 = .ok (.getfield 7, 3) := by decide +kernel
theorem dX12_rule_36 : decode cX12_rule 36 = .ok (.bipush 9, 2) := by decide +kernel
theorem dX12_rule_38 : decode cX12_rule 38 = .ok (.iload_n 2, 1) := by decide +kernel
theorem dX12_rule_39 : decode cX12_rule 39 = .ok (.iastore, 1) := by decide +kernel
theorem dX12_rule_40 : decode cX12_rule 40 = .ok (.iload_n 3, 1) := by decide +kernel
theorem dX12_rule_41 : decode cX12_rule 41 = .ok (.ireturn, 1) := by decide +kernel
theorem dX12_house_0 : decode cX12_house 0 = .ok (.iload_n 1, 1) := by decide +kernel
theorem dX12_house_1 : decode cX12_house 1 = .ok (.invokestatic 108, 3) := by decide +kernel
theorem dX12_house_4 : decode cX12_house 4 = .ok (.ifCond .eq 15, 3) := by decide +kernel
theorem dX12_house_7 : decode cX12_house 7 = .ok (.iload_n 2, 1) := by decide +kernel
theorem dX12_house_8 : decode cX12_house 8 = .ok (.i2l, 1) := by decide +kernel
theorem dX12_house_9 : decode cX12_house 9 = .ok (.lconst 0, 1) := by decide +kernel
theorem dX12_house_10 : decode cX12_house 10 = .ok (.ldc2_w 63, 3) := by decide +kernel
theorem dX12_house_13 : decode cX12_house 13 = .ok (.invokestatic 59, 3) := by decide +kernel
theorem dX12_house_16 : decode cX12_house 16 = .ok (.ifCond .ne 10, 3) := by decide +kernel
theorem dX12_house_19 : decode cX12_house 19 = .ok (.aload_n 0, 1) := by decide +kernel
theorem dX12_house_20 : decode cX12_house 20 = .ok (.bipush (-2), 2) := by decide +kernel
theorem dX12_house_22 : decode cX12_house 22 = .ok (.invokevirtual 87, 3) := by decide +kernel
theorem dX12_house_25 : decode cX12_house 25 = .ok (.ireturn, 1) := by decide +kernel
theorem dX12_house_26 : decode cX12_house 26 = .ok (.aload_n 0, 1) := by decide +kernel
theorem dX12_house_27 : decode cX12_house 27 = .ok (.getfield 7, 3) := by decide +kernel
theorem dX12_house_30 : decode cX12_house 30 = .ok (.iload_n 1, 1) := by decide +kernel
theorem dX12_house_31 : decode cX12_house 31 = .ok (.iaload, 1) := by decide +kernel
theorem dX12_house_32 : decode cX12_house 32 = .ok (.istore_n 3, 1) := by decide +kernel
theorem dX12_house_33 : decode cX12_house 33 = .ok (.aload_n 0, 1) := by decide +kernel
theorem dX12_house_34 : decode cX12_house 34 = .ok (.invokevirtual 105, 3) := by decide +kernel
theorem dX12_house_37 : decode cX12_house 37 = .ok (.aload_n 0, 1) := by decide +kernel
theorem dX12_house_38 : decode cX12_house 38 = .ok (.getfield 7, 3) := by decide +kernel
theorem dX12_house_41 : decode cX12_house 41 = .ok (.iload_n 1, 1) := by decide +kernel
theorem dX12_house_42 : decode cX12_house 42 = .ok (.iload_n 2, 1) := by decide +kernel
theorem dX12_house_43 : decode cX12_house 43 = .ok (.iastore, 1) := by decide +kernel
theorem dX12_house_44 : decode cX12_house 44 = .ok (.iload_n 3, 1) := by decide +kernel
theorem dX12_house_45 : decode cX12_house 45 = .ok (.ireturn, 1) := by decide +kernel
theorem dX12_birthday_0 : decode cX12_birthday 0 = .ok (.iload_n 1, 1) := by decide +kernel
theorem dX12_birthday_1 : decode cX12_birthday 1 = .ok (.invokestatic 108, 3) := by decide +kernel
theorem dX12_birthday_4 : decode cX12_birthday 4 = .ok (.ifCond .ne 10, 3) := by decide +kernel
theorem dX12_birthday_7 : decode cX12_birthday 7 = .ok (.aload_n 0, 1) := by decide +kernel
theorem dX12_birthday_8 : decode cX12_birthday 8 = .ok (.bipush (-2), 2) := by decide +kernel
theorem dX12_birthday_10 : decode cX12_birthday 10 = .ok (.invokevirtual 87, 3) := by decide +kernel
theorem dX12_birthday_13 : decode cX12_birthday 13 = .ok (.ireturn, 1) := by decide +kernel
theorem dX12_birthday_14 : decode cX12_birthday 14 = .ok (.aload_n 0, 1) := by decide +kernel
theorem dX12_birthday_15 : decode cX12_birthday 15 = .ok (.getfield 7, 3) := by decide +kernel
theorem dX12_birthday_18 : decode cX12_birthday 18 = .ok (.iload_n 1, 1) := by decide +kernel
theorem dX12_birthday_19 : decode cX12_birthday 19 = .ok (.iaload, 1) := by decide +kernel
theorem dX12_birthday_20 : decode cX12_birthday 20 = .ok (.ifCond .eq 15, 3) := by decide +kernel
theorem dX12_birthday_23 : decode cX12_birthday 23 = .ok (.aload_n 0, 1) := by decide +kernel
theorem dX12_birthday_24 : decode cX12_birthday 24 = .ok (.getfield 7, 3) := by decide +kernel
theorem dX12_birthday_27 : decode cX12_birthday 27 = .ok (.iload_n 1, 1) := by decide +kernel
theorem dX12_birthday_28 : decode cX12_birthday 28 = .ok (.iaload, 1) := by decide +kernel
theorem dX12_birthday_29 : decode cX12_birthday 29 = .ok (.sipush 300, 3) := by decide +kernel
theorem dX12_birthday_32 : decode cX12_birthday 32 = .ok (.if_icmp .ne 8, 3) := by decide +kernel
theorem dX12_birthday_35 : decode cX12_birthday 35 = .ok (.aload_n 0, 1) := by decide +kernel
theorem dX12_birthday_36 : decode cX12_birthday 36 = .ok (.invokevirtual 111, 3) := by decide +kernel
theorem dX12_birthday_39 : decode cX12_birthday 39 = .ok (.ireturn, 1) := by decide +kernel
theorem dX12_birthday_40 : decode cX12_birthday 40 = .ok (.aload_n 0, 1) := by decide +kernel
theorem dX12_birthday_41 : decode cX12_birthday 41 = .ok (.invokevirtual 105, 3) := by decide +kernel
theorem dX12_birthday_44 : decode cX12_birthday 44 = .ok (.aload_n 0, 1) := by decide +kernel
theorem dX12_birthday_45 : decode cX12_birthday 45 = .ok (.getfield 7, 3) := by decide +kernel
theorem dX12_birthday_48 : decode cX12_birthday 48 = .ok (.iload_n 1, 1) := by decide +kernel
theorem dX12_birthday_49 : decode cX12_birthday 49 = .ok (.dup2, 1) := by decide +kernel
theorem dX12_birthday_50 : decode cX12_birthday 50 = .ok (.iaload, 1) := by decide +kernel
theorem dX12_birthday_51 : decode cX12_birthday 51 = .ok (.iconst 1, 1) := by decide +kernel
theorem dX12_birthday_52 : decode cX12_birthday 52 = .ok (.iadd, 1) := by decide +kernel
theorem dX12_birthday_53 : decode cX12_birthday 53 = .ok (.iastore, 1) := by decide +kernel
theorem dX12_birthday_54 : decode cX12_birthday 54 = .ok (.aload_n 0, 1) := by decide +kernel
theorem dX12_birthday_55 : decode cX12_birthday 55 = .ok (.getfield 7, 3) := by decide +kernel
theorem dX12_birthday_58 : decode cX12_birthday 58 = .ok (.iload_n 1, 1) := by decide +kernel
theorem dX12_birthday_59 : decode cX12_birthday 59 = .ok (.iaload, 1) := by decide +kernel
theorem dX12_birthday_60 : decode cX12_birthday 60 = .ok (.ireturn, 1) := by decide +kernel
theorem dX12_swap_0 : decode cX12_swap 0 = .ok (.iload_n 1, 1) := by decide +kernel
theorem dX12_swap_1 : decode cX12_swap 1 = .ok (.invokestatic 108, 3) := by decide +kernel
theorem dX12_swap_4 : decode cX12_swap 4 = .ok (.ifCond .eq 15, 3) := by decide +kernel
theorem dX12_swap_7 : decode cX12_swap 7 = .ok (.iload_n 2, 1) := by decide +kernel
theorem dX12_swap_8 : decode cX12_swap 8 = .ok (.invokestatic 108, 3) := by decide +kernel
theorem dX12_swap_11 : decode cX12_swap 11 = .ok (.ifCond .eq 8, 3) := by decide +kernel
theorem dX12_swap_14 : decode cX12_swap 14 = .ok (.iload_n 1, 1) := by decide +kernel
theorem dX12_swap_15 : decode cX12_swap 15 = .ok (.iload_n 2, 1) := by decide +kernel
theorem dX12_swap_16 : decode cX12_swap 16 = .ok (.if_icmp .ne 10, 3) := by decide +kernel
theorem dX12_swap_19 : decode cX12_swap 19 = .ok (.aload_n 0, 1) := by decide +kernel
theorem dX12_swap_20 : decode cX12_swap 20 = .ok (.bipush (-2), 2) := by decide +kernel
theorem dX12_swap_22 : decode cX12_swap 22 = .ok (.invokevirtual 87, 3) := by decide +kernel
theorem dX12_swap_25 : decode cX12_swap 25 = .ok (.ireturn, 1) := by decide +kernel
theorem dX12_swap_26 : decode cX12_swap 26 = .ok (.aload_n 0, 1) := by decide +kernel
theorem dX12_swap_27 : decode cX12_swap 27 = .ok (.getfield 7, 3) := by decide +kernel
theorem dX12_swap_30 : decode cX12_swap 30 = .ok (.iload_n 1, 1) := by decide +kernel
theorem dX12_swap_31 : decode cX12_swap 31 = .ok (.iaload, 1) := by decide +kernel
theorem dX12_swap_32 : decode cX12_swap 32 = .ok (.ifCond .ne 17, 3) := by decide +kernel
theorem dX12_swap_35 : decode cX12_swap 35 = .ok (.aload_n 0, 1) := by decide +kernel
theorem dX12_swap_36 : decode cX12_swap 36 = .ok (.getfield 7, 3) := by decide +kernel
theorem dX12_swap_39 : decode cX12_swap 39 = .ok (.iload_n 2, 1) := by decide +kernel
theorem dX12_swap_40 : decode cX12_swap 40 = .ok (.iaload, 1) := by decide +kernel
theorem dX12_swap_41 : decode cX12_swap 41 = .ok (.ifCond .ne 8, 3) := by decide +kernel
theorem dX12_swap_44 : decode cX12_swap 44 = .ok (.aload_n 0, 1) := by decide +kernel
theorem dX12_swap_45 : decode cX12_swap 45 = .ok (.invokevirtual 111, 3) := by decide +kernel
theorem dX12_swap_48 : decode cX12_swap 48 = .ok (.ireturn, 1) := by decide +kernel
theorem dX12_swap_49 : decode cX12_swap 49 = .ok (.aload_n 0, 1) := by decide +kernel
theorem dX12_swap_50 : decode cX12_swap 50 = .ok (.invokevirtual 105, 3) := by decide +kernel
theorem dX12_swap_53 : decode cX12_swap 53 = .ok (.aload_n 0, 1) := by decide +kernel
theorem dX12_swap_54 : decode cX12_swap 54 = .ok (.getfield 7, 3) := by decide +kernel
theorem dX12_swap_57 : decode cX12_swap 57 = .ok (.iload_n 1, 1) := by decide +kernel
theorem dX12_swap_58 : decode cX12_swap 58 = .ok (.iaload, 1) := by decide +kernel
theorem dX12_swap_59 : decode cX12_swap 59 = .ok (.istore_n 3, 1) := by decide +kernel
theorem dX12_swap_60 : decode cX12_swap 60 = .ok (.aload_n 0, 1) := by decide +kernel
theorem dX12_swap_61 : decode cX12_swap 61 = .ok (.getfield 7, 3) := by decide +kernel
theorem dX12_swap_64 : decode cX12_swap 64 = .ok (.iload_n 1, 1) := by decide +kernel
theorem dX12_swap_65 : decode cX12_swap 65 = .ok (.aload_n 0, 1) := by decide +kernel
theorem dX12_swap_66 : decode cX12_swap 66 = .ok (.getfield 7, 3) := by decide +kernel
theorem dX12_swap_69 : decode cX12_swap 69 = .ok (.iload_n 2, 1) := by decide +kernel
theorem dX12_swap_70 : decode cX12_swap 70 = .ok (.iaload, 1) := by decide +kernel
theorem dX12_swap_71 : decode cX12_swap 71 = .ok (.iastore, 1) := by decide +kernel
theorem dX12_swap_72 : decode cX12_swap 72 = .ok (.aload_n 0, 1) := by decide +kernel
theorem dX12_swap_73 : decode cX12_swap 73 = .ok (.getfield 7, 3) := by decide +kernel
theorem dX12_swap_76 : decode cX12_swap 76 = .ok (.iload_n 2, 1) := by decide +kernel
theorem dX12_swap_77 : decode cX12_swap 77 = .ok (.iload_n 3, 1) := by decide +kernel
theorem dX12_swap_78 : decode cX12_swap 78 = .ok (.iastore, 1) := by decide +kernel
theorem dX12_swap_79 : decode cX12_swap 79 = .ok (.iconst 1, 1) := by decide +kernel
theorem dX12_swap_80 : decode cX12_swap 80 = .ok (.ireturn, 1) := by decide +kernel
theorem dX12_undo_0 : decode cX12_undo 0 = .ok (.aload_n 0, 1) := by decide +kernel
theorem dX12_undo_1 : decode cX12_undo 1 = .ok (.getfield 7, 3) := by decide +kernel
theorem dX12_undo_4 : decode cX12_undo 4 = .ok (.bipush 12, 2) := by decide +kernel
theorem dX12_undo_6 : decode cX12_undo 6 = .ok (.iaload, 1) := by decide +kernel
theorem dX12_undo_7 : decode cX12_undo 7 = .ok (.ifCond .ne 8, 3) := by decide +kernel
theorem dX12_undo_10 : decode cX12_undo 10 = .ok (.aload_n 0, 1) := by decide +kernel
theorem dX12_undo_11 : decode cX12_undo 11 = .ok (.invokevirtual 111, 3) := by decide +kernel
theorem dX12_undo_14 : decode cX12_undo 14 = .ok (.ireturn, 1) := by decide +kernel
theorem dX12_undo_15 : decode cX12_undo 15 = .ok (.aload_n 0, 1) := by decide +kernel
theorem dX12_undo_16 : decode cX12_undo 16 = .ok (.getfield 7, 3) := by decide +kernel
theorem dX12_undo_19 : decode cX12_undo 19 = .ok (.bipush 12, 2) := by decide +kernel
theorem dX12_undo_21 : decode cX12_undo 21 = .ok (.dup2, 1) := by decide +kernel
theorem dX12_undo_22 : decode cX12_undo 22 = .ok (.iaload, 1) := by decide +kernel
theorem dX12_undo_23 : decode cX12_undo 23 = .ok (.iconst 1, 1) := by decide +kernel
theorem dX12_undo_24 : decode cX12_undo 24 = .ok (.isub, 1) := by decide +kernel
theorem dX12_undo_25 : decode cX12_undo 25 = .ok (.iastore, 1) := by decide +kernel
theorem dX12_undo_26 : decode cX12_undo 26 = .ok (.iconst 0, 1) := by decide +kernel
theorem dX12_undo_27 : decode cX12_undo 27 = .ok (.istore_n 1, 1) := by decide +kernel
theorem dX12_undo_28 : decode cX12_undo 28 = .ok (.iload_n 1, 1) := by decide +kernel
theorem dX12_undo_29 : decode cX12_undo 29 = .ok (.bipush 10, 2) := by decide +kernel
theorem dX12_undo_31 : decode cX12_undo 31 = .ok (.if_icmp .ge 35, 3) := by decide +kernel
theorem dX12_undo_34 : decode cX12_undo 34 = .ok (.aload_n 0, 1) := by decide +kernel
theorem dX12_undo_35 : decode cX12_undo 35 = .ok (.getfield 7, 3) := by decide +kernel
theorem dX12_undo_38 : decode cX12_undo 38 = .ok (.iload_n 1, 1) := by decide +kernel
theorem dX12_undo_39 : decode cX12_undo 39 = .ok (.aload_n 0, 1) := by decide +kernel
theorem dX12_undo_40 : decode cX12_undo 40 = .ok (.getfield 7, 3) := by decide +kernel
theorem dX12_undo_43 : decode cX12_undo 43 = .ok (.bipush 69, 2) := by decide +kernel
theorem dX12_undo_45 : decode cX12_undo 45 = .ok (.bipush 10, 2) := by decide +kernel
theorem dX12_undo_47 : decode cX12_undo 47 = .ok (.aload_n 0, 1) := by decide +kernel
theorem dX12_undo_48 : decode cX12_undo 48 = .ok (.getfield 7, 3) := by decide +kernel
theorem dX12_undo_51 : decode cX12_undo 51 = .ok (.bipush 12, 2) := by decide +kernel
theorem dX12_undo_53 : decode cX12_undo 53 = .ok (.iaload, 1) := by decide +kernel
theorem dX12_undo_54 : decode cX12_undo 54 = .ok (.imul, 1) := by decide +kernel
theorem dX12_undo_55 : decode cX12_undo 55 = .ok (.iadd, 1) := by decide +kernel
theorem dX12_undo_56 : decode cX12_undo 56 = .ok (.iload_n 1, 1) := by decide +kernel
theorem dX12_undo_57 : decode cX12_undo 57 = .ok (.iadd, 1) := by decide +kernel
theorem dX12_undo_58 : decode cX12_undo 58 = .ok (.iaload, 1) := by decide +kernel
theorem dX12_undo_59 : decode cX12_undo 59 = .ok (.iastore, 1) := by decide +kernel
theorem dX12_undo_60 : decode cX12_undo 60 = .ok (.iinc 1 1, 3) := by decide +kernel
theorem dX12_undo_63 : decode cX12_undo 63 = .ok (.goto (-35), 3) := by decide +kernel
theorem dX12_undo_66 : decode cX12_undo 66 = .ok (.aload_n 0, 1) := by decide +kernel
theorem dX12_undo_67 : decode cX12_undo 67 = .ok (.invokevirtual 91, 3) := by decide +kernel
theorem dX12_undo_70 : decode cX12_undo 70 = .ok (.invokestatic 95, 3) := by decide +kernel
theorem dX12_undo_73 : decode cX12_undo 73 = .ok (.ireturn, 1) := by decide +kernel
theorem dX12_layHand_0 : decode cX12_layHand 0 = .ok (.iconst 0, 1) := by decide +kernel
theorem dX12_layHand_1 : decode cX12_layHand 1 = .ok (.istore_n 1, 1) := by decide +kernel
theorem dX12_layHand_2 : decode cX12_layHand 2 = .ok (.iload_n 1, 1) := by decide +kernel
theorem dX12_layHand_3 : decode cX12_layHand 3 = .ok (.bipush 8, 2) := by decide +kernel
theorem dX12_layHand_5 : decode cX12_layHand 5 = .ok (.if_icmp .ge 21, 3) := by decide +kernel
theorem dX12_layHand_8 : decode cX12_layHand 8 = .ok (.aload_n 0, 1) := by decide +kernel
theorem dX12_layHand_9 : decode cX12_layHand 9 = .ok (.getfield 30, 3) := by decide +kernel
theorem dX12_layHand_12 : decode cX12_layHand 12 = .ok (.iload_n 1, 1) := by decide +kernel
theorem dX12_layHand_13 : decode cX12_layHand 13 = .ok (.aload_n 0, 1) := by decide +kernel
theorem dX12_layHand_14 : decode cX12_layHand 14 = .ok (.getfield 7, 3) := by decide +kernel
theorem dX12_layHand_17 : decode cX12_layHand 17 = .ok (.iload_n 1, 1) := by decide +kernel
theorem dX12_layHand_18 : decode cX12_layHand 18 = .ok (.iaload, 1) := by decide +kernel
theorem dX12_layHand_19 : decode cX12_layHand 19 = .ok (.iastore, 1) := by decide +kernel
theorem dX12_layHand_20 : decode cX12_layHand 20 = .ok (.iinc 1 1, 3) := by decide +kernel
theorem dX12_layHand_23 : decode cX12_layHand 23 = .ok (.goto (-21), 3) := by decide +kernel
theorem dX12_layHand_26 : decode cX12_layHand 26 = .ok (.return_, 1) := by decide +kernel
theorem dX12_isPair_0 : decode cX12_isPair 0 = .ok (.iload_n 1, 1) := by decide +kernel
theorem dX12_isPair_1 : decode cX12_isPair 1 = .ok (.ifCond .lt 33, 3) := by decide +kernel
theorem dX12_isPair_4 : decode cX12_isPair 4 = .ok (.iload_n 1, 1) := by decide +kernel
theorem dX12_isPair_5 : decode cX12_isPair 5 = .ok (.bipush 7, 2) := by decide +kernel
theorem dX12_isPair_7 : decode cX12_isPair 7 = .ok (.if_icmp .ge 27, 3) := by decide +kernel
theorem dX12_isPair_10 : decode cX12_isPair 10 = .ok (.aload_n 0, 1) := by decide +kernel
theorem dX12_isPair_11 : decode cX12_isPair 11 = .ok (.getfield 30, 3) := by decide +kernel
theorem dX12_isPair_14 : decode cX12_isPair 14 = .ok (.iload_n 1, 1) := by decide +kernel
theorem dX12_isPair_15 : decode cX12_isPair 15 = .ok (.iaload, 1) := by decide +kernel
theorem dX12_isPair_16 : decode cX12_isPair 16 = .ok (.ifCond .le 18, 3) := by decide +kernel
theorem dX12_isPair_19 : decode cX12_isPair 19 = .ok (.aload_n 0, 1) := by decide +kernel
theorem dX12_isPair_20 : decode cX12_isPair 20 = .ok (.getfield 30, 3) := by decide +kernel
theorem dX12_isPair_23 : decode cX12_isPair 23 = .ok (.iload_n 1, 1) := by decide +kernel
theorem dX12_isPair_24 : decode cX12_isPair 24 = .ok (.iconst 1, 1) := by decide +kernel
theorem dX12_isPair_25 : decode cX12_isPair 25 = .ok (.iadd, 1) := by decide +kernel
theorem dX12_isPair_26 : decode cX12_isPair 26 = .ok (.iaload, 1) := by decide +kernel
theorem dX12_isPair_27 : decode cX12_isPair 27 = .ok (.ifCond .le 7, 3) := by decide +kernel
theorem dX12_isPair_30 : decode cX12_isPair 30 = .ok (.iconst 1, 1) := by decide +kernel
theorem dX12_isPair_31 : decode cX12_isPair 31 = .ok (.goto 4, 3) := by decide +kernel
theorem dX12_isPair_34 : decode cX12_isPair 34 = .ok (.iconst 0, 1) := by decide +kernel
theorem dX12_isPair_35 : decode cX12_isPair 35 = .ok (.ireturn, 1) := by decide +kernel
theorem dX12_isQuarrel_0 : decode cX12_isQuarrel 0 = .ok (.aload_n 0, 1) := by decide +kernel
theorem dX12_isQuarrel_1 : decode cX12_isQuarrel 1 = .ok (.iload_n 1, 1) := by decide +kernel
theorem dX12_isQuarrel_2 : decode cX12_isQuarrel 2 = .ok (.invokevirtual 114, 3) := by decide +kernel
theorem dX12_isQuarrel_5 : decode cX12_isQuarrel 5 = .ok (.ifCond .eq 28, 3) := by decide +kernel
theorem dX12_isQuarrel_8 : decode cX12_isQuarrel 8 = .ok (.aload_n 0, 1) := by decide +kernel
theorem dX12_isQuarrel_9 : decode cX12_isQuarrel 9 = .ok (.aload_n 0, 1) := by decide +kernel
theorem dX12_isQuarrel_10 : decode cX12_isQuarrel 10 = .ok (.getfield 30, 3) := by decide +kernel
theorem dX12_isQuarrel_13 : decode cX12_isQuarrel 13 = .ok (.iload_n 1, 1) := by decide +kernel
theorem dX12_isQuarrel_14 : decode cX12_isQuarrel 14 = .ok (.iaload, 1) := by decide +kernel
theorem dX12_isQuarrel_15 : decode cX12_isQuarrel 15 = .ok (.aload_n 0, 1) := by decide +kernel
theorem dX12_isQuarrel_16 : decode cX12_isQuarrel 16 = .ok (.getfield 30, 3) := by decide +kernel
theorem dX12_isQuarrel_19 : decode cX12_isQuarrel 19 = .ok (.iload_n 1, 1) := by decide +kernel
theorem dX12_isQuarrel_20 : decode cX12_isQuarrel 20 = .ok (.iconst 1, 1) := by decide +kernel
theorem dX12_isQuarrel_21 : decode cX12_isQuarrel 21 = .ok (.iadd, 1) := by decide +kernel
theorem dX12_isQuarrel_22 : decode cX12_isQuarrel 22 = .ok (.iaload, 1) := by decide +kernel
theorem dX12_isQuarrel_23 : decode cX12_isQuarrel 23 = .ok (.invokevirtual 117, 3) := by decide +kernel
theorem dX12_isQuarrel_26 : decode cX12_isQuarrel 26 = .ok (.ifCond .ne 7, 3) := by decide +kernel
theorem dX12_isQuarrel_29 : decode cX12_isQuarrel 29 = .ok (.iconst 1, 1) := by decide +kernel
theorem dX12_isQuarrel_30 : decode cX12_isQuarrel 30 = .ok (.goto 4, 3) := by decide +kernel
theorem dX12_isQuarrel_33 : decode cX12_isQuarrel 33 = .ok (.iconst 0, 1) := by decide +kernel
theorem dX12_isQuarrel_34 : decode cX12_isQuarrel 34 = .ok (.ireturn, 1) := by decide +kernel
theorem dX12_manyQuarrels_0 : decode cX12_manyQuarrels 0 = .ok (.iconst 0, 1) := by decide +kernel
theorem dX12_manyQuarrels_1 : decode cX12_manyQuarrels 1 = .ok (.istore_n 1, 1) := by decide +kernel
theorem dX12_manyQuarrels_2 : decode cX12_manyQuarrels 2 = .ok (.iconst 0, 1) := by decide +kernel
theorem dX12_manyQuarrels_3 : decode cX12_manyQuarrels 3 = .ok (.istore_n 2, 1) := by decide +kernel
theorem dX12_manyQuarrels_4 : decode cX12_manyQuarrels 4 = .ok (.iload_n 2, 1) := by decide +kernel
theorem dX12_manyQuarrels_5 : decode cX12_manyQuarrels 5 = .ok (.bipush 7, 2) := by decide +kernel
theorem dX12_manyQuarrels_7 : decode cX12_manyQuarrels 7 = .ok (.if_icmp .ge 25, 3) := by decide +kernel
theorem dX12_manyQuarrels_10 : decode cX12_manyQuarrels 10 = .ok (.iload_n 1, 1) := by decide +kernel
theorem dX12_manyQuarrels_11 : decode cX12_manyQuarrels 11 = .ok (.aload_n 0, 1) := by decide +kernel
theorem dX12_manyQuarrels_12 : decode cX12_manyQuarrels 12 = .ok (.iload_n 2, 1) := by decide +kernel
theorem dX12_manyQuarrels_13 : decode cX12_manyQuarrels 13 = .ok (.invokevirtual 120, 3) := by decide +kernel
theorem dX12_manyQuarrels_16 : decode cX12_manyQuarrels 16 = .ok (.ifCond .eq 7, 3) := by decide +kernel
theorem dX12_manyQuarrels_19 : decode cX12_manyQuarrels 19 = .ok (.iconst 1, 1) := by decide +kernel
theorem dX12_manyQuarrels_20 : decode cX12_manyQuarrels 20 = .ok (.goto 4, 3) := by decide +kernel
theorem dX12_manyQuarrels_23 : decode cX12_manyQuarrels 23 = .ok (.iconst 0, 1) := by decide +kernel
theorem dX12_manyQuarrels_24 : decode cX12_manyQuarrels 24 = .ok (.iadd, 1) := by decide +kernel
theorem dX12_manyQuarrels_25 : decode cX12_manyQuarrels 25 = .ok (.istore_n 1, 1) := by decide +kernel
theorem dX12_manyQuarrels_26 : decode cX12_manyQuarrels 26 = .ok (.iinc 2 1, 3) := by decide +kernel
theorem dX12_manyQuarrels_29 : decode cX12_manyQuarrels 29 = .ok (.goto (-25), 3) := by decide +kernel
theorem dX12_manyQuarrels_32 : decode cX12_manyQuarrels 32 = .ok (.iload_n 1, 1) := by decide +kernel
theorem dX12_manyQuarrels_33 : decode cX12_manyQuarrels 33 = .ok (.ireturn, 1) := by decide +kernel
theorem dX12_quarrelsIn_0 : decode cX12_quarrelsIn 0 = .ok (.aload_n 0, 1) := by decide +kernel
theorem dX12_quarrelsIn_1 : decode cX12_quarrelsIn 1 = .ok (.iload_n 1, 1) := by decide +kernel
theorem dX12_quarrelsIn_2 : decode cX12_quarrelsIn 2 = .ok (.invokevirtual 120, 3) := by decide +kernel
theorem dX12_quarrelsIn_5 : decode cX12_quarrelsIn 5 = .ok (.ifCond .ne 13, 3) := by decide +kernel
theorem dX12_quarrelsIn_8 : decode cX12_quarrelsIn 8 = .ok (.aload_n 0, 1) := by decide +kernel
theorem dX12_quarrelsIn_9 : decode cX12_quarrelsIn 9 = .ok (.iload_n 1, 1) := by decide +kernel
theorem dX12_quarrelsIn_10 : decode cX12_quarrelsIn 10 = .ok (.iconst 1, 1) := by decide +kernel
theorem dX12_quarrelsIn_11 : decode cX12_quarrelsIn 11 = .ok (.isub, 1) := by decide +kernel
theorem dX12_quarrelsIn_12 : decode cX12_quarrelsIn 12 = .ok (.invokevirtual 120, 3) := by decide +kernel
theorem dX12_quarrelsIn_15 : decode cX12_quarrelsIn 15 = .ok (.ifCond .eq 7, 3) := by decide +kernel
theorem dX12_quarrelsIn_18 : decode cX12_quarrelsIn 18 = .ok (.iconst 1, 1) := by decide +kernel
theorem dX12_quarrelsIn_19 : decode cX12_quarrelsIn 19 = .ok (.goto 4, 3) := by decide +kernel
theorem dX12_quarrelsIn_22 : decode cX12_quarrelsIn 22 = .ok (.iconst 0, 1) := by decide +kernel
theorem dX12_quarrelsIn_23 : decode cX12_quarrelsIn 23 = .ok (.ireturn, 1) := by decide +kernel
theorem dX12_of_0 : decode cX12_of 0 = .ok (.iload_n 1, 1) := by decide +kernel
theorem dX12_of_1 : decode cX12_of 1 = .ok (.invokestatic 108, 3) := by decide +kernel
theorem dX12_of_4 : decode cX12_of 4 = .ok (.ifCond .eq 15, 3) := by decide +kernel
theorem dX12_of_7 : decode cX12_of 7 = .ok (.iload_n 2, 1) := by decide +kernel
theorem dX12_of_8 : decode cX12_of 8 = .ok (.i2l, 1) := by decide +kernel
theorem dX12_of_9 : decode cX12_of 9 = .ok (.lconst 0, 1) := by decide +kernel
theorem dX12_of_10 : decode cX12_of 10 = .ok (.ldc2_w 123, 3) := by decide +kernel
theorem dX12_of_13 : decode cX12_of 13 = .ok (.invokestatic 59, 3) := by decide +kernel
theorem dX12_of_16 : decode cX12_of 16 = .ok (.ifCond .ne 10, 3) := by decide +kernel
theorem dX12_of_19 : decode cX12_of 19 = .ok (.aload_n 0, 1) := by decide +kernel
theorem dX12_of_20 : decode cX12_of 20 = .ok (.bipush (-2), 2) := by decide +kernel
theorem dX12_of_22 : decode cX12_of 22 = .ok (.invokevirtual 87, 3) := by decide +kernel
theorem dX12_of_25 : decode cX12_of 25 = .ok (.ireturn, 1) := by decide +kernel
theorem dX12_of_26 : decode cX12_of 26 = .ok (.aload_n 0, 1) := by decide +kernel
theorem dX12_of_27 : decode cX12_of 27 = .ok (.invokevirtual 125, 3) := by decide +kernel
theorem dX12_of_30 : decode cX12_of 30 = .ok (.aload_n 0, 1) := by decide +kernel
theorem dX12_of_31 : decode cX12_of 31 = .ok (.getfield 30, 3) := by decide +kernel
theorem dX12_of_34 : decode cX12_of 34 = .ok (.iload_n 1, 1) := by decide +kernel
theorem dX12_of_35 : decode cX12_of 35 = .ok (.iaload, 1) := by decide +kernel
theorem dX12_of_36 : decode cX12_of 36 = .ok (.istore_n 3, 1) := by decide +kernel
theorem dX12_of_37 : decode cX12_of 37 = .ok (.iload_n 3, 1) := by decide +kernel
theorem dX12_of_38 : decode cX12_of 38 = .ok (.ifCond .ne 5, 3) := by decide +kernel
theorem dX12_of_41 : decode cX12_of 41 = .ok (.iconst 0, 1) := by decide +kernel
theorem dX12_of_42 : decode cX12_of 42 = .ok (.ireturn, 1) := by decide +kernel
theorem dX12_of_43 : decode cX12_of 43 = .ok (.iload_n 2, 1) := by decide +kernel
theorem dX12_of_44 : decode cX12_of 44 = .ok (.tableswitch 80 1 4 #[32, 39, 53, 66], 32) := by decide +kernel
theorem dX12_of_76 : decode cX12_of 76 = .ok (.aload_n 0, 1) := by decide +kernel
theorem dX12_of_77 : decode cX12_of 77 = .ok (.getfield 23, 3) := by decide +kernel
theorem dX12_of_80 : decode cX12_of 80 = .ok (.iload_n 3, 1) := by decide +kernel
theorem dX12_of_81 : decode cX12_of 81 = .ok (.iaload, 1) := by decide +kernel
theorem dX12_of_82 : decode cX12_of 82 = .ok (.ireturn, 1) := by decide +kernel
theorem dX12_of_83 : decode cX12_of 83 = .ok (.aload_n 0, 1) := by decide +kernel
theorem dX12_of_84 : decode cX12_of 84 = .ok (.iload_n 3, 1) := by decide +kernel
theorem dX12_of_85 : decode cX12_of 85 = .ok (.invokevirtual 73, 3) := by decide +kernel
theorem dX12_of_88 : decode cX12_of 88 = .ok (.ifCond .eq 7, 3) := by decide +kernel
theorem dX12_of_91 : decode cX12_of 91 = .ok (.iconst 1, 1) := by decide +kernel
theorem dX12_of_92 : decode cX12_of 92 = .ok (.goto 4, 3) := by decide +kernel
theorem dX12_of_95 : decode cX12_of 95 = .ok (.iconst 0, 1) := by decide +kernel
theorem dX12_of_96 : decode cX12_of 96 = .ok (.ireturn, 1) := by decide +kernel
theorem dX12_of_97 : decode cX12_of 97 = .ok (.iload_n 3, 1) := by decide +kernel
theorem dX12_of_98 : decode cX12_of 98 = .ok (.invokestatic 77, 3) := by decide +kernel
theorem dX12_of_101 : decode cX12_of 101 = .ok (.ifCond .eq 7, 3) := by decide +kernel
theorem dX12_of_104 : decode cX12_of 104 = .ok (.iconst 1, 1) := by decide +kernel
theorem dX12_of_105 : decode cX12_of 105 = .ok (.goto 4, 3) := by decide +kernel
theorem dX12_of_108 : decode cX12_of 108 = .ok (.iconst 0, 1) := by decide +kernel
theorem dX12_of_109 : decode cX12_of 109 = .ok (.ireturn, 1) := by decide +kernel
theorem dX12_of_110 : decode cX12_of 110 = .ok (.aload_n 0, 1) := by decide +kernel
theorem dX12_of_111 : decode cX12_of 111 = .ok (.iload_n 1, 1) := by decide +kernel
theorem dX12_of_112 : decode cX12_of 112 = .ok (.invokevirtual 128, 3) := by decide +kernel
theorem dX12_of_115 : decode cX12_of 115 = .ok (.ifCond .eq 7, 3) := by decide +kernel
theorem dX12_of_118 : decode cX12_of 118 = .ok (.iconst 1, 1) := by decide +kernel
theorem dX12_of_119 : decode cX12_of 119 = .ok (.goto 4, 3) := by decide +kernel
theorem dX12_of_122 : decode cX12_of 122 = .ok (.iconst 0, 1) := by decide +kernel
theorem dX12_of_123 : decode cX12_of 123 = .ok (.ireturn, 1) := by decide +kernel
theorem dX12_of_124 : decode cX12_of 124 = .ok (.iload_n 3, 1) := by decide +kernel
theorem dX12_of_125 : decode cX12_of 125 = .ok (.ireturn, 1) := by decide +kernel
theorem dX12_may_0 : decode cX12_may 0 = .ok (.iload_n 1, 1) := by decide +kernel
theorem dX12_may_1 : decode cX12_may 1 = .ok (.invokestatic 131, 3) := by decide +kernel
theorem dX12_may_4 : decode cX12_may 4 = .ok (.ifCond .eq 27, 3) := by decide +kernel
theorem dX12_may_7 : decode cX12_may 7 = .ok (.iload_n 2, 1) := by decide +kernel
theorem dX12_may_8 : decode cX12_may 8 = .ok (.invokestatic 131, 3) := by decide +kernel
theorem dX12_may_11 : decode cX12_may 11 = .ok (.ifCond .eq 20, 3) := by decide +kernel
theorem dX12_may_14 : decode cX12_may 14 = .ok (.aload_n 0, 1) := by decide +kernel
theorem dX12_may_15 : decode cX12_may 15 = .ok (.iload_n 1, 1) := by decide +kernel
theorem dX12_may_16 : decode cX12_may 16 = .ok (.iload_n 2, 1) := by decide +kernel
theorem dX12_may_17 : decode cX12_may 17 = .ok (.invokevirtual 117, 3) := by decide +kernel
theorem dX12_may_20 : decode cX12_may 20 = .ok (.ifCond .eq 7, 3) := by decide +kernel
theorem dX12_may_23 : decode cX12_may 23 = .ok (.iconst 1, 1) := by decide +kernel
theorem dX12_may_24 : decode cX12_may 24 = .ok (.goto 13, 3) := by decide +kernel
theorem dX12_may_27 : decode cX12_may 27 = .ok (.iconst 0, 1) := by decide +kernel
theorem dX12_may_28 : decode cX12_may 28 = .ok (.goto 9, 3) := by decide +kernel
theorem dX12_may_31 : decode cX12_may 31 = .ok (.aload_n 0, 1) := by decide +kernel
theorem dX12_may_32 : decode cX12_may 32 = .ok (.bipush (-2), 2) := by decide +kernel
theorem dX12_may_34 : decode cX12_may 34 = .ok (.invokevirtual 87, 3) := by decide +kernel
theorem dX12_may_37 : decode cX12_may 37 = .ok (.ireturn, 1) := by decide +kernel
theorem dX12_quarrels_0 : decode cX12_quarrels 0 = .ok (.iload_n 1, 1) := by decide +kernel
theorem dX12_quarrels_1 : decode cX12_quarrels 1 = .ok (.i2l, 1) := by decide +kernel
theorem dX12_quarrels_2 : decode cX12_quarrels 2 = .ok (.lconst 0, 1) := by decide +kernel
theorem dX12_quarrels_3 : decode cX12_quarrels 3 = .ok (.lconst 1, 1) := by decide +kernel
theorem dX12_quarrels_4 : decode cX12_quarrels 4 = .ok (.invokestatic 59, 3) := by decide +kernel
theorem dX12_quarrels_7 : decode cX12_quarrels 7 = .ok (.ifCond .ne 10, 3) := by decide +kernel
theorem dX12_quarrels_10 : decode cX12_quarrels 10 = .ok (.aload_n 0, 1) := by decide +kernel
theorem dX12_quarrels_11 : decode cX12_quarrels 11 = .ok (.bipush (-2), 2) := by decide +kernel
theorem dX12_quarrels_13 : decode cX12_quarrels 13 = .ok (.invokevirtual 87, 3) := by decide +kernel
theorem dX12_quarrels_16 : decode cX12_quarrels 16 = .ok (.ireturn, 1) := by decide +kernel
theorem dX12_quarrels_17 : decode cX12_quarrels 17 = .ok (.aload_n 0, 1) := by decide +kernel
theorem dX12_quarrels_18 : decode cX12_quarrels 18 = .ok (.invokevirtual 125, 3) := by decide +kernel
theorem dX12_quarrels_21 : decode cX12_quarrels 21 = .ok (.iconst 0, 1) := by decide +kernel
theorem dX12_quarrels_22 : decode cX12_quarrels 22 = .ok (.istore_n 2, 1) := by decide +kernel
theorem dX12_quarrels_23 : decode cX12_quarrels 23 = .ok (.iconst 0, 1) := by decide +kernel
theorem dX12_quarrels_24 : decode cX12_quarrels 24 = .ok (.istore_n 3, 1) := by decide +kernel
theorem dX12_quarrels_25 : decode cX12_quarrels 25 = .ok (.iload_n 3, 1) := by decide +kernel
theorem dX12_quarrels_26 : decode cX12_quarrels 26 = .ok (.bipush 8, 2) := by decide +kernel
theorem dX12_quarrels_28 : decode cX12_quarrels 28 = .ok (.if_icmp .ge 27, 3) := by decide +kernel
theorem dX12_quarrels_31 : decode cX12_quarrels 31 = .ok (.iload_n 2, 1) := by decide +kernel
theorem dX12_quarrels_32 : decode cX12_quarrels 32 = .ok (.aload_n 0, 1) := by decide +kernel
theorem dX12_quarrels_33 : decode cX12_quarrels 33 = .ok (.iload_n 3, 1) := by decide +kernel
theorem dX12_quarrels_34 : decode cX12_quarrels 34 = .ok (.invokevirtual 128, 3) := by decide +kernel
theorem dX12_quarrels_37 : decode cX12_quarrels 37 = .ok (.ifCond .eq 9, 3) := by decide +kernel
theorem dX12_quarrels_40 : decode cX12_quarrels 40 = .ok (.iconst 1, 1) := by decide +kernel
theorem dX12_quarrels_41 : decode cX12_quarrels 41 = .ok (.iload_n 3, 1) := by decide +kernel
theorem dX12_quarrels_42 : decode cX12_quarrels 42 = .ok (.ishl, 1) := by decide +kernel
theorem dX12_quarrels_43 : decode cX12_quarrels 43 = .ok (.goto 4, 3) := by decide +kernel
theorem dX12_quarrels_46 : decode cX12_quarrels 46 = .ok (.iconst 0, 1) := by decide +kernel
theorem dX12_quarrels_47 : decode cX12_quarrels 47 = .ok (.ior, 1) := by decide +kernel
theorem dX12_quarrels_48 : decode cX12_quarrels 48 = .ok (.istore_n 2, 1) := by decide +kernel
theorem dX12_quarrels_49 : decode cX12_quarrels 49 = .ok (.iinc 3 1, 3) := by decide +kernel
theorem dX12_quarrels_52 : decode cX12_quarrels 52 = .ok (.goto (-27), 3) := by decide +kernel
theorem dX12_quarrels_55 : decode cX12_quarrels 55 = .ok (.iload_n 1, 1) := by decide +kernel
theorem dX12_quarrels_56 : decode cX12_quarrels 56 = .ok (.ifCond .ne 7, 3) := by decide +kernel
theorem dX12_quarrels_59 : decode cX12_quarrels 59 = .ok (.iload_n 2, 1) := by decide +kernel
theorem dX12_quarrels_60 : decode cX12_quarrels 60 = .ok (.goto 7, 3) := by decide +kernel
theorem dX12_quarrels_63 : decode cX12_quarrels 63 = .ok (.aload_n 0, 1) := by decide +kernel
theorem dX12_quarrels_64 : decode cX12_quarrels 64 = .ok (.invokevirtual 134, 3) := by decide +kernel
theorem dX12_quarrels_67 : decode cX12_quarrels 67 = .ok (.ireturn, 1) := by decide +kernel
theorem dX12_away_0 : decode cX12_away 0 = .ok (.sipush 255, 3) := by decide +kernel
theorem dX12_away_3 : decode cX12_away 3 = .ok (.istore_n 1, 1) := by decide +kernel
theorem dX12_away_4 : decode cX12_away 4 = .ok (.iconst 0, 1) := by decide +kernel
theorem dX12_away_5 : decode cX12_away 5 = .ok (.istore_n 2, 1) := by decide +kernel
theorem dX12_away_6 : decode cX12_away 6 = .ok (.iload_n 2, 1) := by decide +kernel
theorem dX12_away_7 : decode cX12_away 7 = .ok (.sipush 255, 3) := by decide +kernel
theorem dX12_away_10 : decode cX12_away 10 = .ok (.if_icmp .ge 72, 3) := by decide +kernel
theorem dX12_away_13 : decode cX12_away 13 = .ok (.iconst 0, 1) := by decide +kernel
theorem dX12_away_14 : decode cX12_away 14 = .ok (.istore_n 3, 1) := by decide +kernel
theorem dX12_away_15 : decode cX12_away 15 = .ok (.iload_n 3, 1) := by decide +kernel
theorem dX12_away_16 : decode cX12_away 16 = .ok (.bipush 8, 2) := by decide +kernel
theorem dX12_away_18 : decode cX12_away 18 = .ok (.if_icmp .ge 34, 3) := by decide +kernel
theorem dX12_away_21 : decode cX12_away 21 = .ok (.aload_n 0, 1) := by decide +kernel
theorem dX12_away_22 : decode cX12_away 22 = .ok (.getfield 30, 3) := by decide +kernel
theorem dX12_away_25 : decode cX12_away 25 = .ok (.iload_n 3, 1) := by decide +kernel
theorem dX12_away_26 : decode cX12_away 26 = .ok (.iload_n 2, 1) := by decide +kernel
theorem dX12_away_27 : decode cX12_away 27 = .ok (.iload_n 3, 1) := by decide +kernel
theorem dX12_away_28 : decode cX12_away 28 = .ok (.ishr, 1) := by decide +kernel
theorem dX12_away_29 : decode cX12_away 29 = .ok (.iconst 1, 1) := by decide +kernel
theorem dX12_away_30 : decode cX12_away 30 = .ok (.iand, 1) := by decide +kernel
theorem dX12_away_31 : decode cX12_away 31 = .ok (.iconst 1, 1) := by decide +kernel
theorem dX12_away_32 : decode cX12_away 32 = .ok (.if_icmp .ne 7, 3) := by decide +kernel
theorem dX12_away_35 : decode cX12_away 35 = .ok (.iconst 0, 1) := by decide +kernel
theorem dX12_away_36 : decode cX12_away 36 = .ok (.goto 9, 3) := by decide +kernel
theorem dX12_away_39 : decode cX12_away 39 = .ok (.aload_n 0, 1) := by decide +kernel
theorem dX12_away_40 : decode cX12_away 40 = .ok (.getfield 7, 3) := by decide +kernel
theorem dX12_away_43 : decode cX12_away 43 = .ok (.iload_n 3, 1) := by decide +kernel
theorem dX12_away_44 : decode cX12_away 44 = .ok (.iaload, 1) := by decide +kernel
theorem dX12_away_45 : decode cX12_away 45 = .ok (.iastore, 1) := by decide +kernel
theorem dX12_away_46 : decode cX12_away 46 = .ok (.iinc 3 1, 3) := by decide +kernel
theorem dX12_away_49 : decode cX12_away 49 = .ok (.goto (-34), 3) := by decide +kernel
theorem dX12_away_52 : decode cX12_away 52 = .ok (.iload_n 2, 1) := by decide +kernel
theorem dX12_away_53 : decode cX12_away 53 = .ok (.invokestatic 95, 3) := by decide +kernel
theorem dX12_away_56 : decode cX12_away 56 = .ok (.iload_n 1, 1) := by decide +kernel
theorem dX12_away_57 : decode cX12_away 57 = .ok (.invokestatic 95, 3) := by decide +kernel
theorem dX12_away_60 : decode cX12_away 60 = .ok (.if_icmp .ge 14, 3) := by decide +kernel
theorem dX12_away_63 : decode cX12_away 63 = .ok (.aload_n 0, 1) := by decide +kernel
theorem dX12_away_64 : decode cX12_away 64 = .ok (.invokevirtual 134, 3) := by decide +kernel
theorem dX12_away_67 : decode cX12_away 67 = .ok (.ifCond .ne 7, 3) := by decide +kernel
theorem dX12_away_70 : decode cX12_away 70 = .ok (.iload_n 2, 1) := by decide +kernel
theorem dX12_away_71 : decode cX12_away 71 = .ok (.goto 4, 3) := by decide +kernel
theorem dX12_away_74 : decode cX12_away 74 = .ok (.iload_n 1, 1) := by decide +kernel
theorem dX12_away_75 : decode cX12_away 75 = .ok (.istore_n 1, 1) := by decide +kernel
theorem dX12_away_76 : decode cX12_away 76 = .ok (.iinc 2 1, 3) := by decide +kernel
theorem dX12_away_79 : decode cX12_away 79 = .ok (.goto (-73), 3) := by decide +kernel
theorem dX12_away_82 : decode cX12_away 82 = .ok (.iload_n 1, 1) := by decide +kernel
theorem dX12_away_83 : decode cX12_away 83 = .ok (.ireturn, 1) := by decide +kernel
theorem dX12_nextLived_0 : decode cX12_nextLived 0 = .ok (.iload_n 1, 1) := by decide +kernel
theorem dX12_nextLived_1 : decode cX12_nextLived 1 = .ok (.istore_n 2, 1) := by decide +kernel
theorem dX12_nextLived_2 : decode cX12_nextLived 2 = .ok (.iload_n 2, 1) := by decide +kernel
theorem dX12_nextLived_3 : decode cX12_nextLived 3 = .ok (.bipush 8, 2) := by decide +kernel
theorem dX12_nextLived_5 : decode cX12_nextLived 5 = .ok (.if_icmp .ge 18, 3) := by decide +kernel
theorem dX12_nextLived_8 : decode cX12_nextLived 8 = .ok (.aload_n 0, 1) := by decide +kernel
theorem dX12_nextLived_9 : decode cX12_nextLived 9 = .ok (.getfield 7, 3) := by decide +kernel
theorem dX12_nextLived_12 : decode cX12_nextLived 12 = .ok (.iload_n 2, 1) := by decide +kernel
theorem dX12_nextLived_13 : decode cX12_nextLived 13 = .ok (.iaload, 1) := by decide +kernel
theorem dX12_nextLived_14 : decode cX12_nextLived 14 = .ok (.ifCond .ne 9, 3) := by decide +kernel
theorem dX12_nextLived_17 : decode cX12_nextLived 17 = .ok (.iinc 2 1, 3) := by decide +kernel
theorem dX12_nextLived_20 : decode cX12_nextLived 20 = .ok (.goto (-18), 3) := by decide +kernel
theorem dX12_nextLived_23 : decode cX12_nextLived 23 = .ok (.iload_n 2, 1) := by decide +kernel
theorem dX12_nextLived_24 : decode cX12_nextLived 24 = .ok (.ireturn, 1) := by decide +kernel
theorem dX12_lastLived_0 : decode cX12_lastLived 0 = .ok (.iload_n 1, 1) := by decide +kernel
theorem dX12_lastLived_1 : decode cX12_lastLived 1 = .ok (.istore_n 2, 1) := by decide +kernel
theorem dX12_lastLived_2 : decode cX12_lastLived 2 = .ok (.iload_n 2, 1) := by decide +kernel
theorem dX12_lastLived_3 : decode cX12_lastLived 3 = .ok (.ifCond .lt 18, 3) := by decide +kernel
theorem dX12_lastLived_6 : decode cX12_lastLived 6 = .ok (.aload_n 0, 1) := by decide +kernel
theorem dX12_lastLived_7 : decode cX12_lastLived 7 = .ok (.getfield 7, 3) := by decide +kernel
theorem dX12_lastLived_10 : decode cX12_lastLived 10 = .ok (.iload_n 2, 1) := by decide +kernel
theorem dX12_lastLived_11 : decode cX12_lastLived 11 = .ok (.iaload, 1) := by decide +kernel
theorem dX12_lastLived_12 : decode cX12_lastLived 12 = .ok (.ifCond .ne 9, 3) := by decide +kernel
theorem dX12_lastLived_15 : decode cX12_lastLived 15 = .ok (.iinc 2 (-1), 3) := by decide +kernel
theorem dX12_lastLived_18 : decode cX12_lastLived 18 = .ok (.goto (-16), 3) := by decide +kernel
theorem dX12_lastLived_21 : decode cX12_lastLived 21 = .ok (.iload_n 2, 1) := by decide +kernel
theorem dX12_lastLived_22 : decode cX12_lastLived 22 = .ok (.ireturn, 1) := by decide +kernel
theorem dX12_isTaken_0 : decode cX12_isTaken 0 = .ok (.iconst 0, 1) := by decide +kernel
theorem dX12_isTaken_1 : decode cX12_isTaken 1 = .ok (.istore_n 3, 1) := by decide +kernel
theorem dX12_isTaken_2 : decode cX12_isTaken 2 = .ok (.iconst 0, 1) := by decide +kernel
theorem dX12_isTaken_3 : decode cX12_isTaken 3 = .ok (.istore 4, 2) := by decide +kernel
theorem dX12_isTaken_5 : decode cX12_isTaken 5 = .ok (.iload 4, 2) := by decide +kernel
theorem dX12_isTaken_7 : decode cX12_isTaken 7 = .ok (.iload_n 2, 1) := by decide +kernel
theorem dX12_isTaken_8 : decode cX12_isTaken 8 = .ok (.if_icmp .ge 40, 3) := by decide +kernel
theorem dX12_isTaken_11 : decode cX12_isTaken 11 = .ok (.iload_n 3, 1) := by decide +kernel
theorem dX12_isTaken_12 : decode cX12_isTaken 12 = .ok (.ifCond .ne 24, 3) := by decide +kernel
theorem dX12_isTaken_15 : decode cX12_isTaken 15 = .ok (.aload_n 0, 1) := by decide +kernel
theorem dX12_isTaken_16 : decode cX12_isTaken 16 = .ok (.getfield 7, 3) := by decide +kernel
theorem dX12_isTaken_19 : decode cX12_isTaken 19 = .ok (.iload 4, 2) := by decide +kernel
theorem dX12_isTaken_21 : decode cX12_isTaken 21 = .ok (.iaload, 1) := by decide +kernel
theorem dX12_isTaken_22 : decode cX12_isTaken 22 = .ok (.ifCond .le 18, 3) := by decide +kernel
theorem dX12_isTaken_25 : decode cX12_isTaken 25 = .ok (.aload_n 0, 1) := by decide +kernel
theorem dX12_isTaken_26 : decode cX12_isTaken 26 = .ok (.getfield 33, 3) := by decide +kernel
theorem dX12_isTaken_29 : decode cX12_isTaken 29 = .ok (.iload 4, 2) := by decide +kernel
theorem dX12_isTaken_31 : decode cX12_isTaken 31 = .ok (.iaload, 1) := by decide +kernel
theorem dX12_isTaken_32 : decode cX12_isTaken 32 = .ok (.iload_n 1, 1) := by decide +kernel
theorem dX12_isTaken_33 : decode cX12_isTaken 33 = .ok (.if_icmp .ne 7, 3) := by decide +kernel
theorem dX12_isTaken_36 : decode cX12_isTaken 36 = .ok (.iconst 1, 1) := by decide +kernel
theorem dX12_isTaken_37 : decode cX12_isTaken 37 = .ok (.goto 4, 3) := by decide +kernel
theorem dX12_isTaken_40 : decode cX12_isTaken 40 = .ok (.iconst 0, 1) := by decide +kernel
theorem dX12_isTaken_41 : decode cX12_isTaken 41 = .ok (.istore_n 3, 1) := by decide +kernel
theorem dX12_isTaken_42 : decode cX12_isTaken 42 = .ok (.iinc 4 1, 3) := by decide +kernel
theorem dX12_isTaken_45 : decode cX12_isTaken 45 = .ok (.goto (-40), 3) := by decide +kernel
theorem dX12_isTaken_48 : decode cX12_isTaken 48 = .ok (.iload_n 3, 1) := by decide +kernel
theorem dX12_isTaken_49 : decode cX12_isTaken 49 = .ok (.ireturn, 1) := by decide +kernel
theorem dX12_nextComer_0 : decode cX12_nextComer 0 = .ok (.aload_n 0, 1) := by decide +kernel
theorem dX12_nextComer_1 : decode cX12_nextComer 1 = .ok (.iload_n 2, 1) := by decide +kernel
theorem dX12_nextComer_2 : decode cX12_nextComer 2 = .ok (.iconst 1, 1) := by decide +kernel
theorem dX12_nextComer_3 : decode cX12_nextComer 3 = .ok (.iadd, 1) := by decide +kernel
theorem dX12_nextComer_4 : decode cX12_nextComer 4 = .ok (.invokevirtual 137, 3) := by decide +kernel
theorem dX12_nextComer_7 : decode cX12_nextComer 7 = .ok (.istore_n 3, 1) := by decide +kernel
theorem dX12_nextComer_8 : decode cX12_nextComer 8 = .ok (.iload_n 3, 1) := by decide +kernel
theorem dX12_nextComer_9 : decode cX12_nextComer 9 = .ok (.bipush 8, 2) := by decide +kernel
theorem dX12_nextComer_11 : decode cX12_nextComer 11 = .ok (.if_icmp .ge 59, 3) := by decide +kernel
theorem dX12_nextComer_14 : decode cX12_nextComer 14 = .ok (.aload_n 0, 1) := by decide +kernel
theorem dX12_nextComer_15 : decode cX12_nextComer 15 = .ok (.iload_n 3, 1) := by decide +kernel
theorem dX12_nextComer_16 : decode cX12_nextComer 16 = .ok (.iload_n 1, 1) := by decide +kernel
theorem dX12_nextComer_17 : decode cX12_nextComer 17 = .ok (.invokevirtual 140, 3) := by decide +kernel
theorem dX12_nextComer_20 : decode cX12_nextComer 20 = .ok (.ifCond .ne 39, 3) := by decide +kernel
theorem dX12_nextComer_23 : decode cX12_nextComer 23 = .ok (.iload_n 1, 1) := by decide +kernel
theorem dX12_nextComer_24 : decode cX12_nextComer 24 = .ok (.ifCond .le 46, 3) := by decide +kernel
theorem dX12_nextComer_27 : decode cX12_nextComer 27 = .ok (.aload_n 0, 1) := by decide +kernel
theorem dX12_nextComer_28 : decode cX12_nextComer 28 = .ok (.getfield 30, 3) := by decide +kernel
theorem dX12_nextComer_31 : decode cX12_nextComer 31 = .ok (.iload_n 1, 1) := by decide +kernel
theorem dX12_nextComer_32 : decode cX12_nextComer 32 = .ok (.iconst 1, 1) := by decide +kernel
theorem dX12_nextComer_33 : decode cX12_nextComer 33 = .ok (.isub, 1) := by decide +kernel
theorem dX12_nextComer_34 : decode cX12_nextComer 34 = .ok (.iaload, 1) := by decide +kernel
theorem dX12_nextComer_35 : decode cX12_nextComer 35 = .ok (.ifCond .le 35, 3) := by decide +kernel
theorem dX12_nextComer_38 : decode cX12_nextComer 38 = .ok (.aload_n 0, 1) := by decide +kernel
theorem dX12_nextComer_39 : decode cX12_nextComer 39 = .ok (.aload_n 0, 1) := by decide +kernel
theorem dX12_nextComer_40 : decode cX12_nextComer 40 = .ok (.getfield 30, 3) := by decide +kernel
theorem dX12_nextComer_43 : decode cX12_nextComer 43 = .ok (.iload_n 1, 1) := by decide +kernel
theorem dX12_nextComer_44 : decode cX12_nextComer 44 = .ok (.iconst 1, 1) := by decide +kernel
theorem dX12_nextComer_45 : decode cX12_nextComer 45 = .ok (.isub, 1) := by decide +kernel
theorem dX12_nextComer_46 : decode cX12_nextComer 46 = .ok (.iaload, 1) := by decide +kernel
theorem dX12_nextComer_47 : decode cX12_nextComer 47 = .ok (.aload_n 0, 1) := by decide +kernel
theorem dX12_nextComer_48 : decode cX12_nextComer 48 = .ok (.getfield 7, 3) := by decide +kernel
theorem dX12_nextComer_51 : decode cX12_nextComer 51 = .ok (.iload_n 3, 1) := by decide +kernel
theorem dX12_nextComer_52 : decode cX12_nextComer 52 = .ok (.iaload, 1) := by decide +kernel
theorem dX12_nextComer_53 : decode cX12_nextComer 53 = .ok (.invokevirtual 117, 3) := by decide +kernel
theorem dX12_nextComer_56 : decode cX12_nextComer 56 = .ok (.ifCond .ne 14, 3) := by decide +kernel
theorem dX12_nextComer_59 : decode cX12_nextComer 59 = .ok (.aload_n 0, 1) := by decide +kernel
theorem dX12_nextComer_60 : decode cX12_nextComer 60 = .ok (.iload_n 3, 1) := by decide +kernel
theorem dX12_nextComer_61 : decode cX12_nextComer 61 = .ok (.iconst 1, 1) := by decide +kernel
theorem dX12_nextComer_62 : decode cX12_nextComer 62 = .ok (.iadd, 1) := by decide +kernel
theorem dX12_nextComer_63 : decode cX12_nextComer 63 = .ok (.invokevirtual 137, 3) := by decide +kernel
theorem dX12_nextComer_66 : decode cX12_nextComer 66 = .ok (.istore_n 3, 1) := by decide +kernel
theorem dX12_nextComer_67 : decode cX12_nextComer 67 = .ok (.goto (-59), 3) := by decide +kernel
theorem dX12_nextComer_70 : decode cX12_nextComer 70 = .ok (.iload_n 3, 1) := by decide +kernel
theorem dX12_nextComer_71 : decode cX12_nextComer 71 = .ok (.ireturn, 1) := by decide +kernel
theorem dX12_judgeOrder_0 : decode cX12_judgeOrder 0 = .ok (.iconst 0, 1) := by decide +kernel
theorem dX12_judgeOrder_1 : decode cX12_judgeOrder 1 = .ok (.istore_n 1, 1) := by decide +kernel
theorem dX12_judgeOrder_2 : decode cX12_judgeOrder 2 = .ok (.iconst 0, 1) := by decide +kernel
theorem dX12_judgeOrder_3 : decode cX12_judgeOrder 3 = .ok (.istore_n 2, 1) := by decide +kernel
theorem dX12_judgeOrder_4 : decode cX12_judgeOrder 4 = .ok (.iload_n 2, 1) := by decide +kernel
theorem dX12_judgeOrder_5 : decode cX12_judgeOrder 5 = .ok (.bipush 8, 2) := by decide +kernel
theorem dX12_judgeOrder_7 : decode cX12_judgeOrder 7 = .ok (.if_icmp .ge 64, 3) := by decide +kernel
theorem dX12_judgeOrder_10 : decode cX12_judgeOrder 10 = .ok (.iload_n 1, 1) := by decide +kernel
theorem dX12_judgeOrder_11 : decode cX12_judgeOrder 11 = .ok (.aload_n 0, 1) := by decide +kernel
theorem dX12_judgeOrder_12 : decode cX12_judgeOrder 12 = .ok (.getfield 7, 3) := by decide +kernel
theorem dX12_judgeOrder_15 : decode cX12_judgeOrder 15 = .ok (.iload_n 2, 1) := by decide +kernel
theorem dX12_judgeOrder_16 : decode cX12_judgeOrder 16 = .ok (.iaload, 1) := by decide +kernel
theorem dX12_judgeOrder_17 : decode cX12_judgeOrder 17 = .ok (.ifCond .le 17, 3) := by decide +kernel
theorem dX12_judgeOrder_20 : decode cX12_judgeOrder 20 = .ok (.aload_n 0, 1) := by decide +kernel
theorem dX12_judgeOrder_21 : decode cX12_judgeOrder 21 = .ok (.getfield 33, 3) := by decide +kernel
theorem dX12_judgeOrder_24 : decode cX12_judgeOrder 24 = .ok (.iload_n 2, 1) := by decide +kernel
theorem dX12_judgeOrder_25 : decode cX12_judgeOrder 25 = .ok (.iaload, 1) := by decide +kernel
theorem dX12_judgeOrder_26 : decode cX12_judgeOrder 26 = .ok (.iload_n 2, 1) := by decide +kernel
theorem dX12_judgeOrder_27 : decode cX12_judgeOrder 27 = .ok (.if_icmp .eq 7, 3) := by decide +kernel
theorem dX12_judgeOrder_30 : decode cX12_judgeOrder 30 = .ok (.iconst 1, 1) := by decide +kernel
theorem dX12_judgeOrder_31 : decode cX12_judgeOrder 31 = .ok (.goto 4, 3) := by decide +kernel
theorem dX12_judgeOrder_34 : decode cX12_judgeOrder 34 = .ok (.iconst 0, 1) := by decide +kernel
theorem dX12_judgeOrder_35 : decode cX12_judgeOrder 35 = .ok (.iadd, 1) := by decide +kernel
theorem dX12_judgeOrder_36 : decode cX12_judgeOrder 36 = .ok (.istore_n 1, 1) := by decide +kernel
theorem dX12_judgeOrder_37 : decode cX12_judgeOrder 37 = .ok (.aload_n 0, 1) := by decide +kernel
theorem dX12_judgeOrder_38 : decode cX12_judgeOrder 38 = .ok (.getfield 36, 3) := by decide +kernel
theorem dX12_judgeOrder_41 : decode cX12_judgeOrder 41 = .ok (.iload_n 2, 1) := by decide +kernel
theorem dX12_judgeOrder_42 : decode cX12_judgeOrder 42 = .ok (.aload_n 0, 1) := by decide +kernel
theorem dX12_judgeOrder_43 : decode cX12_judgeOrder 43 = .ok (.getfield 143, 3) := by decide +kernel
theorem dX12_judgeOrder_46 : decode cX12_judgeOrder 46 = .ok (.ifCond .ne 12, 3) := by decide +kernel
theorem dX12_judgeOrder_49 : decode cX12_judgeOrder 49 = .ok (.aload_n 0, 1) := by decide +kernel
theorem dX12_judgeOrder_50 : decode cX12_judgeOrder 50 = .ok (.getfield 30, 3) := by decide +kernel
theorem dX12_judgeOrder_53 : decode cX12_judgeOrder 53 = .ok (.iload_n 2, 1) := by decide +kernel
theorem dX12_judgeOrder_54 : decode cX12_judgeOrder 54 = .ok (.iaload, 1) := by decide +kernel
theorem dX12_judgeOrder_55 : decode cX12_judgeOrder 55 = .ok (.goto 9, 3) := by decide +kernel
theorem dX12_judgeOrder_58 : decode cX12_judgeOrder 58 = .ok (.aload_n 0, 1) := by decide +kernel
theorem dX12_judgeOrder_59 : decode cX12_judgeOrder 59 = .ok (.getfield 36, 3) := by decide +kernel
theorem dX12_judgeOrder_62 : decode cX12_judgeOrder 62 = .ok (.iload_n 2, 1) := by decide +kernel
theorem dX12_judgeOrder_63 : decode cX12_judgeOrder 63 = .ok (.iaload, 1) := by decide +kernel
theorem dX12_judgeOrder_64 : decode cX12_judgeOrder 64 = .ok (.iastore, 1) := by decide +kernel
theorem dX12_judgeOrder_65 : decode cX12_judgeOrder 65 = .ok (.iinc 2 1, 3) := by decide +kernel
theorem dX12_judgeOrder_68 : decode cX12_judgeOrder 68 = .ok (.goto (-64), 3) := by decide +kernel
theorem dX12_judgeOrder_71 : decode cX12_judgeOrder 71 = .ok (.aload_n 0, 1) := by decide +kernel
theorem dX12_judgeOrder_72 : decode cX12_judgeOrder 72 = .ok (.dup, 1) := by decide +kernel
theorem dX12_judgeOrder_73 : decode cX12_judgeOrder 73 = .ok (.getfield 143, 3) := by decide +kernel
theorem dX12_judgeOrder_76 : decode cX12_judgeOrder 76 = .ok (.iconst 1, 1) := by decide +kernel
theorem dX12_judgeOrder_77 : decode cX12_judgeOrder 77 = .ok (.iadd, 1) := by decide +kernel
theorem dX12_judgeOrder_78 : decode cX12_judgeOrder 78 = .ok (.putfield 143, 3) := by decide +kernel
theorem dX12_judgeOrder_81 : decode cX12_judgeOrder 81 = .ok (.aload_n 0, 1) := by decide +kernel
theorem dX12_judgeOrder_82 : decode cX12_judgeOrder 82 = .ok (.iload_n 1, 1) := by decide +kernel
theorem dX12_judgeOrder_83 : decode cX12_judgeOrder 83 = .ok (.aload_n 0, 1) := by decide +kernel
theorem dX12_judgeOrder_84 : decode cX12_judgeOrder 84 = .ok (.getfield 147, 3) := by decide +kernel
theorem dX12_judgeOrder_87 : decode cX12_judgeOrder 87 = .ok (.if_icmp .ge 7, 3) := by decide +kernel
theorem dX12_judgeOrder_90 : decode cX12_judgeOrder 90 = .ok (.iload_n 1, 1) := by decide +kernel
theorem dX12_judgeOrder_91 : decode cX12_judgeOrder 91 = .ok (.goto 7, 3) := by decide +kernel
theorem dX12_judgeOrder_94 : decode cX12_judgeOrder 94 = .ok (.aload_n 0, 1) := by decide +kernel
theorem dX12_judgeOrder_95 : decode cX12_judgeOrder 95 = .ok (.getfield 147, 3) := by decide +kernel
theorem dX12_judgeOrder_98 : decode cX12_judgeOrder 98 = .ok (.putfield 147, 3) := by decide +kernel
theorem dX12_judgeOrder_101 : decode cX12_judgeOrder 101 = .ok (.return_, 1) := by decide +kernel
theorem dX12_layOrders_0 : decode cX12_layOrders 0 = .ok (.aload_n 0, 1) := by decide +kernel
theorem dX12_layOrders_1 : decode cX12_layOrders 1 = .ok (.iconst 0, 1) := by decide +kernel
theorem dX12_layOrders_2 : decode cX12_layOrders 2 = .ok (.putfield 143, 3) := by decide +kernel
theorem dX12_layOrders_5 : decode cX12_layOrders 5 = .ok (.aload_n 0, 1) := by decide +kernel
theorem dX12_layOrders_6 : decode cX12_layOrders 6 = .ok (.ldc 150, 2) := by decide +kernel
theorem dX12_layOrders_8 : decode cX12_layOrders 8 = .ok (.putfield 147, 3) := by decide +kernel
theorem dX12_layOrders_11 : decode cX12_layOrders 11 = .ok (.iconst 0, 1) := by decide +kernel
theorem dX12_layOrders_12 : decode cX12_layOrders 12 = .ok (.istore_n 1, 1) := by decide +kernel
theorem dX12_layOrders_13 : decode cX12_layOrders 13 = .ok (.iload_n 1, 1) := by decide +kernel
theorem dX12_layOrders_14 : decode cX12_layOrders 14 = .ok (.bipush 8, 2) := by decide +kernel
theorem dX12_layOrders_16 : decode cX12_layOrders 16 = .ok (.if_icmp .ge 23, 3) := by decide +kernel
theorem dX12_layOrders_19 : decode cX12_layOrders 19 = .ok (.aload_n 0, 1) := by decide +kernel
theorem dX12_layOrders_20 : decode cX12_layOrders 20 = .ok (.getfield 30, 3) := by decide +kernel
theorem dX12_layOrders_23 : decode cX12_layOrders 23 = .ok (.iload_n 1, 1) := by decide +kernel
theorem dX12_layOrders_24 : decode cX12_layOrders 24 = .ok (.iconst 0, 1) := by decide +kernel
theorem dX12_layOrders_25 : decode cX12_layOrders 25 = .ok (.iastore, 1) := by decide +kernel
theorem dX12_layOrders_26 : decode cX12_layOrders 26 = .ok (.aload_n 0, 1) := by decide +kernel
theorem dX12_layOrders_27 : decode cX12_layOrders 27 = .ok (.getfield 33, 3) := by decide +kernel
theorem dX12_layOrders_30 : decode cX12_layOrders 30 = .ok (.iload_n 1, 1) := by decide +kernel
theorem dX12_layOrders_31 : decode cX12_layOrders 31 = .ok (.iconst (-1), 1) := by decide +kernel
theorem dX12_layOrders_32 : decode cX12_layOrders 32 = .ok (.iastore, 1) := by decide +kernel
theorem dX12_layOrders_33 : decode cX12_layOrders 33 = .ok (.iinc 1 1, 3) := by decide +kernel
theorem dX12_layOrders_36 : decode cX12_layOrders 36 = .ok (.goto (-23), 3) := by decide +kernel
theorem dX12_layOrders_39 : decode cX12_layOrders 39 = .ok (.aload_n 0, 1) := by decide +kernel
theorem dX12_layOrders_40 : decode cX12_layOrders 40 = .ok (.iconst 0, 1) := by decide +kernel
theorem dX12_layOrders_41 : decode cX12_layOrders 41 = .ok (.invokevirtual 137, 3) := by decide +kernel
theorem dX12_layOrders_44 : decode cX12_layOrders 44 = .ok (.istore_n 1, 1) := by decide +kernel
theorem dX12_layOrders_45 : decode cX12_layOrders 45 = .ok (.iload_n 1, 1) := by decide +kernel
theorem dX12_layOrders_46 : decode cX12_layOrders 46 = .ok (.ifCond .lt 117, 3) := by decide +kernel
theorem dX12_layOrders_49 : decode cX12_layOrders 49 = .ok (.iload_n 1, 1) := by decide +kernel
theorem dX12_layOrders_50 : decode cX12_layOrders 50 = .ok (.bipush 8, 2) := by decide +kernel
theorem dX12_layOrders_52 : decode cX12_layOrders 52 = .ok (.if_icmp .ne 17, 3) := by decide +kernel
theorem dX12_layOrders_55 : decode cX12_layOrders 55 = .ok (.aload_n 0, 1) := by decide +kernel
theorem dX12_layOrders_56 : decode cX12_layOrders 56 = .ok (.invokevirtual 151, 3) := by decide +kernel
theorem dX12_layOrders_59 : decode cX12_layOrders 59 = .ok (.aload_n 0, 1) := by decide +kernel
theorem dX12_layOrders_60 : decode cX12_layOrders 60 = .ok (.bipush 7, 2) := by decide +kernel
theorem dX12_layOrders_62 : decode cX12_layOrders 62 = .ok (.invokevirtual 154, 3) := by decide +kernel
theorem dX12_layOrders_65 : decode cX12_layOrders 65 = .ok (.istore_n 1, 1) := by decide +kernel
theorem dX12_layOrders_66 : decode cX12_layOrders 66 = .ok (.goto (-21), 3) := by decide +kernel
theorem dX12_layOrders_69 : decode cX12_layOrders 69 = .ok (.aload_n 0, 1) := by decide +kernel
theorem dX12_layOrders_70 : decode cX12_layOrders 70 = .ok (.getfield 30, 3) := by decide +kernel
theorem dX12_layOrders_73 : decode cX12_layOrders 73 = .ok (.iload_n 1, 1) := by decide +kernel
theorem dX12_layOrders_74 : decode cX12_layOrders 74 = .ok (.iconst 0, 1) := by decide +kernel
theorem dX12_layOrders_75 : decode cX12_layOrders 75 = .ok (.iastore, 1) := by decide +kernel
theorem dX12_layOrders_76 : decode cX12_layOrders 76 = .ok (.aload_n 0, 1) := by decide +kernel
theorem dX12_layOrders_77 : decode cX12_layOrders 77 = .ok (.getfield 33, 3) := by decide +kernel
theorem dX12_layOrders_80 : decode cX12_layOrders 80 = .ok (.iload_n 1, 1) := by decide +kernel
theorem dX12_layOrders_81 : decode cX12_layOrders 81 = .ok (.aload_n 0, 1) := by decide +kernel
theorem dX12_layOrders_82 : decode cX12_layOrders 82 = .ok (.iload_n 1, 1) := by decide +kernel
theorem dX12_layOrders_83 : decode cX12_layOrders 83 = .ok (.aload_n 0, 1) := by decide +kernel
theorem dX12_layOrders_84 : decode cX12_layOrders 84 = .ok (.getfield 33, 3) := by decide +kernel
theorem dX12_layOrders_87 : decode cX12_layOrders 87 = .ok (.iload_n 1, 1) := by decide +kernel
theorem dX12_layOrders_88 : decode cX12_layOrders 88 = .ok (.iaload, 1) := by decide +kernel
theorem dX12_layOrders_89 : decode cX12_layOrders 89 = .ok (.invokevirtual 157, 3) := by decide +kernel
theorem dX12_layOrders_92 : decode cX12_layOrders 92 = .ok (.iastore, 1) := by decide +kernel
theorem dX12_layOrders_93 : decode cX12_layOrders 93 = .ok (.aload_n 0, 1) := by decide +kernel
theorem dX12_layOrders_94 : decode cX12_layOrders 94 = .ok (.getfield 33, 3) := by decide +kernel
theorem dX12_layOrders_97 : decode cX12_layOrders 97 = .ok (.iload_n 1, 1) := by decide +kernel
theorem dX12_layOrders_98 : decode cX12_layOrders 98 = .ok (.iaload, 1) := by decide +kernel
theorem dX12_layOrders_99 : decode cX12_layOrders 99 = .ok (.bipush 8, 2) := by decide +kernel
theorem dX12_layOrders_101 : decode cX12_layOrders 101 = .ok (.if_icmp .ne 21, 3) := by decide +kernel
theorem dX12_layOrders_104 : decode cX12_layOrders 104 = .ok (.aload_n 0, 1) := by decide +kernel
theorem dX12_layOrders_105 : decode cX12_layOrders 105 = .ok (.getfield 33, 3) := by decide +kernel
theorem dX12_layOrders_108 : decode cX12_layOrders 108 = .ok (.iload_n 1, 1) := by decide +kernel
theorem dX12_layOrders_109 : decode cX12_layOrders 109 = .ok (.iconst (-1), 1) := by decide +kernel
theorem dX12_layOrders_110 : decode cX12_layOrders 110 = .ok (.iastore, 1) := by decide +kernel
theorem dX12_layOrders_111 : decode cX12_layOrders 111 = .ok (.aload_n 0, 1) := by decide +kernel
theorem dX12_layOrders_112 : decode cX12_layOrders 112 = .ok (.iload_n 1, 1) := by decide +kernel
theorem dX12_layOrders_113 : decode cX12_layOrders 113 = .ok (.iconst 1, 1) := by decide +kernel
theorem dX12_layOrders_114 : decode cX12_layOrders 114 = .ok (.isub, 1) := by decide +kernel
theorem dX12_layOrders_115 : decode cX12_layOrders 115 = .ok (.invokevirtual 154, 3) := by decide +kernel
theorem dX12_layOrders_118 : decode cX12_layOrders 118 = .ok (.istore_n 1, 1) := by decide +kernel
theorem dX12_layOrders_119 : decode cX12_layOrders 119 = .ok (.goto (-74), 3) := by decide +kernel
theorem dX12_layOrders_122 : decode cX12_layOrders 122 = .ok (.aload_n 0, 1) := by decide +kernel
theorem dX12_layOrders_123 : decode cX12_layOrders 123 = .ok (.getfield 30, 3) := by decide +kernel
theorem dX12_layOrders_126 : decode cX12_layOrders 126 = .ok (.iload_n 1, 1) := by decide +kernel
theorem dX12_layOrders_127 : decode cX12_layOrders 127 = .ok (.aload_n 0, 1) := by decide +kernel
theorem dX12_layOrders_128 : decode cX12_layOrders 128 = .ok (.getfield 7, 3) := by decide +kernel
theorem dX12_layOrders_131 : decode cX12_layOrders 131 = .ok (.aload_n 0, 1) := by decide +kernel
theorem dX12_layOrders_132 : decode cX12_layOrders 132 = .ok (.getfield 33, 3) := by decide +kernel
theorem dX12_layOrders_135 : decode cX12_layOrders 135 = .ok (.iload_n 1, 1) := by decide +kernel
theorem dX12_layOrders_136 : decode cX12_layOrders 136 = .ok (.iaload, 1) := by decide +kernel
theorem dX12_layOrders_137 : decode cX12_layOrders 137 = .ok (.iaload, 1) := by decide +kernel
theorem dX12_layOrders_138 : decode cX12_layOrders 138 = .ok (.iastore, 1) := by decide +kernel
theorem dX12_layOrders_139 : decode cX12_layOrders 139 = .ok (.aload_n 0, 1) := by decide +kernel
theorem dX12_layOrders_140 : decode cX12_layOrders 140 = .ok (.iload_n 1, 1) := by decide +kernel
theorem dX12_layOrders_141 : decode cX12_layOrders 141 = .ok (.iconst 1, 1) := by decide +kernel
theorem dX12_layOrders_142 : decode cX12_layOrders 142 = .ok (.iadd, 1) := by decide +kernel
theorem dX12_layOrders_143 : decode cX12_layOrders 143 = .ok (.invokevirtual 137, 3) := by decide +kernel
theorem dX12_layOrders_146 : decode cX12_layOrders 146 = .ok (.istore_n 1, 1) := by decide +kernel
theorem dX12_layOrders_147 : decode cX12_layOrders 147 = .ok (.iload_n 1, 1) := by decide +kernel
theorem dX12_layOrders_148 : decode cX12_layOrders 148 = .ok (.bipush 8, 2) := by decide +kernel
theorem dX12_layOrders_150 : decode cX12_layOrders 150 = .ok (.if_icmp .ge (-105), 3) := by decide +kernel
theorem dX12_layOrders_153 : decode cX12_layOrders 153 = .ok (.aload_n 0, 1) := by decide +kernel
theorem dX12_layOrders_154 : decode cX12_layOrders 154 = .ok (.getfield 33, 3) := by decide +kernel
theorem dX12_layOrders_157 : decode cX12_layOrders 157 = .ok (.iload_n 1, 1) := by decide +kernel
theorem dX12_layOrders_158 : decode cX12_layOrders 158 = .ok (.iconst (-1), 1) := by decide +kernel
theorem dX12_layOrders_159 : decode cX12_layOrders 159 = .ok (.iastore, 1) := by decide +kernel
theorem dX12_layOrders_160 : decode cX12_layOrders 160 = .ok (.goto (-115), 3) := by decide +kernel
theorem dX12_layOrders_163 : decode cX12_layOrders 163 = .ok (.return_, 1) := by decide +kernel
theorem dX12_orders_0 : decode cX12_orders 0 = .ok (.iload_n 1, 1) := by decide +kernel
theorem dX12_orders_1 : decode cX12_orders 1 = .ok (.i2l, 1) := by decide +kernel
theorem dX12_orders_2 : decode cX12_orders 2 = .ok (.ldc2_w 161, 3) := by decide +kernel
theorem dX12_orders_5 : decode cX12_orders 5 = .ok (.ldc2_w 57, 3) := by decide +kernel
theorem dX12_orders_8 : decode cX12_orders 8 = .ok (.invokestatic 59, 3) := by decide +kernel
theorem dX12_orders_11 : decode cX12_orders 11 = .ok (.ifCond .ne 10, 3) := by decide +kernel
theorem dX12_orders_14 : decode cX12_orders 14 = .ok (.aload_n 0, 1) := by decide +kernel
theorem dX12_orders_15 : decode cX12_orders 15 = .ok (.bipush (-10), 2) := by decide +kernel
theorem dX12_orders_17 : decode cX12_orders 17 = .ok (.invokevirtual 87, 3) := by decide +kernel
theorem dX12_orders_20 : decode cX12_orders 20 = .ok (.ireturn, 1) := by decide +kernel
theorem dX12_orders_21 : decode cX12_orders 21 = .ok (.aload_n 0, 1) := by decide +kernel
theorem dX12_orders_22 : decode cX12_orders 22 = .ok (.invokevirtual 163, 3) := by decide +kernel
theorem dX12_orders_25 : decode cX12_orders 25 = .ok (.iload_n 1, 1) := by decide +kernel
theorem dX12_orders_26 : decode cX12_orders 26 = .ok (.iconst (-1), 1) := by decide +kernel
theorem dX12_orders_27 : decode cX12_orders 27 = .ok (.if_icmp .ne 10, 3) := by decide +kernel
theorem dX12_orders_30 : decode cX12_orders 30 = .ok (.aload_n 0, 1) := by decide +kernel
theorem dX12_orders_31 : decode cX12_orders 31 = .ok (.getfield 143, 3) := by decide +kernel
theorem dX12_orders_34 : decode cX12_orders 34 = .ok (.goto 20, 3) := by decide +kernel
theorem dX12_orders_37 : decode cX12_orders 37 = .ok (.aload_n 0, 1) := by decide +kernel
theorem dX12_orders_38 : decode cX12_orders 38 = .ok (.getfield 143, 3) := by decide +kernel
theorem dX12_orders_41 : decode cX12_orders 41 = .ok (.ifCond .ne 7, 3) := by decide +kernel
theorem dX12_orders_44 : decode cX12_orders 44 = .ok (.iconst (-1), 1) := by decide +kernel
theorem dX12_orders_45 : decode cX12_orders 45 = .ok (.goto 9, 3) := by decide +kernel
theorem dX12_orders_48 : decode cX12_orders 48 = .ok (.aload_n 0, 1) := by decide +kernel
theorem dX12_orders_49 : decode cX12_orders 49 = .ok (.getfield 36, 3) := by decide +kernel
theorem dX12_orders_52 : decode cX12_orders 52 = .ok (.iload_n 1, 1) := by decide +kernel
theorem dX12_orders_53 : decode cX12_orders 53 = .ok (.iaload, 1) := by decide +kernel
theorem dX12_orders_54 : decode cX12_orders 54 = .ok (.ireturn, 1) := by decide +kernel
theorem dX12_moved_0 : decode cX12_moved 0 = .ok (.aload_n 0, 1) := by decide +kernel
theorem dX12_moved_1 : decode cX12_moved 1 = .ok (.invokevirtual 163, 3) := by decide +kernel
theorem dX12_moved_4 : decode cX12_moved 4 = .ok (.aload_n 0, 1) := by decide +kernel
theorem dX12_moved_5 : decode cX12_moved 5 = .ok (.getfield 143, 3) := by decide +kernel
theorem dX12_moved_8 : decode cX12_moved 8 = .ok (.ifCond .ne 7, 3) := by decide +kernel
theorem dX12_moved_11 : decode cX12_moved 11 = .ok (.iconst (-1), 1) := by decide +kernel
theorem dX12_moved_12 : decode cX12_moved 12 = .ok (.goto 7, 3) := by decide +kernel
theorem dX12_moved_15 : decode cX12_moved 15 = .ok (.aload_n 0, 1) := by decide +kernel
theorem dX12_moved_16 : decode cX12_moved 16 = .ok (.getfield 147, 3) := by decide +kernel
theorem dX12_moved_19 : decode cX12_moved 19 = .ok (.ireturn, 1) := by decide +kernel
theorem dX12_areApart_0 : decode cX12_areApart 0 = .ok (.aload_n 0, 1) := by decide +kernel
theorem dX12_areApart_1 : decode cX12_areApart 1 = .ok (.getfield 7, 3) := by decide +kernel
theorem dX12_areApart_4 : decode cX12_areApart 4 = .ok (.iload_n 1, 1) := by decide +kernel
theorem dX12_areApart_5 : decode cX12_areApart 5 = .ok (.iaload, 1) := by decide +kernel
theorem dX12_areApart_6 : decode cX12_areApart 6 = .ok (.aload_n 0, 1) := by decide +kernel
theorem dX12_areApart_7 : decode cX12_areApart 7 = .ok (.getfield 7, 3) := by decide +kernel
theorem dX12_areApart_10 : decode cX12_areApart 10 = .ok (.iload_n 2, 1) := by decide +kernel
theorem dX12_areApart_11 : decode cX12_areApart 11 = .ok (.iaload, 1) := by decide +kernel
theorem dX12_areApart_12 : decode cX12_areApart 12 = .ok (.invokestatic 69, 3) := by decide +kernel
theorem dX12_areApart_15 : decode cX12_areApart 15 = .ok (.ifCond .ne 25, 3) := by decide +kernel
theorem dX12_areApart_18 : decode cX12_areApart 18 = .ok (.aload_n 0, 1) := by decide +kernel
theorem dX12_areApart_19 : decode cX12_areApart 19 = .ok (.getfield 7, 3) := by decide +kernel
theorem dX12_areApart_22 : decode cX12_areApart 22 = .ok (.iload_n 2, 1) := by decide +kernel
theorem dX12_areApart_23 : decode cX12_areApart 23 = .ok (.iaload, 1) := by decide +kernel
theorem dX12_areApart_24 : decode cX12_areApart 24 = .ok (.aload_n 0, 1) := by decide +kernel
theorem dX12_areApart_25 : decode cX12_areApart 25 = .ok (.getfield 7, 3) := by decide +kernel
theorem dX12_areApart_28 : decode cX12_areApart 28 = .ok (.iload_n 1, 1) := by decide +kernel
theorem dX12_areApart_29 : decode cX12_areApart 29 = .ok (.iaload, 1) := by decide +kernel
theorem dX12_areApart_30 : decode cX12_areApart 30 = .ok (.invokestatic 69, 3) := by decide +kernel
theorem dX12_areApart_33 : decode cX12_areApart 33 = .ok (.ifCond .ne 7, 3) := by decide +kernel
theorem dX12_areApart_36 : decode cX12_areApart 36 = .ok (.iconst 1, 1) := by decide +kernel
theorem dX12_areApart_37 : decode cX12_areApart 37 = .ok (.goto 4, 3) := by decide +kernel
theorem dX12_areApart_40 : decode cX12_areApart 40 = .ok (.iconst 0, 1) := by decide +kernel
theorem dX12_areApart_41 : decode cX12_areApart 41 = .ok (.ireturn, 1) := by decide +kernel
theorem dX12_lastsOf_0 : decode cX12_lastsOf 0 = .ok (.iconst 0, 1) := by decide +kernel
theorem dX12_lastsOf_1 : decode cX12_lastsOf 1 = .ok (.istore_n 2, 1) := by decide +kernel
theorem dX12_lastsOf_2 : decode cX12_lastsOf 2 = .ok (.iconst 0, 1) := by decide +kernel
theorem dX12_lastsOf_3 : decode cX12_lastsOf 3 = .ok (.istore_n 3, 1) := by decide +kernel
theorem dX12_lastsOf_4 : decode cX12_lastsOf 4 = .ok (.iload_n 3, 1) := by decide +kernel
theorem dX12_lastsOf_5 : decode cX12_lastsOf 5 = .ok (.bipush 8, 2) := by decide +kernel
theorem dX12_lastsOf_7 : decode cX12_lastsOf 7 = .ok (.if_icmp .ge 108, 3) := by decide +kernel
theorem dX12_lastsOf_10 : decode cX12_lastsOf 10 = .ok (.iload_n 1, 1) := by decide +kernel
theorem dX12_lastsOf_11 : decode cX12_lastsOf 11 = .ok (.iload_n 3, 1) := by decide +kernel
theorem dX12_lastsOf_12 : decode cX12_lastsOf 12 = .ok (.ishr, 1) := by decide +kernel
theorem dX12_lastsOf_13 : decode cX12_lastsOf 13 = .ok (.iconst 1, 1) := by decide +kernel
theorem dX12_lastsOf_14 : decode cX12_lastsOf 14 = .ok (.iand, 1) := by decide +kernel
theorem dX12_lastsOf_15 : decode cX12_lastsOf 15 = .ok (.iconst 1, 1) := by decide +kernel
theorem dX12_lastsOf_16 : decode cX12_lastsOf 16 = .ok (.if_icmp .ne 93, 3) := by decide +kernel
theorem dX12_lastsOf_19 : decode cX12_lastsOf 19 = .ok (.iload_n 1, 1) := by decide +kernel
theorem dX12_lastsOf_20 : decode cX12_lastsOf 20 = .ok (.iconst 1, 1) := by decide +kernel
theorem dX12_lastsOf_21 : decode cX12_lastsOf 21 = .ok (.iload_n 3, 1) := by decide +kernel
theorem dX12_lastsOf_22 : decode cX12_lastsOf 22 = .ok (.ishl, 1) := by decide +kernel
theorem dX12_lastsOf_23 : decode cX12_lastsOf 23 = .ok (.iconst (-1), 1) := by decide +kernel
theorem dX12_lastsOf_24 : decode cX12_lastsOf 24 = .ok (.ixor, 1) := by decide +kernel
theorem dX12_lastsOf_25 : decode cX12_lastsOf 25 = .ok (.iand, 1) := by decide +kernel
theorem dX12_lastsOf_26 : decode cX12_lastsOf 26 = .ok (.istore 4, 2) := by decide +kernel
theorem dX12_lastsOf_28 : decode cX12_lastsOf 28 = .ok (.iload 4, 2) := by decide +kernel
theorem dX12_lastsOf_30 : decode cX12_lastsOf 30 = .ok (.ifCond .ne 7, 3) := by decide +kernel
theorem dX12_lastsOf_33 : decode cX12_lastsOf 33 = .ok (.iconst 1, 1) := by decide +kernel
theorem dX12_lastsOf_34 : decode cX12_lastsOf 34 = .ok (.goto 4, 3) := by decide +kernel
theorem dX12_lastsOf_37 : decode cX12_lastsOf 37 = .ok (.iconst 0, 1) := by decide +kernel
theorem dX12_lastsOf_38 : decode cX12_lastsOf 38 = .ok (.istore 5, 2) := by decide +kernel
theorem dX12_lastsOf_40 : decode cX12_lastsOf 40 = .ok (.iconst 0, 1) := by decide +kernel
theorem dX12_lastsOf_41 : decode cX12_lastsOf 41 = .ok (.istore 6, 2) := by decide +kernel
theorem dX12_lastsOf_43 : decode cX12_lastsOf 43 = .ok (.iload 6, 2) := by decide +kernel
theorem dX12_lastsOf_45 : decode cX12_lastsOf 45 = .ok (.bipush 8, 2) := by decide +kernel
theorem dX12_lastsOf_47 : decode cX12_lastsOf 47 = .ok (.if_icmp .ge 47, 3) := by decide +kernel
theorem dX12_lastsOf_50 : decode cX12_lastsOf 50 = .ok (.iload 5, 2) := by decide +kernel
theorem dX12_lastsOf_52 : decode cX12_lastsOf 52 = .ok (.ifCond .ne 29, 3) := by decide +kernel
theorem dX12_lastsOf_55 : decode cX12_lastsOf 55 = .ok (.aload_n 0, 1) := by decide +kernel
theorem dX12_lastsOf_56 : decode cX12_lastsOf 56 = .ok (.getfield 39, 3) := by decide +kernel
theorem dX12_lastsOf_59 : decode cX12_lastsOf 59 = .ok (.iload 4, 2) := by decide +kernel
theorem dX12_lastsOf_61 : decode cX12_lastsOf 61 = .ok (.iaload, 1) := by decide +kernel
theorem dX12_lastsOf_62 : decode cX12_lastsOf 62 = .ok (.iload 6, 2) := by decide +kernel
theorem dX12_lastsOf_64 : decode cX12_lastsOf 64 = .ok (.ishr, 1) := by decide +kernel
theorem dX12_lastsOf_65 : decode cX12_lastsOf 65 = .ok (.iconst 1, 1) := by decide +kernel
theorem dX12_lastsOf_66 : decode cX12_lastsOf 66 = .ok (.iand, 1) := by decide +kernel
theorem dX12_lastsOf_67 : decode cX12_lastsOf 67 = .ok (.iconst 1, 1) := by decide +kernel
theorem dX12_lastsOf_68 : decode cX12_lastsOf 68 = .ok (.if_icmp .ne 17, 3) := by decide +kernel
theorem dX12_lastsOf_71 : decode cX12_lastsOf 71 = .ok (.aload_n 0, 1) := by decide +kernel
theorem dX12_lastsOf_72 : decode cX12_lastsOf 72 = .ok (.iload_n 3, 1) := by decide +kernel
theorem dX12_lastsOf_73 : decode cX12_lastsOf 73 = .ok (.iload 6, 2) := by decide +kernel
theorem dX12_lastsOf_75 : decode cX12_lastsOf 75 = .ok (.invokevirtual 166, 3) := by decide +kernel
theorem dX12_lastsOf_78 : decode cX12_lastsOf 78 = .ok (.ifCond .eq 7, 3) := by decide +kernel
theorem dX12_lastsOf_81 : decode cX12_lastsOf 81 = .ok (.iconst 1, 1) := by decide +kernel
theorem dX12_lastsOf_82 : decode cX12_lastsOf 82 = .ok (.goto 4, 3) := by decide +kernel
theorem dX12_lastsOf_85 : decode cX12_lastsOf 85 = .ok (.iconst 0, 1) := by decide +kernel
theorem dX12_lastsOf_86 : decode cX12_lastsOf 86 = .ok (.istore 5, 2) := by decide +kernel
theorem dX12_lastsOf_88 : decode cX12_lastsOf 88 = .ok (.iinc 6 1, 3) := by decide +kernel
theorem dX12_lastsOf_91 : decode cX12_lastsOf 91 = .ok (.goto (-48), 3) := by decide +kernel
theorem dX12_lastsOf_94 : decode cX12_lastsOf 94 = .ok (.iload_n 2, 1) := by decide +kernel
theorem dX12_lastsOf_95 : decode cX12_lastsOf 95 = .ok (.iload 5, 2) := by decide +kernel
theorem dX12_lastsOf_97 : decode cX12_lastsOf 97 = .ok (.ifCond .eq 9, 3) := by decide +kernel
theorem dX12_lastsOf_100 : decode cX12_lastsOf 100 = .ok (.iconst 1, 1) := by decide +kernel
theorem dX12_lastsOf_101 : decode cX12_lastsOf 101 = .ok (.iload_n 3, 1) := by decide +kernel
theorem dX12_lastsOf_102 : decode cX12_lastsOf 102 = .ok (.ishl, 1) := by decide +kernel
theorem dX12_lastsOf_103 : decode cX12_lastsOf 103 = .ok (.goto 4, 3) := by decide +kernel
theorem dX12_lastsOf_106 : decode cX12_lastsOf 106 = .ok (.iconst 0, 1) := by decide +kernel
theorem dX12_lastsOf_107 : decode cX12_lastsOf 107 = .ok (.ior, 1) := by decide +kernel
theorem dX12_lastsOf_108 : decode cX12_lastsOf 108 = .ok (.istore_n 2, 1) := by decide +kernel
theorem dX12_lastsOf_109 : decode cX12_lastsOf 109 = .ok (.iinc 3 1, 3) := by decide +kernel
theorem dX12_lastsOf_112 : decode cX12_lastsOf 112 = .ok (.goto (-108), 3) := by decide +kernel
theorem dX12_lastsOf_115 : decode cX12_lastsOf 115 = .ok (.iload_n 2, 1) := by decide +kernel
theorem dX12_lastsOf_116 : decode cX12_lastsOf 116 = .ok (.ireturn, 1) := by decide +kernel
theorem dX12_longest_0 : decode cX12_longest 0 = .ok (.aload_n 0, 1) := by decide +kernel
theorem dX12_longest_1 : decode cX12_longest 1 = .ok (.invokevirtual 91, 3) := by decide +kernel
theorem dX12_longest_4 : decode cX12_longest 4 = .ok (.istore_n 1, 1) := by decide +kernel
theorem dX12_longest_5 : decode cX12_longest 5 = .ok (.iconst 0, 1) := by decide +kernel
theorem dX12_longest_6 : decode cX12_longest 6 = .ok (.istore_n 2, 1) := by decide +kernel
theorem dX12_longest_7 : decode cX12_longest 7 = .ok (.aload_n 0, 1) := by decide +kernel
theorem dX12_longest_8 : decode cX12_longest 8 = .ok (.getfield 39, 3) := by decide +kernel
theorem dX12_longest_11 : decode cX12_longest 11 = .ok (.iconst 0, 1) := by decide +kernel
theorem dX12_longest_12 : decode cX12_longest 12 = .ok (.iconst 0, 1) := by decide +kernel
theorem dX12_longest_13 : decode cX12_longest 13 = .ok (.iastore, 1) := by decide +kernel
theorem dX12_longest_14 : decode cX12_longest 14 = .ok (.iconst 1, 1) := by decide +kernel
theorem dX12_longest_15 : decode cX12_longest 15 = .ok (.istore_n 3, 1) := by decide +kernel
theorem dX12_longest_16 : decode cX12_longest 16 = .ok (.iload_n 3, 1) := by decide +kernel
theorem dX12_longest_17 : decode cX12_longest 17 = .ok (.sipush 256, 3) := by decide +kernel
theorem dX12_longest_20 : decode cX12_longest 20 = .ok (.if_icmp .ge 58, 3) := by decide +kernel
theorem dX12_longest_23 : decode cX12_longest 23 = .ok (.aload_n 0, 1) := by decide +kernel
theorem dX12_longest_24 : decode cX12_longest 24 = .ok (.getfield 39, 3) := by decide +kernel
theorem dX12_longest_27 : decode cX12_longest 27 = .ok (.iload_n 3, 1) := by decide +kernel
theorem dX12_longest_28 : decode cX12_longest 28 = .ok (.iload_n 3, 1) := by decide +kernel
theorem dX12_longest_29 : decode cX12_longest 29 = .ok (.iload_n 1, 1) := by decide +kernel
theorem dX12_longest_30 : decode cX12_longest 30 = .ok (.iconst (-1), 1) := by decide +kernel
theorem dX12_longest_31 : decode cX12_longest 31 = .ok (.ixor, 1) := by decide +kernel
theorem dX12_longest_32 : decode cX12_longest 32 = .ok (.iand, 1) := by decide +kernel
theorem dX12_longest_33 : decode cX12_longest 33 = .ok (.ifCond .ne 11, 3) := by decide +kernel
theorem dX12_longest_36 : decode cX12_longest 36 = .ok (.aload_n 0, 1) := by decide +kernel
theorem dX12_longest_37 : decode cX12_longest 37 = .ok (.iload_n 3, 1) := by decide +kernel
theorem dX12_longest_38 : decode cX12_longest 38 = .ok (.invokevirtual 169, 3) := by decide +kernel
theorem dX12_longest_41 : decode cX12_longest 41 = .ok (.goto 4, 3) := by decide +kernel
theorem dX12_longest_44 : decode cX12_longest 44 = .ok (.iconst 0, 1) := by decide +kernel
theorem dX12_longest_45 : decode cX12_longest 45 = .ok (.iastore, 1) := by decide +kernel
theorem dX12_longest_46 : decode cX12_longest 46 = .ok (.aload_n 0, 1) := by decide +kernel
theorem dX12_longest_47 : decode cX12_longest 47 = .ok (.getfield 39, 3) := by decide +kernel
theorem dX12_longest_50 : decode cX12_longest 50 = .ok (.iload_n 3, 1) := by decide +kernel
theorem dX12_longest_51 : decode cX12_longest 51 = .ok (.iaload, 1) := by decide +kernel
theorem dX12_longest_52 : decode cX12_longest 52 = .ok (.ifCond .eq 18, 3) := by decide +kernel
theorem dX12_longest_55 : decode cX12_longest 55 = .ok (.iload_n 3, 1) := by decide +kernel
theorem dX12_longest_56 : decode cX12_longest 56 = .ok (.invokestatic 95, 3) := by decide +kernel
theorem dX12_longest_59 : decode cX12_longest 59 = .ok (.iload_n 2, 1) := by decide +kernel
theorem dX12_longest_60 : decode cX12_longest 60 = .ok (.if_icmp .le 10, 3) := by decide +kernel
theorem dX12_longest_63 : decode cX12_longest 63 = .ok (.iload_n 3, 1) := by decide +kernel
theorem dX12_longest_64 : decode cX12_longest 64 = .ok (.invokestatic 95, 3) := by decide +kernel
theorem dX12_longest_67 : decode cX12_longest 67 = .ok (.goto 4, 3) := by decide +kernel
theorem dX12_longest_70 : decode cX12_longest 70 = .ok (.iload_n 2, 1) := by decide +kernel
theorem dX12_longest_71 : decode cX12_longest 71 = .ok (.istore_n 2, 1) := by decide +kernel
theorem dX12_longest_72 : decode cX12_longest 72 = .ok (.iinc 3 1, 3) := by decide +kernel
theorem dX12_longest_75 : decode cX12_longest 75 = .ok (.goto (-59), 3) := by decide +kernel
theorem dX12_longest_78 : decode cX12_longest 78 = .ok (.iload_n 2, 1) := by decide +kernel
theorem dX12_longest_79 : decode cX12_longest 79 = .ok (.ireturn, 1) := by decide +kernel
theorem dX12_areAllApart_0 : decode cX12_areAllApart 0 = .ok (.iconst 1, 1) := by decide +kernel
theorem dX12_areAllApart_1 : decode cX12_areAllApart 1 = .ok (.istore_n 2, 1) := by decide +kernel
theorem dX12_areAllApart_2 : decode cX12_areAllApart 2 = .ok (.iconst 0, 1) := by decide +kernel
theorem dX12_areAllApart_3 : decode cX12_areAllApart 3 = .ok (.istore_n 3, 1) := by decide +kernel
theorem dX12_areAllApart_4 : decode cX12_areAllApart 4 = .ok (.iload_n 3, 1) := by decide +kernel
theorem dX12_areAllApart_5 : decode cX12_areAllApart 5 = .ok (.bipush 8, 2) := by decide +kernel
theorem dX12_areAllApart_7 : decode cX12_areAllApart 7 = .ok (.if_icmp .ge 75, 3) := by decide +kernel
theorem dX12_areAllApart_10 : decode cX12_areAllApart 10 = .ok (.iconst 0, 1) := by decide +kernel
theorem dX12_areAllApart_11 : decode cX12_areAllApart 11 = .ok (.istore 4, 2) := by decide +kernel
theorem dX12_areAllApart_13 : decode cX12_areAllApart 13 = .ok (.iload 4, 2) := by decide +kernel
theorem dX12_areAllApart_15 : decode cX12_areAllApart 15 = .ok (.iload_n 3, 1) := by decide +kernel
theorem dX12_areAllApart_16 : decode cX12_areAllApart 16 = .ok (.if_icmp .ge 60, 3) := by decide +kernel
theorem dX12_areAllApart_19 : decode cX12_areAllApart 19 = .ok (.iload_n 1, 1) := by decide +kernel
theorem dX12_areAllApart_20 : decode cX12_areAllApart 20 = .ok (.iload_n 3, 1) := by decide +kernel
theorem dX12_areAllApart_21 : decode cX12_areAllApart 21 = .ok (.ishr, 1) := by decide +kernel
theorem dX12_areAllApart_22 : decode cX12_areAllApart 22 = .ok (.iconst 1, 1) := by decide +kernel
theorem dX12_areAllApart_23 : decode cX12_areAllApart 23 = .ok (.iand, 1) := by decide +kernel
theorem dX12_areAllApart_24 : decode cX12_areAllApart 24 = .ok (.iconst 1, 1) := by decide +kernel
theorem dX12_areAllApart_25 : decode cX12_areAllApart 25 = .ok (.if_icmp .ne 17, 3) := by decide +kernel
theorem dX12_areAllApart_28 : decode cX12_areAllApart 28 = .ok (.iload_n 1, 1) := by decide +kernel
theorem dX12_areAllApart_29 : decode cX12_areAllApart 29 = .ok (.iload 4, 2) := by decide +kernel
theorem dX12_areAllApart_31 : decode cX12_areAllApart 31 = .ok (.ishr, 1) := by decide +kernel
theorem dX12_areAllApart_32 : decode cX12_areAllApart 32 = .ok (.iconst 1, 1) := by decide +kernel
theorem dX12_areAllApart_33 : decode cX12_areAllApart 33 = .ok (.iand, 1) := by decide +kernel
theorem dX12_areAllApart_34 : decode cX12_areAllApart 34 = .ok (.iconst 1, 1) := by decide +kernel
theorem dX12_areAllApart_35 : decode cX12_areAllApart 35 = .ok (.if_icmp .ne 7, 3) := by decide +kernel
theorem dX12_areAllApart_38 : decode cX12_areAllApart 38 = .ok (.iconst 1, 1) := by decide +kernel
theorem dX12_areAllApart_39 : decode cX12_areAllApart 39 = .ok (.goto 4, 3) := by decide +kernel
theorem dX12_areAllApart_42 : decode cX12_areAllApart 42 = .ok (.iconst 0, 1) := by decide +kernel
theorem dX12_areAllApart_43 : decode cX12_areAllApart 43 = .ok (.istore 5, 2) := by decide +kernel
theorem dX12_areAllApart_45 : decode cX12_areAllApart 45 = .ok (.iload_n 2, 1) := by decide +kernel
theorem dX12_areAllApart_46 : decode cX12_areAllApart 46 = .ok (.ifCond .eq 22, 3) := by decide +kernel
theorem dX12_areAllApart_49 : decode cX12_areAllApart 49 = .ok (.iload 5, 2) := by decide +kernel
theorem dX12_areAllApart_51 : decode cX12_areAllApart 51 = .ok (.ifCond .eq 13, 3) := by decide +kernel
theorem dX12_areAllApart_54 : decode cX12_areAllApart 54 = .ok (.aload_n 0, 1) := by decide +kernel
theorem dX12_areAllApart_55 : decode cX12_areAllApart 55 = .ok (.iload_n 3, 1) := by decide +kernel
theorem dX12_areAllApart_56 : decode cX12_areAllApart 56 = .ok (.iload 4, 2) := by decide +kernel
theorem dX12_areAllApart_58 : decode cX12_areAllApart 58 = .ok (.invokevirtual 166, 3) := by decide +kernel
theorem dX12_areAllApart_61 : decode cX12_areAllApart 61 = .ok (.ifCond .eq 7, 3) := by decide +kernel
theorem dX12_areAllApart_64 : decode cX12_areAllApart 64 = .ok (.iconst 1, 1) := by decide +kernel
theorem dX12_areAllApart_65 : decode cX12_areAllApart 65 = .ok (.goto 4, 3) := by decide +kernel
theorem dX12_areAllApart_68 : decode cX12_areAllApart 68 = .ok (.iconst 0, 1) := by decide +kernel
theorem dX12_areAllApart_69 : decode cX12_areAllApart 69 = .ok (.istore_n 2, 1) := by decide +kernel
theorem dX12_areAllApart_70 : decode cX12_areAllApart 70 = .ok (.iinc 4 1, 3) := by decide +kernel
theorem dX12_areAllApart_73 : decode cX12_areAllApart 73 = .ok (.goto (-60), 3) := by decide +kernel
theorem dX12_areAllApart_76 : decode cX12_areAllApart 76 = .ok (.iinc 3 1, 3) := by decide +kernel
theorem dX12_areAllApart_79 : decode cX12_areAllApart 79 = .ok (.goto (-75), 3) := by decide +kernel
theorem dX12_areAllApart_82 : decode cX12_areAllApart 82 = .ok (.iload_n 2, 1) := by decide +kernel
theorem dX12_areAllApart_83 : decode cX12_areAllApart 83 = .ok (.ireturn, 1) := by decide +kernel
theorem dX12_greatest_0 : decode cX12_greatest 0 = .ok (.iload_n 1, 1) := by decide +kernel
theorem dX12_greatest_1 : decode cX12_greatest 1 = .ok (.i2l, 1) := by decide +kernel
theorem dX12_greatest_2 : decode cX12_greatest 2 = .ok (.lconst 0, 1) := by decide +kernel
theorem dX12_greatest_3 : decode cX12_greatest 3 = .ok (.lconst 1, 1) := by decide +kernel
theorem dX12_greatest_4 : decode cX12_greatest 4 = .ok (.invokestatic 59, 3) := by decide +kernel
theorem dX12_greatest_7 : decode cX12_greatest 7 = .ok (.ifCond .ne 10, 3) := by decide +kernel
theorem dX12_greatest_10 : decode cX12_greatest 10 = .ok (.aload_n 0, 1) := by decide +kernel
theorem dX12_greatest_11 : decode cX12_greatest 11 = .ok (.bipush (-2), 2) := by decide +kernel
theorem dX12_greatest_13 : decode cX12_greatest 13 = .ok (.invokevirtual 87, 3) := by decide +kernel
theorem dX12_greatest_16 : decode cX12_greatest 16 = .ok (.ireturn, 1) := by decide +kernel
theorem dX12_greatest_17 : decode cX12_greatest 17 = .ok (.iconst 0, 1) := by decide +kernel
theorem dX12_greatest_18 : decode cX12_greatest 18 = .ok (.istore_n 2, 1) := by decide +kernel
theorem dX12_greatest_19 : decode cX12_greatest 19 = .ok (.iconst 0, 1) := by decide +kernel
theorem dX12_greatest_20 : decode cX12_greatest 20 = .ok (.istore_n 3, 1) := by decide +kernel
theorem dX12_greatest_21 : decode cX12_greatest 21 = .ok (.iload_n 3, 1) := by decide +kernel
theorem dX12_greatest_22 : decode cX12_greatest 22 = .ok (.sipush 256, 3) := by decide +kernel
theorem dX12_greatest_25 : decode cX12_greatest 25 = .ok (.if_icmp .ge 57, 3) := by decide +kernel
theorem dX12_greatest_28 : decode cX12_greatest 28 = .ok (.iload_n 3, 1) := by decide +kernel
theorem dX12_greatest_29 : decode cX12_greatest 29 = .ok (.invokestatic 95, 3) := by decide +kernel
theorem dX12_greatest_32 : decode cX12_greatest 32 = .ok (.iload_n 2, 1) := by decide +kernel
theorem dX12_greatest_33 : decode cX12_greatest 33 = .ok (.invokestatic 95, 3) := by decide +kernel
theorem dX12_greatest_36 : decode cX12_greatest 36 = .ok (.if_icmp .le 18, 3) := by decide +kernel
theorem dX12_greatest_39 : decode cX12_greatest 39 = .ok (.iload_n 3, 1) := by decide +kernel
theorem dX12_greatest_40 : decode cX12_greatest 40 = .ok (.aload_n 0, 1) := by decide +kernel
theorem dX12_greatest_41 : decode cX12_greatest 41 = .ok (.invokevirtual 91, 3) := by decide +kernel
theorem dX12_greatest_44 : decode cX12_greatest 44 = .ok (.iconst (-1), 1) := by decide +kernel
theorem dX12_greatest_45 : decode cX12_greatest 45 = .ok (.ixor, 1) := by decide +kernel
theorem dX12_greatest_46 : decode cX12_greatest 46 = .ok (.iand, 1) := by decide +kernel
theorem dX12_greatest_47 : decode cX12_greatest 47 = .ok (.ifCond .ne 7, 3) := by decide +kernel
theorem dX12_greatest_50 : decode cX12_greatest 50 = .ok (.iconst 1, 1) := by decide +kernel
theorem dX12_greatest_51 : decode cX12_greatest 51 = .ok (.goto 4, 3) := by decide +kernel
theorem dX12_greatest_54 : decode cX12_greatest 54 = .ok (.iconst 0, 1) := by decide +kernel
theorem dX12_greatest_55 : decode cX12_greatest 55 = .ok (.istore 4, 2) := by decide +kernel
theorem dX12_greatest_57 : decode cX12_greatest 57 = .ok (.iload 4, 2) := by decide +kernel
theorem dX12_greatest_59 : decode cX12_greatest 59 = .ok (.ifCond .eq 15, 3) := by decide +kernel
theorem dX12_greatest_62 : decode cX12_greatest 62 = .ok (.aload_n 0, 1) := by decide +kernel
theorem dX12_greatest_63 : decode cX12_greatest 63 = .ok (.iload_n 3, 1) := by decide +kernel
theorem dX12_greatest_64 : decode cX12_greatest 64 = .ok (.invokevirtual 172, 3) := by decide +kernel
theorem dX12_greatest_67 : decode cX12_greatest 67 = .ok (.ifCond .eq 7, 3) := by decide +kernel
theorem dX12_greatest_70 : decode cX12_greatest 70 = .ok (.iload_n 3, 1) := by decide +kernel
theorem dX12_greatest_71 : decode cX12_greatest 71 = .ok (.goto 4, 3) := by decide +kernel
theorem dX12_greatest_74 : decode cX12_greatest 74 = .ok (.iload_n 2, 1) := by decide +kernel
theorem dX12_greatest_75 : decode cX12_greatest 75 = .ok (.istore_n 2, 1) := by decide +kernel
theorem dX12_greatest_76 : decode cX12_greatest 76 = .ok (.iinc 3 1, 3) := by decide +kernel
theorem dX12_greatest_79 : decode cX12_greatest 79 = .ok (.goto (-58), 3) := by decide +kernel
theorem dX12_greatest_82 : decode cX12_greatest 82 = .ok (.iload_n 1, 1) := by decide +kernel
theorem dX12_greatest_83 : decode cX12_greatest 83 = .ok (.ifCond .ne 10, 3) := by decide +kernel
theorem dX12_greatest_86 : decode cX12_greatest 86 = .ok (.iload_n 2, 1) := by decide +kernel
theorem dX12_greatest_87 : decode cX12_greatest 87 = .ok (.invokestatic 95, 3) := by decide +kernel
theorem dX12_greatest_90 : decode cX12_greatest 90 = .ok (.goto 4, 3) := by decide +kernel
theorem dX12_greatest_93 : decode cX12_greatest 93 = .ok (.iload_n 2, 1) := by decide +kernel
theorem dX12_greatest_94 : decode cX12_greatest 94 = .ok (.ireturn, 1) := by decide +kernel
theorem dX12_partsOf_0 : decode cX12_partsOf 0 = .ok (.iconst 0, 1) := by decide +kernel
theorem dX12_partsOf_1 : decode cX12_partsOf 1 = .ok (.istore_n 1, 1) := by decide +kernel
theorem dX12_partsOf_2 : decode cX12_partsOf 2 = .ok (.iconst 1, 1) := by decide +kernel
theorem dX12_partsOf_3 : decode cX12_partsOf 3 = .ok (.istore_n 2, 1) := by decide +kernel
theorem dX12_partsOf_4 : decode cX12_partsOf 4 = .ok (.iload_n 2, 1) := by decide +kernel
theorem dX12_partsOf_5 : decode cX12_partsOf 5 = .ok (.iload_n 0, 1) := by decide +kernel
theorem dX12_partsOf_6 : decode cX12_partsOf 6 = .ok (.if_icmp .ge 23, 3) := by decide +kernel
theorem dX12_partsOf_9 : decode cX12_partsOf 9 = .ok (.iload_n 1, 1) := by decide +kernel
theorem dX12_partsOf_10 : decode cX12_partsOf 10 = .ok (.iload_n 0, 1) := by decide +kernel
theorem dX12_partsOf_11 : decode cX12_partsOf 11 = .ok (.iload_n 2, 1) := by decide +kernel
theorem dX12_partsOf_12 : decode cX12_partsOf 12 = .ok (.irem, 1) := by decide +kernel
theorem dX12_partsOf_13 : decode cX12_partsOf 13 = .ok (.ifCond .ne 7, 3) := by decide +kernel
theorem dX12_partsOf_16 : decode cX12_partsOf 16 = .ok (.iload_n 2, 1) := by decide +kernel
theorem dX12_partsOf_17 : decode cX12_partsOf 17 = .ok (.goto 4, 3) := by decide +kernel
theorem dX12_partsOf_20 : decode cX12_partsOf 20 = .ok (.iconst 0, 1) := by decide +kernel
theorem dX12_partsOf_21 : decode cX12_partsOf 21 = .ok (.iadd, 1) := by decide +kernel
theorem dX12_partsOf_22 : decode cX12_partsOf 22 = .ok (.istore_n 1, 1) := by decide +kernel
theorem dX12_partsOf_23 : decode cX12_partsOf 23 = .ok (.iinc 2 1, 3) := by decide +kernel
theorem dX12_partsOf_26 : decode cX12_partsOf 26 = .ok (.goto (-22), 3) := by decide +kernel
theorem dX12_partsOf_29 : decode cX12_partsOf 29 = .ok (.iload_n 1, 1) := by decide +kernel
theorem dX12_partsOf_30 : decode cX12_partsOf 30 = .ok (.ireturn, 1) := by decide +kernel
theorem dX12_chain_0 : decode cX12_chain 0 = .ok (.iload_n 1, 1) := by decide +kernel
theorem dX12_chain_1 : decode cX12_chain 1 = .ok (.invokestatic 131, 3) := by decide +kernel
theorem dX12_chain_4 : decode cX12_chain 4 = .ok (.ifCond .eq 15, 3) := by decide +kernel
theorem dX12_chain_7 : decode cX12_chain 7 = .ok (.iload_n 2, 1) := by decide +kernel
theorem dX12_chain_8 : decode cX12_chain 8 = .ok (.i2l, 1) := by decide +kernel
theorem dX12_chain_9 : decode cX12_chain 9 = .ok (.lconst 0, 1) := by decide +kernel
theorem dX12_chain_10 : decode cX12_chain 10 = .ok (.ldc2_w 175, 3) := by decide +kernel
theorem dX12_chain_13 : decode cX12_chain 13 = .ok (.invokestatic 59, 3) := by decide +kernel
theorem dX12_chain_16 : decode cX12_chain 16 = .ok (.ifCond .ne 10, 3) := by decide +kernel
theorem dX12_chain_19 : decode cX12_chain 19 = .ok (.aload_n 0, 1) := by decide +kernel
theorem dX12_chain_20 : decode cX12_chain 20 = .ok (.bipush (-2), 2) := by decide +kernel
theorem dX12_chain_22 : decode cX12_chain 22 = .ok (.invokevirtual 87, 3) := by decide +kernel
theorem dX12_chain_25 : decode cX12_chain 25 = .ok (.ireturn, 1) := by decide +kernel
theorem dX12_chain_26 : decode cX12_chain 26 = .ok (.iconst 0, 1) := by decide +kernel
theorem dX12_chain_27 : decode cX12_chain 27 = .ok (.istore_n 3, 1) := by decide +kernel
theorem dX12_chain_28 : decode cX12_chain 28 = .ok (.iconst 0, 1) := by decide +kernel
theorem dX12_chain_29 : decode cX12_chain 29 = .ok (.istore 4, 2) := by decide +kernel
theorem dX12_chain_31 : decode cX12_chain 31 = .ok (.aload_n 0, 1) := by decide +kernel
theorem dX12_chain_32 : decode cX12_chain 32 = .ok (.getfield 42, 3) := by decide +kernel
theorem dX12_chain_35 : decode cX12_chain 35 = .ok (.iconst 0, 1) := by decide +kernel
theorem dX12_chain_36 : decode cX12_chain 36 = .ok (.iload_n 1, 1) := by decide +kernel
theorem dX12_chain_37 : decode cX12_chain 37 = .ok (.iastore, 1) := by decide +kernel
theorem dX12_chain_38 : decode cX12_chain 38 = .ok (.iload_n 3, 1) := by decide +kernel
theorem dX12_chain_39 : decode cX12_chain 39 = .ok (.bipush 20, 2) := by decide +kernel
theorem dX12_chain_41 : decode cX12_chain 41 = .ok (.if_icmp .ge 92, 3) := by decide +kernel
theorem dX12_chain_44 : decode cX12_chain 44 = .ok (.iload 4, 2) := by decide +kernel
theorem dX12_chain_46 : decode cX12_chain 46 = .ok (.ifCond .ne 87, 3) := by decide +kernel
theorem dX12_chain_49 : decode cX12_chain 49 = .ok (.aload_n 0, 1) := by decide +kernel
theorem dX12_chain_50 : decode cX12_chain 50 = .ok (.getfield 42, 3) := by decide +kernel
theorem dX12_chain_53 : decode cX12_chain 53 = .ok (.iload_n 3, 1) := by decide +kernel
theorem dX12_chain_54 : decode cX12_chain 54 = .ok (.iaload, 1) := by decide +kernel
theorem dX12_chain_55 : decode cX12_chain 55 = .ok (.invokestatic 177, 3) := by decide +kernel
theorem dX12_chain_58 : decode cX12_chain 58 = .ok (.istore 5, 2) := by decide +kernel
theorem dX12_chain_60 : decode cX12_chain 60 = .ok (.iinc 3 1, 3) := by decide +kernel
theorem dX12_chain_63 : decode cX12_chain 63 = .ok (.aload_n 0, 1) := by decide +kernel
theorem dX12_chain_64 : decode cX12_chain 64 = .ok (.getfield 42, 3) := by decide +kernel
theorem dX12_chain_67 : decode cX12_chain 67 = .ok (.iload_n 3, 1) := by decide +kernel
theorem dX12_chain_68 : decode cX12_chain 68 = .ok (.iload 5, 2) := by decide +kernel
theorem dX12_chain_70 : decode cX12_chain 70 = .ok (.iastore, 1) := by decide +kernel
theorem dX12_chain_71 : decode cX12_chain 71 = .ok (.iload 5, 2) := by decide +kernel
theorem dX12_chain_73 : decode cX12_chain 73 = .ok (.ifCond .eq 11, 3) := by decide +kernel
theorem dX12_chain_76 : decode cX12_chain 76 = .ok (.iload 5, 2) := by decide +kernel
theorem dX12_chain_78 : decode cX12_chain 78 = .ok (.sipush 9999, 3) := by decide +kernel
theorem dX12_chain_81 : decode cX12_chain 81 = .ok (.if_icmp .le 7, 3) := by decide +kernel
theorem dX12_chain_84 : decode cX12_chain 84 = .ok (.iconst 1, 1) := by decide +kernel
theorem dX12_chain_85 : decode cX12_chain 85 = .ok (.goto 4, 3) := by decide +kernel
theorem dX12_chain_88 : decode cX12_chain 88 = .ok (.iconst 0, 1) := by decide +kernel
theorem dX12_chain_89 : decode cX12_chain 89 = .ok (.istore 4, 2) := by decide +kernel
theorem dX12_chain_91 : decode cX12_chain 91 = .ok (.iconst 0, 1) := by decide +kernel
theorem dX12_chain_92 : decode cX12_chain 92 = .ok (.istore 6, 2) := by decide +kernel
theorem dX12_chain_94 : decode cX12_chain 94 = .ok (.iload 6, 2) := by decide +kernel
theorem dX12_chain_96 : decode cX12_chain 96 = .ok (.iload_n 3, 1) := by decide +kernel
theorem dX12_chain_97 : decode cX12_chain 97 = .ok (.if_icmp .ge 33, 3) := by decide +kernel
theorem dX12_chain_100 : decode cX12_chain 100 = .ok (.iload 4, 2) := by decide +kernel
theorem dX12_chain_102 : decode cX12_chain 102 = .ok (.ifCond .ne 15, 3) := by decide +kernel
theorem dX12_chain_105 : decode cX12_chain 105 = .ok (.aload_n 0, 1) := by decide +kernel
theorem dX12_chain_106 : decode cX12_chain 106 = .ok (.getfield 42, 3) := by decide +kernel
theorem dX12_chain_109 : decode cX12_chain 109 = .ok (.iload 6, 2) := by decide +kernel
theorem dX12_chain_111 : decode cX12_chain 111 = .ok (.iaload, 1) := by decide +kernel
theorem dX12_chain_112 : decode cX12_chain 112 = .ok (.iload 5, 2) := by decide +kernel
theorem dX12_chain_114 : decode cX12_chain 114 = .ok (.if_icmp .ne 7, 3) := by decide +kernel
theorem dX12_chain_117 : decode cX12_chain 117 = .ok (.iconst 1, 1) := by decide +kernel
theorem dX12_chain_118 : decode cX12_chain 118 = .ok (.goto 4, 3) := by decide +kernel
theorem dX12_chain_121 : decode cX12_chain 121 = .ok (.iconst 0, 1) := by decide +kernel
theorem dX12_chain_122 : decode cX12_chain 122 = .ok (.istore 4, 2) := by decide +kernel
theorem dX12_chain_124 : decode cX12_chain 124 = .ok (.iinc 6 1, 3) := by decide +kernel
theorem dX12_chain_127 : decode cX12_chain 127 = .ok (.goto (-33), 3) := by decide +kernel
theorem dX12_chain_130 : decode cX12_chain 130 = .ok (.goto (-92), 3) := by decide +kernel
theorem dX12_chain_133 : decode cX12_chain 133 = .ok (.iload_n 2, 1) := by decide +kernel
theorem dX12_chain_134 : decode cX12_chain 134 = .ok (.ifCond .ne 7, 3) := by decide +kernel
theorem dX12_chain_137 : decode cX12_chain 137 = .ok (.iload_n 3, 1) := by decide +kernel
theorem dX12_chain_138 : decode cX12_chain 138 = .ok (.goto 32, 3) := by decide +kernel
theorem dX12_chain_141 : decode cX12_chain 141 = .ok (.iload_n 2, 1) := by decide +kernel
theorem dX12_chain_142 : decode cX12_chain 142 = .ok (.iconst 1, 1) := by decide +kernel
theorem dX12_chain_143 : decode cX12_chain 143 = .ok (.if_icmp .ne 12, 3) := by decide +kernel
theorem dX12_chain_146 : decode cX12_chain 146 = .ok (.aload_n 0, 1) := by decide +kernel
theorem dX12_chain_147 : decode cX12_chain 147 = .ok (.getfield 42, 3) := by decide +kernel
theorem dX12_chain_150 : decode cX12_chain 150 = .ok (.iload_n 3, 1) := by decide +kernel
theorem dX12_chain_151 : decode cX12_chain 151 = .ok (.iaload, 1) := by decide +kernel
theorem dX12_chain_152 : decode cX12_chain 152 = .ok (.goto 18, 3) := by decide +kernel
theorem dX12_chain_155 : decode cX12_chain 155 = .ok (.aload_n 0, 1) := by decide +kernel
theorem dX12_chain_156 : decode cX12_chain 156 = .ok (.getfield 23, 3) := by decide +kernel
theorem dX12_chain_159 : decode cX12_chain 159 = .ok (.iload_n 1, 1) := by decide +kernel
theorem dX12_chain_160 : decode cX12_chain 160 = .ok (.iaload, 1) := by decide +kernel
theorem dX12_chain_161 : decode cX12_chain 161 = .ok (.iload_n 1, 1) := by decide +kernel
theorem dX12_chain_162 : decode cX12_chain 162 = .ok (.if_icmp .ne 7, 3) := by decide +kernel
theorem dX12_chain_165 : decode cX12_chain 165 = .ok (.iconst 1, 1) := by decide +kernel
theorem dX12_chain_166 : decode cX12_chain 166 = .ok (.goto 4, 3) := by decide +kernel
theorem dX12_chain_169 : decode cX12_chain 169 = .ok (.iconst 0, 1) := by decide +kernel
theorem dX12_chain_170 : decode cX12_chain 170 = .ok (.ireturn, 1) := by decide +kernel
theorem dX12_daysTill_0 : decode cX12_daysTill 0 = .ok (.iload_n 2, 1) := by decide +kernel
theorem dX12_daysTill_1 : decode cX12_daysTill 1 = .ok (.iload_n 1, 1) := by decide +kernel
theorem dX12_daysTill_2 : decode cX12_daysTill 2 = .ok (.if_icmp .gt 9, 3) := by decide +kernel
theorem dX12_daysTill_5 : decode cX12_daysTill 5 = .ok (.iload_n 1, 1) := by decide +kernel
theorem dX12_daysTill_6 : decode cX12_daysTill 6 = .ok (.iload_n 2, 1) := by decide +kernel
theorem dX12_daysTill_7 : decode cX12_daysTill 7 = .ok (.isub, 1) := by decide +kernel
theorem dX12_daysTill_8 : decode cX12_daysTill 8 = .ok (.goto 27, 3) := by decide +kernel
theorem dX12_daysTill_11 : decode cX12_daysTill 11 = .ok (.aload_n 0, 1) := by decide +kernel
theorem dX12_daysTill_12 : decode cX12_daysTill 12 = .ok (.getfield 7, 3) := by decide +kernel
theorem dX12_daysTill_15 : decode cX12_daysTill 15 = .ok (.iload_n 1, 1) := by decide +kernel
theorem dX12_daysTill_16 : decode cX12_daysTill 16 = .ok (.iaload, 1) := by decide +kernel
theorem dX12_daysTill_17 : decode cX12_daysTill 17 = .ok (.iload_n 2, 1) := by decide +kernel
theorem dX12_daysTill_18 : decode cX12_daysTill 18 = .ok (.iload_n 1, 1) := by decide +kernel
theorem dX12_daysTill_19 : decode cX12_daysTill 19 = .ok (.isub, 1) := by decide +kernel
theorem dX12_daysTill_20 : decode cX12_daysTill 20 = .ok (.aload_n 0, 1) := by decide +kernel
theorem dX12_daysTill_21 : decode cX12_daysTill 21 = .ok (.getfield 7, 3) := by decide +kernel
theorem dX12_daysTill_24 : decode cX12_daysTill 24 = .ok (.iload_n 1, 1) := by decide +kernel
theorem dX12_daysTill_25 : decode cX12_daysTill 25 = .ok (.iaload, 1) := by decide +kernel
theorem dX12_daysTill_26 : decode cX12_daysTill 26 = .ok (.irem, 1) := by decide +kernel
theorem dX12_daysTill_27 : decode cX12_daysTill 27 = .ok (.isub, 1) := by decide +kernel
theorem dX12_daysTill_28 : decode cX12_daysTill 28 = .ok (.aload_n 0, 1) := by decide +kernel
theorem dX12_daysTill_29 : decode cX12_daysTill 29 = .ok (.getfield 7, 3) := by decide +kernel
theorem dX12_daysTill_32 : decode cX12_daysTill 32 = .ok (.iload_n 1, 1) := by decide +kernel
theorem dX12_daysTill_33 : decode cX12_daysTill 33 = .ok (.iaload, 1) := by decide +kernel
theorem dX12_daysTill_34 : decode cX12_daysTill 34 = .ok (.irem, 1) := by decide +kernel
theorem dX12_daysTill_35 : decode cX12_daysTill 35 = .ok (.ireturn, 1) := by decide +kernel
theorem dX12_meet_0 : decode cX12_meet 0 = .ok (.iconst 0, 1) := by decide +kernel
theorem dX12_meet_1 : decode cX12_meet 1 = .ok (.istore_n 1, 1) := by decide +kernel
theorem dX12_meet_2 : decode cX12_meet 2 = .ok (.iconst 0, 1) := by decide +kernel
theorem dX12_meet_3 : decode cX12_meet 3 = .ok (.istore_n 2, 1) := by decide +kernel
theorem dX12_meet_4 : decode cX12_meet 4 = .ok (.iload_n 1, 1) := by decide +kernel
theorem dX12_meet_5 : decode cX12_meet 5 = .ok (.ldc 180, 2) := by decide +kernel
theorem dX12_meet_7 : decode cX12_meet 7 = .ok (.if_icmp .ge 85, 3) := by decide +kernel
theorem dX12_meet_10 : decode cX12_meet 10 = .ok (.iload_n 2, 1) := by decide +kernel
theorem dX12_meet_11 : decode cX12_meet 11 = .ok (.ifCond .ne 81, 3) := by decide +kernel
theorem dX12_meet_14 : decode cX12_meet 14 = .ok (.iconst 1, 1) := by decide +kernel
theorem dX12_meet_15 : decode cX12_meet 15 = .ok (.istore_n 2, 1) := by decide +kernel
theorem dX12_meet_16 : decode cX12_meet 16 = .ok (.iconst 0, 1) := by decide +kernel
theorem dX12_meet_17 : decode cX12_meet 17 = .ok (.istore_n 3, 1) := by decide +kernel
theorem dX12_meet_18 : decode cX12_meet 18 = .ok (.iconst 0, 1) := by decide +kernel
theorem dX12_meet_19 : decode cX12_meet 19 = .ok (.istore 4, 2) := by decide +kernel
theorem dX12_meet_21 : decode cX12_meet 21 = .ok (.iload 4, 2) := by decide +kernel
theorem dX12_meet_23 : decode cX12_meet 23 = .ok (.bipush 8, 2) := by decide +kernel
theorem dX12_meet_25 : decode cX12_meet 25 = .ok (.if_icmp .ge 60, 3) := by decide +kernel
theorem dX12_meet_28 : decode cX12_meet 28 = .ok (.aload_n 0, 1) := by decide +kernel
theorem dX12_meet_29 : decode cX12_meet 29 = .ok (.getfield 7, 3) := by decide +kernel
theorem dX12_meet_32 : decode cX12_meet 32 = .ok (.iload 4, 2) := by decide +kernel
theorem dX12_meet_34 : decode cX12_meet 34 = .ok (.iaload, 1) := by decide +kernel
theorem dX12_meet_35 : decode cX12_meet 35 = .ok (.ifCond .le 13, 3) := by decide +kernel
theorem dX12_meet_38 : decode cX12_meet 38 = .ok (.aload_n 0, 1) := by decide +kernel
theorem dX12_meet_39 : decode cX12_meet 39 = .ok (.iload 4, 2) := by decide +kernel
theorem dX12_meet_41 : decode cX12_meet 41 = .ok (.iload_n 1, 1) := by decide +kernel
theorem dX12_meet_42 : decode cX12_meet 42 = .ok (.invokevirtual 181, 3) := by decide +kernel
theorem dX12_meet_45 : decode cX12_meet 45 = .ok (.goto 4, 3) := by decide +kernel
theorem dX12_meet_48 : decode cX12_meet 48 = .ok (.iconst 0, 1) := by decide +kernel
theorem dX12_meet_49 : decode cX12_meet 49 = .ok (.istore 5, 2) := by decide +kernel
theorem dX12_meet_51 : decode cX12_meet 51 = .ok (.iload_n 2, 1) := by decide +kernel
theorem dX12_meet_52 : decode cX12_meet 52 = .ok (.ifCond .eq 12, 3) := by decide +kernel
theorem dX12_meet_55 : decode cX12_meet 55 = .ok (.iload 5, 2) := by decide +kernel
theorem dX12_meet_57 : decode cX12_meet 57 = .ok (.ifCond .ne 7, 3) := by decide +kernel
theorem dX12_meet_60 : decode cX12_meet 60 = .ok (.iconst 1, 1) := by decide +kernel
theorem dX12_meet_61 : decode cX12_meet 61 = .ok (.goto 4, 3) := by decide +kernel
theorem dX12_meet_64 : decode cX12_meet 64 = .ok (.iconst 0, 1) := by decide +kernel
theorem dX12_meet_65 : decode cX12_meet 65 = .ok (.istore_n 2, 1) := by decide +kernel
theorem dX12_meet_66 : decode cX12_meet 66 = .ok (.iload 5, 2) := by decide +kernel
theorem dX12_meet_68 : decode cX12_meet 68 = .ok (.iload_n 3, 1) := by decide +kernel
theorem dX12_meet_69 : decode cX12_meet 69 = .ok (.if_icmp .le 8, 3) := by decide +kernel
theorem dX12_meet_72 : decode cX12_meet 72 = .ok (.iload 5, 2) := by decide +kernel
theorem dX12_meet_74 : decode cX12_meet 74 = .ok (.goto 4, 3) := by decide +kernel
theorem dX12_meet_77 : decode cX12_meet 77 = .ok (.iload_n 3, 1) := by decide +kernel
theorem dX12_meet_78 : decode cX12_meet 78 = .ok (.istore_n 3, 1) := by decide +kernel
theorem dX12_meet_79 : decode cX12_meet 79 = .ok (.iinc 4 1, 3) := by decide +kernel
theorem dX12_meet_82 : decode cX12_meet 82 = .ok (.goto (-61), 3) := by decide +kernel
theorem dX12_meet_85 : decode cX12_meet 85 = .ok (.iload_n 1, 1) := by decide +kernel
theorem dX12_meet_86 : decode cX12_meet 86 = .ok (.iload_n 3, 1) := by decide +kernel
theorem dX12_meet_87 : decode cX12_meet 87 = .ok (.iadd, 1) := by decide +kernel
theorem dX12_meet_88 : decode cX12_meet 88 = .ok (.istore_n 1, 1) := by decide +kernel
theorem dX12_meet_89 : decode cX12_meet 89 = .ok (.goto (-85), 3) := by decide +kernel
theorem dX12_meet_92 : decode cX12_meet 92 = .ok (.iload_n 2, 1) := by decide +kernel
theorem dX12_meet_93 : decode cX12_meet 93 = .ok (.ifCond .eq 13, 3) := by decide +kernel
theorem dX12_meet_96 : decode cX12_meet 96 = .ok (.iload_n 1, 1) := by decide +kernel
theorem dX12_meet_97 : decode cX12_meet 97 = .ok (.ldc 180, 2) := by decide +kernel
theorem dX12_meet_99 : decode cX12_meet 99 = .ok (.if_icmp .ge 7, 3) := by decide +kernel
theorem dX12_meet_102 : decode cX12_meet 102 = .ok (.iload_n 1, 1) := by decide +kernel
theorem dX12_meet_103 : decode cX12_meet 103 = .ok (.goto 4, 3) := by decide +kernel
theorem dX12_meet_106 : decode cX12_meet 106 = .ok (.iconst (-1), 1) := by decide +kernel
theorem dX12_meet_107 : decode cX12_meet 107 = .ok (.ireturn, 1) := by decide +kernel
theorem dX12_next_0 : decode cX12_next 0 = .ok (.iload_n 1, 1) := by decide +kernel
theorem dX12_next_1 : decode cX12_next 1 = .ok (.i2l, 1) := by decide +kernel
theorem dX12_next_2 : decode cX12_next 2 = .ok (.lconst 0, 1) := by decide +kernel
theorem dX12_next_3 : decode cX12_next 3 = .ok (.ldc2_w 184, 3) := by decide +kernel
theorem dX12_next_6 : decode cX12_next 6 = .ok (.invokestatic 59, 3) := by decide +kernel
theorem dX12_next_9 : decode cX12_next 9 = .ok (.ifCond .ne 10, 3) := by decide +kernel
theorem dX12_next_12 : decode cX12_next 12 = .ok (.aload_n 0, 1) := by decide +kernel
theorem dX12_next_13 : decode cX12_next 13 = .ok (.bipush (-2), 2) := by decide +kernel
theorem dX12_next_15 : decode cX12_next 15 = .ok (.invokevirtual 87, 3) := by decide +kernel
theorem dX12_next_18 : decode cX12_next 18 = .ok (.ireturn, 1) := by decide +kernel
theorem dX12_next_19 : decode cX12_next 19 = .ok (.iconst (-1), 1) := by decide +kernel
theorem dX12_next_20 : decode cX12_next 20 = .ok (.istore_n 2, 1) := by decide +kernel
theorem dX12_next_21 : decode cX12_next 21 = .ok (.iconst 0, 1) := by decide +kernel
theorem dX12_next_22 : decode cX12_next 22 = .ok (.istore_n 3, 1) := by decide +kernel
theorem dX12_next_23 : decode cX12_next 23 = .ok (.iload_n 3, 1) := by decide +kernel
theorem dX12_next_24 : decode cX12_next 24 = .ok (.bipush 8, 2) := by decide +kernel
theorem dX12_next_26 : decode cX12_next 26 = .ok (.if_icmp .ge 44, 3) := by decide +kernel
theorem dX12_next_29 : decode cX12_next 29 = .ok (.aload_n 0, 1) := by decide +kernel
theorem dX12_next_30 : decode cX12_next 30 = .ok (.getfield 7, 3) := by decide +kernel
theorem dX12_next_33 : decode cX12_next 33 = .ok (.iload_n 3, 1) := by decide +kernel
theorem dX12_next_34 : decode cX12_next 34 = .ok (.iaload, 1) := by decide +kernel
theorem dX12_next_35 : decode cX12_next 35 = .ok (.ifCond .le 29, 3) := by decide +kernel
theorem dX12_next_38 : decode cX12_next 38 = .ok (.aload_n 0, 1) := by decide +kernel
theorem dX12_next_39 : decode cX12_next 39 = .ok (.iload_n 3, 1) := by decide +kernel
theorem dX12_next_40 : decode cX12_next 40 = .ok (.iload_n 1, 1) := by decide +kernel
theorem dX12_next_41 : decode cX12_next 41 = .ok (.invokevirtual 181, 3) := by decide +kernel
theorem dX12_next_44 : decode cX12_next 44 = .ok (.istore 4, 2) := by decide +kernel
theorem dX12_next_46 : decode cX12_next 46 = .ok (.iload_n 2, 1) := by decide +kernel
theorem dX12_next_47 : decode cX12_next 47 = .ok (.iconst (-1), 1) := by decide +kernel
theorem dX12_next_48 : decode cX12_next 48 = .ok (.if_icmp .eq 9, 3) := by decide +kernel
theorem dX12_next_51 : decode cX12_next 51 = .ok (.iload 4, 2) := by decide +kernel
theorem dX12_next_53 : decode cX12_next 53 = .ok (.iload_n 2, 1) := by decide +kernel
theorem dX12_next_54 : decode cX12_next 54 = .ok (.if_icmp .ge 8, 3) := by decide +kernel
theorem dX12_next_57 : decode cX12_next 57 = .ok (.iload 4, 2) := by decide +kernel
theorem dX12_next_59 : decode cX12_next 59 = .ok (.goto 4, 3) := by decide +kernel
theorem dX12_next_62 : decode cX12_next 62 = .ok (.iload_n 2, 1) := by decide +kernel
theorem dX12_next_63 : decode cX12_next 63 = .ok (.istore_n 2, 1) := by decide +kernel
theorem dX12_next_64 : decode cX12_next 64 = .ok (.iinc 3 1, 3) := by decide +kernel
theorem dX12_next_67 : decode cX12_next 67 = .ok (.goto (-44), 3) := by decide +kernel
theorem dX12_next_70 : decode cX12_next 70 = .ok (.iload_n 2, 1) := by decide +kernel
theorem dX12_next_71 : decode cX12_next 71 = .ok (.ireturn, 1) := by decide +kernel
theorem dX12_reading_0 : decode cX12_reading 0 = .ok (.iload_n 1, 1) := by decide +kernel
theorem dX12_reading_1 : decode cX12_reading 1 = .ok (.invokestatic 131, 3) := by decide +kernel
theorem dX12_reading_4 : decode cX12_reading 4 = .ok (.ifCond .eq 13, 3) := by decide +kernel
theorem dX12_reading_7 : decode cX12_reading 7 = .ok (.iload_n 2, 1) := by decide +kernel
theorem dX12_reading_8 : decode cX12_reading 8 = .ok (.i2l, 1) := by decide +kernel
theorem dX12_reading_9 : decode cX12_reading 9 = .ok (.lconst 0, 1) := by decide +kernel
theorem dX12_reading_10 : decode cX12_reading 10 = .ok (.lconst 1, 1) := by decide +kernel
theorem dX12_reading_11 : decode cX12_reading 11 = .ok (.invokestatic 59, 3) := by decide +kernel
theorem dX12_reading_14 : decode cX12_reading 14 = .ok (.ifCond .ne 10, 3) := by decide +kernel
theorem dX12_reading_17 : decode cX12_reading 17 = .ok (.aload_n 0, 1) := by decide +kernel
theorem dX12_reading_18 : decode cX12_reading 18 = .ok (.bipush (-2), 2) := by decide +kernel
theorem dX12_reading_20 : decode cX12_reading 20 = .ok (.invokevirtual 87, 3) := by decide +kernel
theorem dX12_reading_23 : decode cX12_reading 23 = .ok (.ireturn, 1) := by decide +kernel
theorem dX12_reading_24 : decode cX12_reading 24 = .ok (.aload_n 0, 1) := by decide +kernel
theorem dX12_reading_25 : decode cX12_reading 25 = .ok (.getfield 7, 3) := by decide +kernel
theorem dX12_reading_28 : decode cX12_reading 28 = .ok (.bipush 10, 2) := by decide +kernel
theorem dX12_reading_30 : decode cX12_reading 30 = .ok (.iaload, 1) := by decide +kernel
theorem dX12_reading_31 : decode cX12_reading 31 = .ok (.bipush 8, 2) := by decide +kernel
theorem dX12_reading_33 : decode cX12_reading 33 = .ok (.if_icmp .ne 8, 3) := by decide +kernel
theorem dX12_reading_36 : decode cX12_reading 36 = .ok (.aload_n 0, 1) := by decide +kernel
theorem dX12_reading_37 : decode cX12_reading 37 = .ok (.invokevirtual 186, 3) := by decide +kernel
theorem dX12_reading_40 : decode cX12_reading 40 = .ok (.ireturn, 1) := by decide +kernel
theorem dX12_reading_41 : decode cX12_reading 41 = .ok (.bipush 13, 2) := by decide +kernel
theorem dX12_reading_43 : decode cX12_reading 43 = .ok (.iconst 4, 1) := by decide +kernel
theorem dX12_reading_44 : decode cX12_reading 44 = .ok (.aload_n 0, 1) := by decide +kernel
theorem dX12_reading_45 : decode cX12_reading 45 = .ok (.getfield 7, 3) := by decide +kernel
theorem dX12_reading_48 : decode cX12_reading 48 = .ok (.bipush 10, 2) := by decide +kernel
theorem dX12_reading_50 : decode cX12_reading 50 = .ok (.iaload, 1) := by decide +kernel
theorem dX12_reading_51 : decode cX12_reading 51 = .ok (.imul, 1) := by decide +kernel
theorem dX12_reading_52 : decode cX12_reading 52 = .ok (.iadd, 1) := by decide +kernel
theorem dX12_reading_53 : decode cX12_reading 53 = .ok (.istore_n 3, 1) := by decide +kernel
theorem dX12_reading_54 : decode cX12_reading 54 = .ok (.aload_n 0, 1) := by decide +kernel
theorem dX12_reading_55 : decode cX12_reading 55 = .ok (.getfield 7, 3) := by decide +kernel
theorem dX12_reading_58 : decode cX12_reading 58 = .ok (.iload_n 3, 1) := by decide +kernel
theorem dX12_reading_59 : decode cX12_reading 59 = .ok (.iload_n 1, 1) := by decide +kernel
theorem dX12_reading_60 : decode cX12_reading 60 = .ok (.iastore, 1) := by decide +kernel
theorem dX12_reading_61 : decode cX12_reading 61 = .ok (.aload_n 0, 1) := by decide +kernel
theorem dX12_reading_62 : decode cX12_reading 62 = .ok (.getfield 7, 3) := by decide +kernel
theorem dX12_reading_65 : decode cX12_reading 65 = .ok (.iload_n 3, 1) := by decide +kernel
theorem dX12_reading_66 : decode cX12_reading 66 = .ok (.iconst 1, 1) := by decide +kernel
theorem dX12_reading_67 : decode cX12_reading 67 = .ok (.iadd, 1) := by decide +kernel
theorem dX12_reading_68 : decode cX12_reading 68 = .ok (.iload_n 2, 1) := by decide +kernel
theorem dX12_reading_69 : decode cX12_reading 69 = .ok (.iastore, 1) := by decide +kernel
theorem dX12_reading_70 : decode cX12_reading 70 = .ok (.aload_n 0, 1) := by decide +kernel
theorem dX12_reading_71 : decode cX12_reading 71 = .ok (.getfield 7, 3) := by decide +kernel
theorem dX12_reading_74 : decode cX12_reading 74 = .ok (.iload_n 3, 1) := by decide +kernel
theorem dX12_reading_75 : decode cX12_reading 75 = .ok (.iconst 2, 1) := by decide +kernel
theorem dX12_reading_76 : decode cX12_reading 76 = .ok (.iadd, 1) := by decide +kernel
theorem dX12_reading_77 : decode cX12_reading 77 = .ok (.aload_n 0, 1) := by decide +kernel
theorem dX12_reading_78 : decode cX12_reading 78 = .ok (.getfield 7, 3) := by decide +kernel
theorem dX12_reading_81 : decode cX12_reading 81 = .ok (.bipush 8, 2) := by decide +kernel
theorem dX12_reading_83 : decode cX12_reading 83 = .ok (.iaload, 1) := by decide +kernel
theorem dX12_reading_84 : decode cX12_reading 84 = .ok (.iastore, 1) := by decide +kernel
theorem dX12_reading_85 : decode cX12_reading 85 = .ok (.aload_n 0, 1) := by decide +kernel
theorem dX12_reading_86 : decode cX12_reading 86 = .ok (.getfield 7, 3) := by decide +kernel
theorem dX12_reading_89 : decode cX12_reading 89 = .ok (.iload_n 3, 1) := by decide +kernel
theorem dX12_reading_90 : decode cX12_reading 90 = .ok (.iconst 3, 1) := by decide +kernel
theorem dX12_reading_91 : decode cX12_reading 91 = .ok (.iadd, 1) := by decide +kernel
theorem dX12_reading_92 : decode cX12_reading 92 = .ok (.aload_n 0, 1) := by decide +kernel
theorem dX12_reading_93 : decode cX12_reading 93 = .ok (.getfield 7, 3) := by decide +kernel
theorem dX12_reading_96 : decode cX12_reading 96 = .ok (.bipush 9, 2) := by decide +kernel
theorem dX12_reading_98 : decode cX12_reading 98 = .ok (.iaload, 1) := by decide +kernel
theorem dX12_reading_99 : decode cX12_reading 99 = .ok (.iastore, 1) := by decide +kernel
theorem dX12_reading_100 : decode cX12_reading 100 = .ok (.aload_n 0, 1) := by decide +kernel
theorem dX12_reading_101 : decode cX12_reading 101 = .ok (.getfield 7, 3) := by decide +kernel
theorem dX12_reading_104 : decode cX12_reading 104 = .ok (.bipush 10, 2) := by decide +kernel
theorem dX12_reading_106 : decode cX12_reading 106 = .ok (.dup2, 1) := by decide +kernel
theorem dX12_reading_107 : decode cX12_reading 107 = .ok (.iaload, 1) := by decide +kernel
theorem dX12_reading_108 : decode cX12_reading 108 = .ok (.iconst 1, 1) := by decide +kernel
theorem dX12_reading_109 : decode cX12_reading 109 = .ok (.iadd, 1) := by decide +kernel
theorem dX12_reading_110 : decode cX12_reading 110 = .ok (.iastore, 1) := by decide +kernel
theorem dX12_reading_111 : decode cX12_reading 111 = .ok (.aload_n 0, 1) := by decide +kernel
theorem dX12_reading_112 : decode cX12_reading 112 = .ok (.getfield 7, 3) := by decide +kernel
theorem dX12_reading_115 : decode cX12_reading 115 = .ok (.bipush 10, 2) := by decide +kernel
theorem dX12_reading_117 : decode cX12_reading 117 = .ok (.iaload, 1) := by decide +kernel
theorem dX12_reading_118 : decode cX12_reading 118 = .ok (.ireturn, 1) := by decide +kernel
theorem dX12_canBe_0 : decode cX12_canBe 0 = .ok (.iconst 1, 1) := by decide +kernel
theorem dX12_canBe_1 : decode cX12_canBe 1 = .ok (.istore_n 2, 1) := by decide +kernel
theorem dX12_canBe_2 : decode cX12_canBe 2 = .ok (.iconst 0, 1) := by decide +kernel
theorem dX12_canBe_3 : decode cX12_canBe 3 = .ok (.istore_n 3, 1) := by decide +kernel
theorem dX12_canBe_4 : decode cX12_canBe 4 = .ok (.iload_n 3, 1) := by decide +kernel
theorem dX12_canBe_5 : decode cX12_canBe 5 = .ok (.aload_n 0, 1) := by decide +kernel
theorem dX12_canBe_6 : decode cX12_canBe 6 = .ok (.getfield 7, 3) := by decide +kernel
theorem dX12_canBe_9 : decode cX12_canBe 9 = .ok (.bipush 10, 2) := by decide +kernel
theorem dX12_canBe_11 : decode cX12_canBe 11 = .ok (.iaload, 1) := by decide +kernel
theorem dX12_canBe_12 : decode cX12_canBe 12 = .ok (.if_icmp .ge 78, 3) := by decide +kernel
theorem dX12_canBe_15 : decode cX12_canBe 15 = .ok (.iload_n 2, 1) := by decide +kernel
theorem dX12_canBe_16 : decode cX12_canBe 16 = .ok (.ifCond .eq 74, 3) := by decide +kernel
theorem dX12_canBe_19 : decode cX12_canBe 19 = .ok (.bipush 13, 2) := by decide +kernel
theorem dX12_canBe_21 : decode cX12_canBe 21 = .ok (.iconst 4, 1) := by decide +kernel
theorem dX12_canBe_22 : decode cX12_canBe 22 = .ok (.iload_n 3, 1) := by decide +kernel
theorem dX12_canBe_23 : decode cX12_canBe 23 = .ok (.imul, 1) := by decide +kernel
theorem dX12_canBe_24 : decode cX12_canBe 24 = .ok (.iadd, 1) := by decide +kernel
theorem dX12_canBe_25 : decode cX12_canBe 25 = .ok (.istore 4, 2) := by decide +kernel
theorem dX12_canBe_27 : decode cX12_canBe 27 = .ok (.aload_n 0, 1) := by decide +kernel
theorem dX12_canBe_28 : decode cX12_canBe 28 = .ok (.aload_n 0, 1) := by decide +kernel
theorem dX12_canBe_29 : decode cX12_canBe 29 = .ok (.getfield 7, 3) := by decide +kernel
theorem dX12_canBe_32 : decode cX12_canBe 32 = .ok (.iload 4, 2) := by decide +kernel
theorem dX12_canBe_34 : decode cX12_canBe 34 = .ok (.iconst 2, 1) := by decide +kernel
theorem dX12_canBe_35 : decode cX12_canBe 35 = .ok (.iadd, 1) := by decide +kernel
theorem dX12_canBe_36 : decode cX12_canBe 36 = .ok (.iaload, 1) := by decide +kernel
theorem dX12_canBe_37 : decode cX12_canBe 37 = .ok (.aload_n 0, 1) := by decide +kernel
theorem dX12_canBe_38 : decode cX12_canBe 38 = .ok (.getfield 7, 3) := by decide +kernel
theorem dX12_canBe_41 : decode cX12_canBe 41 = .ok (.iload 4, 2) := by decide +kernel
theorem dX12_canBe_43 : decode cX12_canBe 43 = .ok (.iconst 3, 1) := by decide +kernel
theorem dX12_canBe_44 : decode cX12_canBe 44 = .ok (.iadd, 1) := by decide +kernel
theorem dX12_canBe_45 : decode cX12_canBe 45 = .ok (.iaload, 1) := by decide +kernel
theorem dX12_canBe_46 : decode cX12_canBe 46 = .ok (.iload_n 1, 1) := by decide +kernel
theorem dX12_canBe_47 : decode cX12_canBe 47 = .ok (.aload_n 0, 1) := by decide +kernel
theorem dX12_canBe_48 : decode cX12_canBe 48 = .ok (.getfield 7, 3) := by decide +kernel
theorem dX12_canBe_51 : decode cX12_canBe 51 = .ok (.iload 4, 2) := by decide +kernel
theorem dX12_canBe_53 : decode cX12_canBe 53 = .ok (.iaload, 1) := by decide +kernel
theorem dX12_canBe_54 : decode cX12_canBe 54 = .ok (.invokevirtual 80, 3) := by decide +kernel
theorem dX12_canBe_57 : decode cX12_canBe 57 = .ok (.aload_n 0, 1) := by decide +kernel
theorem dX12_canBe_58 : decode cX12_canBe 58 = .ok (.getfield 7, 3) := by decide +kernel
theorem dX12_canBe_61 : decode cX12_canBe 61 = .ok (.iload 4, 2) := by decide +kernel
theorem dX12_canBe_63 : decode cX12_canBe 63 = .ok (.iconst 1, 1) := by decide +kernel
theorem dX12_canBe_64 : decode cX12_canBe 64 = .ok (.iadd, 1) := by decide +kernel
theorem dX12_canBe_65 : decode cX12_canBe 65 = .ok (.iaload, 1) := by decide +kernel
theorem dX12_canBe_66 : decode cX12_canBe 66 = .ok (.iconst 1, 1) := by decide +kernel
theorem dX12_canBe_67 : decode cX12_canBe 67 = .ok (.if_icmp .ne 7, 3) := by decide +kernel
theorem dX12_canBe_70 : decode cX12_canBe 70 = .ok (.iconst 1, 1) := by decide +kernel
theorem dX12_canBe_71 : decode cX12_canBe 71 = .ok (.goto 4, 3) := by decide +kernel
theorem dX12_canBe_74 : decode cX12_canBe 74 = .ok (.iconst 0, 1) := by decide +kernel
theorem dX12_canBe_75 : decode cX12_canBe 75 = .ok (.if_icmp .ne 7, 3) := by decide +kernel
theorem dX12_canBe_78 : decode cX12_canBe 78 = .ok (.iconst 1, 1) := by decide +kernel
theorem dX12_canBe_79 : decode cX12_canBe 79 = .ok (.goto 4, 3) := by decide +kernel
theorem dX12_canBe_82 : decode cX12_canBe 82 = .ok (.iconst 0, 1) := by decide +kernel
theorem dX12_canBe_83 : decode cX12_canBe 83 = .ok (.istore_n 2, 1) := by decide +kernel
theorem dX12_canBe_84 : decode cX12_canBe 84 = .ok (.iinc 3 1, 3) := by decide +kernel
theorem dX12_canBe_87 : decode cX12_canBe 87 = .ok (.goto (-83), 3) := by decide +kernel
theorem dX12_canBe_90 : decode cX12_canBe 90 = .ok (.iload_n 2, 1) := by decide +kernel
theorem dX12_canBe_91 : decode cX12_canBe 91 = .ok (.ireturn, 1) := by decide +kernel
theorem dX12_layCan_0 : decode cX12_layCan 0 = .ok (.aload_n 0, 1) := by decide +kernel
theorem dX12_layCan_1 : decode cX12_layCan 1 = .ok (.iconst 0, 1) := by decide +kernel
theorem dX12_layCan_2 : decode cX12_layCan 2 = .ok (.putfield 189, 3) := by decide +kernel
theorem dX12_layCan_5 : decode cX12_layCan 5 = .ok (.aload_n 0, 1) := by decide +kernel
theorem dX12_layCan_6 : decode cX12_layCan 6 = .ok (.iconst (-1), 1) := by decide +kernel
theorem dX12_layCan_7 : decode cX12_layCan 7 = .ok (.putfield 192, 3) := by decide +kernel
theorem dX12_layCan_10 : decode cX12_layCan 10 = .ok (.iconst 1, 1) := by decide +kernel
theorem dX12_layCan_11 : decode cX12_layCan 11 = .ok (.istore_n 1, 1) := by decide +kernel
theorem dX12_layCan_12 : decode cX12_layCan 12 = .ok (.iload_n 1, 1) := by decide +kernel
theorem dX12_layCan_13 : decode cX12_layCan 13 = .ok (.sipush 300, 3) := by decide +kernel
theorem dX12_layCan_16 : decode cX12_layCan 16 = .ok (.if_icmp .gt 71, 3) := by decide +kernel
theorem dX12_layCan_19 : decode cX12_layCan 19 = .ok (.aload_n 0, 1) := by decide +kernel
theorem dX12_layCan_20 : decode cX12_layCan 20 = .ok (.getfield 45, 3) := by decide +kernel
theorem dX12_layCan_23 : decode cX12_layCan 23 = .ok (.iload_n 1, 1) := by decide +kernel
theorem dX12_layCan_24 : decode cX12_layCan 24 = .ok (.aload_n 0, 1) := by decide +kernel
theorem dX12_layCan_25 : decode cX12_layCan 25 = .ok (.iload_n 1, 1) := by decide +kernel
theorem dX12_layCan_26 : decode cX12_layCan 26 = .ok (.invokevirtual 195, 3) := by decide +kernel
theorem dX12_layCan_29 : decode cX12_layCan 29 = .ok (.bastore, 1) := by decide +kernel
theorem dX12_layCan_30 : decode cX12_layCan 30 = .ok (.aload_n 0, 1) := by decide +kernel
theorem dX12_layCan_31 : decode cX12_layCan 31 = .ok (.aload_n 0, 1) := by decide +kernel
theorem dX12_layCan_32 : decode cX12_layCan 32 = .ok (.getfield 45, 3) := by decide +kernel
theorem dX12_layCan_35 : decode cX12_layCan 35 = .ok (.iload_n 1, 1) := by decide +kernel
theorem dX12_layCan_36 : decode cX12_layCan 36 = .ok (.baload, 1) := by decide +kernel
theorem dX12_layCan_37 : decode cX12_layCan 37 = .ok (.ifCond .eq 14, 3) := by decide +kernel
theorem dX12_layCan_40 : decode cX12_layCan 40 = .ok (.aload_n 0, 1) := by decide +kernel
theorem dX12_layCan_41 : decode cX12_layCan 41 = .ok (.getfield 189, 3) := by decide +kernel
theorem dX12_layCan_44 : decode cX12_layCan 44 = .ok (.ifCond .ne 7, 3) := by decide +kernel
theorem dX12_layCan_47 : decode cX12_layCan 47 = .ok (.iload_n 1, 1) := by decide +kernel
theorem dX12_layCan_48 : decode cX12_layCan 48 = .ok (.goto 7, 3) := by decide +kernel
theorem dX12_layCan_51 : decode cX12_layCan 51 = .ok (.aload_n 0, 1) := by decide +kernel
theorem dX12_layCan_52 : decode cX12_layCan 52 = .ok (.getfield 192, 3) := by decide +kernel
theorem dX12_layCan_55 : decode cX12_layCan 55 = .ok (.putfield 192, 3) := by decide +kernel
theorem dX12_layCan_58 : decode cX12_layCan 58 = .ok (.aload_n 0, 1) := by decide +kernel
theorem dX12_layCan_59 : decode cX12_layCan 59 = .ok (.dup, 1) := by decide +kernel
theorem dX12_layCan_60 : decode cX12_layCan 60 = .ok (.getfield 189, 3) := by decide +kernel
theorem dX12_layCan_63 : decode cX12_layCan 63 = .ok (.aload_n 0, 1) := by decide +kernel
theorem dX12_layCan_64 : decode cX12_layCan 64 = .ok (.getfield 45, 3) := by decide +kernel
theorem dX12_layCan_67 : decode cX12_layCan 67 = .ok (.iload_n 1, 1) := by decide +kernel
theorem dX12_layCan_68 : decode cX12_layCan 68 = .ok (.baload, 1) := by decide +kernel
theorem dX12_layCan_69 : decode cX12_layCan 69 = .ok (.ifCond .eq 7, 3) := by decide +kernel
theorem dX12_layCan_72 : decode cX12_layCan 72 = .ok (.iconst 1, 1) := by decide +kernel
theorem dX12_layCan_73 : decode cX12_layCan 73 = .ok (.goto 4, 3) := by decide +kernel
theorem dX12_layCan_76 : decode cX12_layCan 76 = .ok (.iconst 0, 1) := by decide +kernel
theorem dX12_layCan_77 : decode cX12_layCan 77 = .ok (.iadd, 1) := by decide +kernel
theorem dX12_layCan_78 : decode cX12_layCan 78 = .ok (.putfield 189, 3) := by decide +kernel
theorem dX12_layCan_81 : decode cX12_layCan 81 = .ok (.iinc 1 1, 3) := by decide +kernel
theorem dX12_layCan_84 : decode cX12_layCan 84 = .ok (.goto (-72), 3) := by decide +kernel
theorem dX12_layCan_87 : decode cX12_layCan 87 = .ok (.return_, 1) := by decide +kernel
theorem dX12_who_0 : decode cX12_who 0 = .ok (.iload_n 1, 1) := by decide +kernel
theorem dX12_who_1 : decode cX12_who 1 = .ok (.i2l, 1) := by decide +kernel
theorem dX12_who_2 : decode cX12_who 2 = .ok (.lconst 0, 1) := by decide +kernel
theorem dX12_who_3 : decode cX12_who 3 = .ok (.lconst 1, 1) := by decide +kernel
theorem dX12_who_4 : decode cX12_who 4 = .ok (.invokestatic 59, 3) := by decide +kernel
theorem dX12_who_7 : decode cX12_who 7 = .ok (.ifCond .ne 10, 3) := by decide +kernel
theorem dX12_who_10 : decode cX12_who 10 = .ok (.aload_n 0, 1) := by decide +kernel
theorem dX12_who_11 : decode cX12_who 11 = .ok (.bipush (-10), 2) := by decide +kernel
theorem dX12_who_13 : decode cX12_who 13 = .ok (.invokevirtual 87, 3) := by decide +kernel
theorem dX12_who_16 : decode cX12_who 16 = .ok (.ireturn, 1) := by decide +kernel
theorem dX12_who_17 : decode cX12_who 17 = .ok (.aload_n 0, 1) := by decide +kernel
theorem dX12_who_18 : decode cX12_who 18 = .ok (.invokevirtual 198, 3) := by decide +kernel
theorem dX12_who_21 : decode cX12_who 21 = .ok (.iload_n 1, 1) := by decide +kernel
theorem dX12_who_22 : decode cX12_who 22 = .ok (.ifCond .ne 10, 3) := by decide +kernel
theorem dX12_who_25 : decode cX12_who 25 = .ok (.aload_n 0, 1) := by decide +kernel
theorem dX12_who_26 : decode cX12_who 26 = .ok (.getfield 189, 3) := by decide +kernel
theorem dX12_who_29 : decode cX12_who 29 = .ok (.goto 7, 3) := by decide +kernel
theorem dX12_who_32 : decode cX12_who 32 = .ok (.aload_n 0, 1) := by decide +kernel
theorem dX12_who_33 : decode cX12_who 33 = .ok (.getfield 192, 3) := by decide +kernel
theorem dX12_who_36 : decode cX12_who 36 = .ok (.ireturn, 1) := by decide +kernel
theorem dX12_greaterPart_0 : decode cX12_greaterPart 0 = .ok (.iconst 0, 1) := by decide +kernel
theorem dX12_greaterPart_1 : decode cX12_greaterPart 1 = .ok (.istore_n 2, 1) := by decide +kernel
theorem dX12_greaterPart_2 : decode cX12_greaterPart 2 = .ok (.iconst 1, 1) := by decide +kernel
theorem dX12_greaterPart_3 : decode cX12_greaterPart 3 = .ok (.istore_n 3, 1) := by decide +kernel
theorem dX12_greaterPart_4 : decode cX12_greaterPart 4 = .ok (.iload_n 3, 1) := by decide +kernel
theorem dX12_greaterPart_5 : decode cX12_greaterPart 5 = .ok (.sipush 300, 3) := by decide +kernel
theorem dX12_greaterPart_8 : decode cX12_greaterPart 8 = .ok (.if_icmp .gt 35, 3) := by decide +kernel
theorem dX12_greaterPart_11 : decode cX12_greaterPart 11 = .ok (.iload_n 2, 1) := by decide +kernel
theorem dX12_greaterPart_12 : decode cX12_greaterPart 12 = .ok (.aload_n 0, 1) := by decide +kernel
theorem dX12_greaterPart_13 : decode cX12_greaterPart 13 = .ok (.getfield 45, 3) := by decide +kernel
theorem dX12_greaterPart_16 : decode cX12_greaterPart 16 = .ok (.iload_n 3, 1) := by decide +kernel
theorem dX12_greaterPart_17 : decode cX12_greaterPart 17 = .ok (.baload, 1) := by decide +kernel
theorem dX12_greaterPart_18 : decode cX12_greaterPart 18 = .ok (.ifCond .eq 16, 3) := by decide +kernel
theorem dX12_greaterPart_21 : decode cX12_greaterPart 21 = .ok (.aload_n 0, 1) := by decide +kernel
theorem dX12_greaterPart_22 : decode cX12_greaterPart 22 = .ok (.iload_n 3, 1) := by decide +kernel
theorem dX12_greaterPart_23 : decode cX12_greaterPart 23 = .ok (.iload_n 1, 1) := by decide +kernel
theorem dX12_greaterPart_24 : decode cX12_greaterPart 24 = .ok (.invokevirtual 117, 3) := by decide +kernel
theorem dX12_greaterPart_27 : decode cX12_greaterPart 27 = .ok (.ifCond .eq 7, 3) := by decide +kernel
theorem dX12_greaterPart_30 : decode cX12_greaterPart 30 = .ok (.iconst 1, 1) := by decide +kernel
theorem dX12_greaterPart_31 : decode cX12_greaterPart 31 = .ok (.goto 4, 3) := by decide +kernel
theorem dX12_greaterPart_34 : decode cX12_greaterPart 34 = .ok (.iconst 0, 1) := by decide +kernel
theorem dX12_greaterPart_35 : decode cX12_greaterPart 35 = .ok (.iadd, 1) := by decide +kernel
theorem dX12_greaterPart_36 : decode cX12_greaterPart 36 = .ok (.istore_n 2, 1) := by decide +kernel
theorem dX12_greaterPart_37 : decode cX12_greaterPart 37 = .ok (.iinc 3 1, 3) := by decide +kernel
theorem dX12_greaterPart_40 : decode cX12_greaterPart 40 = .ok (.goto (-36), 3) := by decide +kernel
theorem dX12_greaterPart_43 : decode cX12_greaterPart 43 = .ok (.iconst 2, 1) := by decide +kernel
theorem dX12_greaterPart_44 : decode cX12_greaterPart 44 = .ok (.iload_n 2, 1) := by decide +kernel
theorem dX12_greaterPart_45 : decode cX12_greaterPart 45 = .ok (.imul, 1) := by decide +kernel
theorem dX12_greaterPart_46 : decode cX12_greaterPart 46 = .ok (.aload_n 0, 1) := by decide +kernel
theorem dX12_greaterPart_47 : decode cX12_greaterPart 47 = .ok (.getfield 189, 3) := by decide +kernel
theorem dX12_greaterPart_50 : decode cX12_greaterPart 50 = .ok (.if_icmp .le 7, 3) := by decide +kernel
theorem dX12_greaterPart_53 : decode cX12_greaterPart 53 = .ok (.iload_n 2, 1) := by decide +kernel
theorem dX12_greaterPart_54 : decode cX12_greaterPart 54 = .ok (.goto 9, 3) := by decide +kernel
theorem dX12_greaterPart_57 : decode cX12_greaterPart 57 = .ok (.aload_n 0, 1) := by decide +kernel
theorem dX12_greaterPart_58 : decode cX12_greaterPart 58 = .ok (.getfield 189, 3) := by decide +kernel
theorem dX12_greaterPart_61 : decode cX12_greaterPart 61 = .ok (.iload_n 2, 1) := by decide +kernel
theorem dX12_greaterPart_62 : decode cX12_greaterPart 62 = .ok (.isub, 1) := by decide +kernel
theorem dX12_greaterPart_63 : decode cX12_greaterPart 63 = .ok (.ireturn, 1) := by decide +kernel
theorem dX12_tryNext_0 : decode cX12_tryNext 0 = .ok (.aload_n 0, 1) := by decide +kernel
theorem dX12_tryNext_1 : decode cX12_tryNext 1 = .ok (.invokevirtual 198, 3) := by decide +kernel
theorem dX12_tryNext_4 : decode cX12_tryNext 4 = .ok (.iconst (-1), 1) := by decide +kernel
theorem dX12_tryNext_5 : decode cX12_tryNext 5 = .ok (.istore_n 1, 1) := by decide +kernel
theorem dX12_tryNext_6 : decode cX12_tryNext 6 = .ok (.ldc 150, 2) := by decide +kernel
theorem dX12_tryNext_8 : decode cX12_tryNext 8 = .ok (.istore_n 2, 1) := by decide +kernel
theorem dX12_tryNext_9 : decode cX12_tryNext 9 = .ok (.iconst 1, 1) := by decide +kernel
theorem dX12_tryNext_10 : decode cX12_tryNext 10 = .ok (.istore_n 3, 1) := by decide +kernel
theorem dX12_tryNext_11 : decode cX12_tryNext 11 = .ok (.iload_n 3, 1) := by decide +kernel
theorem dX12_tryNext_12 : decode cX12_tryNext 12 = .ok (.sipush 300, 3) := by decide +kernel
theorem dX12_tryNext_15 : decode cX12_tryNext 15 = .ok (.if_icmp .gt 48, 3) := by decide +kernel
theorem dX12_tryNext_18 : decode cX12_tryNext 18 = .ok (.aload_n 0, 1) := by decide +kernel
theorem dX12_tryNext_19 : decode cX12_tryNext 19 = .ok (.getfield 189, 3) := by decide +kernel
theorem dX12_tryNext_22 : decode cX12_tryNext 22 = .ok (.ifCond .le 41, 3) := by decide +kernel
theorem dX12_tryNext_25 : decode cX12_tryNext 25 = .ok (.aload_n 0, 1) := by decide +kernel
theorem dX12_tryNext_26 : decode cX12_tryNext 26 = .ok (.iload_n 3, 1) := by decide +kernel
theorem dX12_tryNext_27 : decode cX12_tryNext 27 = .ok (.invokevirtual 201, 3) := by decide +kernel
theorem dX12_tryNext_30 : decode cX12_tryNext 30 = .ok (.istore 4, 2) := by decide +kernel
theorem dX12_tryNext_32 : decode cX12_tryNext 32 = .ok (.iload 4, 2) := by decide +kernel
theorem dX12_tryNext_34 : decode cX12_tryNext 34 = .ok (.iload_n 2, 1) := by decide +kernel
theorem dX12_tryNext_35 : decode cX12_tryNext 35 = .ok (.if_icmp .ge 7, 3) := by decide +kernel
theorem dX12_tryNext_38 : decode cX12_tryNext 38 = .ok (.iload_n 3, 1) := by decide +kernel
theorem dX12_tryNext_39 : decode cX12_tryNext 39 = .ok (.goto 4, 3) := by decide +kernel
theorem dX12_tryNext_42 : decode cX12_tryNext 42 = .ok (.iload_n 1, 1) := by decide +kernel
theorem dX12_tryNext_43 : decode cX12_tryNext 43 = .ok (.istore_n 1, 1) := by decide +kernel
theorem dX12_tryNext_44 : decode cX12_tryNext 44 = .ok (.iload 4, 2) := by decide +kernel
theorem dX12_tryNext_46 : decode cX12_tryNext 46 = .ok (.iload_n 2, 1) := by decide +kernel
theorem dX12_tryNext_47 : decode cX12_tryNext 47 = .ok (.if_icmp .ge 8, 3) := by decide +kernel
theorem dX12_tryNext_50 : decode cX12_tryNext 50 = .ok (.iload 4, 2) := by decide +kernel
theorem dX12_tryNext_52 : decode cX12_tryNext 52 = .ok (.goto 4, 3) := by decide +kernel
theorem dX12_tryNext_55 : decode cX12_tryNext 55 = .ok (.iload_n 2, 1) := by decide +kernel
theorem dX12_tryNext_56 : decode cX12_tryNext 56 = .ok (.istore_n 2, 1) := by decide +kernel
theorem dX12_tryNext_57 : decode cX12_tryNext 57 = .ok (.iinc 3 1, 3) := by decide +kernel
theorem dX12_tryNext_60 : decode cX12_tryNext 60 = .ok (.goto (-49), 3) := by decide +kernel
theorem dX12_tryNext_63 : decode cX12_tryNext 63 = .ok (.iload_n 1, 1) := by decide +kernel
theorem dX12_tryNext_64 : decode cX12_tryNext 64 = .ok (.ireturn, 1) := by decide +kernel
theorem dX12_note_0 : decode cX12_note 0 = .ok (.iload_n 1, 1) := by decide +kernel
theorem dX12_note_1 : decode cX12_note 1 = .ok (.invokestatic 131, 3) := by decide +kernel
theorem dX12_note_4 : decode cX12_note 4 = .ok (.ifCond .eq 20, 3) := by decide +kernel
theorem dX12_note_7 : decode cX12_note 7 = .ok (.iload_n 2, 1) := by decide +kernel
theorem dX12_note_8 : decode cX12_note 8 = .ok (.invokestatic 131, 3) := by decide +kernel
theorem dX12_note_11 : decode cX12_note 11 = .ok (.ifCond .eq 13, 3) := by decide +kernel
theorem dX12_note_14 : decode cX12_note 14 = .ok (.iload_n 3, 1) := by decide +kernel
theorem dX12_note_15 : decode cX12_note 15 = .ok (.i2l, 1) := by decide +kernel
theorem dX12_note_16 : decode cX12_note 16 = .ok (.lconst 0, 1) := by decide +kernel
theorem dX12_note_17 : decode cX12_note 17 = .ok (.lconst 1, 1) := by decide +kernel
theorem dX12_note_18 : decode cX12_note 18 = .ok (.invokestatic 59, 3) := by decide +kernel
theorem dX12_note_21 : decode cX12_note 21 = .ok (.ifCond .ne 10, 3) := by decide +kernel
theorem dX12_note_24 : decode cX12_note 24 = .ok (.aload_n 0, 1) := by decide +kernel
theorem dX12_note_25 : decode cX12_note 25 = .ok (.bipush (-2), 2) := by decide +kernel
theorem dX12_note_27 : decode cX12_note 27 = .ok (.invokevirtual 87, 3) := by decide +kernel
theorem dX12_note_30 : decode cX12_note 30 = .ok (.ireturn, 1) := by decide +kernel
theorem dX12_note_31 : decode cX12_note 31 = .ok (.aload_n 0, 1) := by decide +kernel
theorem dX12_note_32 : decode cX12_note 32 = .ok (.getfield 7, 3) := by decide +kernel
theorem dX12_note_35 : decode cX12_note 35 = .ok (.bipush 11, 2) := by decide +kernel
theorem dX12_note_37 : decode cX12_note 37 = .ok (.iaload, 1) := by decide +kernel
theorem dX12_note_38 : decode cX12_note 38 = .ok (.bipush 8, 2) := by decide +kernel
theorem dX12_note_40 : decode cX12_note 40 = .ok (.if_icmp .ne 8, 3) := by decide +kernel
theorem dX12_note_43 : decode cX12_note 43 = .ok (.aload_n 0, 1) := by decide +kernel
theorem dX12_note_44 : decode cX12_note 44 = .ok (.invokevirtual 186, 3) := by decide +kernel
theorem dX12_note_47 : decode cX12_note 47 = .ok (.ireturn, 1) := by decide +kernel
theorem dX12_note_48 : decode cX12_note 48 = .ok (.bipush 45, 2) := by decide +kernel
theorem dX12_note_50 : decode cX12_note 50 = .ok (.iconst 3, 1) := by decide +kernel
theorem dX12_note_51 : decode cX12_note 51 = .ok (.aload_n 0, 1) := by decide +kernel
theorem dX12_note_52 : decode cX12_note 52 = .ok (.getfield 7, 3) := by decide +kernel
theorem dX12_note_55 : decode cX12_note 55 = .ok (.bipush 11, 2) := by decide +kernel
theorem dX12_note_57 : decode cX12_note 57 = .ok (.iaload, 1) := by decide +kernel
theorem dX12_note_58 : decode cX12_note 58 = .ok (.imul, 1) := by decide +kernel
theorem dX12_note_59 : decode cX12_note 59 = .ok (.iadd, 1) := by decide +kernel
theorem dX12_note_60 : decode cX12_note 60 = .ok (.istore 4, 2) := by decide +kernel
theorem dX12_note_62 : decode cX12_note 62 = .ok (.aload_n 0, 1) := by decide +kernel
theorem dX12_note_63 : decode cX12_note 63 = .ok (.getfield 7, 3) := by decide +kernel
theorem dX12_note_66 : decode cX12_note 66 = .ok (.iload 4, 2) := by decide +kernel
theorem dX12_note_68 : decode cX12_note 68 = .ok (.iload_n 1, 1) := by decide +kernel
theorem dX12_note_69 : decode cX12_note 69 = .ok (.iastore, 1) := by decide +kernel
theorem dX12_note_70 : decode cX12_note 70 = .ok (.aload_n 0, 1) := by decide +kernel
theorem dX12_note_71 : decode cX12_note 71 = .ok (.getfield 7, 3) := by decide +kernel
theorem dX12_note_74 : decode cX12_note 74 = .ok (.iload 4, 2) := by decide +kernel
theorem dX12_note_76 : decode cX12_note 76 = .ok (.iconst 1, 1) := by decide +kernel
theorem dX12_note_77 : decode cX12_note 77 = .ok (.iadd, 1) := by decide +kernel
theorem dX12_note_78 : decode cX12_note 78 = .ok (.iload_n 2, 1) := by decide +kernel
theorem dX12_note_79 : decode cX12_note 79 = .ok (.iastore, 1) := by decide +kernel
theorem dX12_note_80 : decode cX12_note 80 = .ok (.aload_n 0, 1) := by decide +kernel
theorem dX12_note_81 : decode cX12_note 81 = .ok (.getfield 7, 3) := by decide +kernel
theorem dX12_note_84 : decode cX12_note 84 = .ok (.iload 4, 2) := by decide +kernel
theorem dX12_note_86 : decode cX12_note 86 = .ok (.iconst 2, 1) := by decide +kernel
theorem dX12_note_87 : decode cX12_note 87 = .ok (.iadd, 1) := by decide +kernel
theorem dX12_note_88 : decode cX12_note 88 = .ok (.iload_n 3, 1) := by decide +kernel
theorem dX12_note_89 : decode cX12_note 89 = .ok (.iastore, 1) := by decide +kernel
theorem dX12_note_90 : decode cX12_note 90 = .ok (.aload_n 0, 1) := by decide +kernel
theorem dX12_note_91 : decode cX12_note 91 = .ok (.getfield 7, 3) := by decide +kernel
theorem dX12_note_94 : decode cX12_note 94 = .ok (.bipush 11, 2) := by decide +kernel
theorem dX12_note_96 : decode cX12_note 96 = .ok (.dup2, 1) := by decide +kernel
theorem dX12_note_97 : decode cX12_note 97 = .ok (.iaload, 1) := by decide +kernel
theorem dX12_note_98 : decode cX12_note 98 = .ok (.iconst 1, 1) := by decide +kernel
theorem dX12_note_99 : decode cX12_note 99 = .ok (.iadd, 1) := by decide +kernel
theorem dX12_note_100 : decode cX12_note 100 = .ok (.iastore, 1) := by decide +kernel
theorem dX12_note_101 : decode cX12_note 101 = .ok (.aload_n 0, 1) := by decide +kernel
theorem dX12_note_102 : decode cX12_note 102 = .ok (.getfield 7, 3) := by decide +kernel
theorem dX12_note_105 : decode cX12_note 105 = .ok (.bipush 11, 2) := by decide +kernel
theorem dX12_note_107 : decode cX12_note 107 = .ok (.iaload, 1) := by decide +kernel
theorem dX12_note_108 : decode cX12_note 108 = .ok (.ireturn, 1) := by decide +kernel
theorem dX12_isLawSo_0 : decode cX12_isLawSo 0 = .ok (.iconst 1, 1) := by decide +kernel
theorem dX12_isLawSo_1 : decode cX12_isLawSo 1 = .ok (.istore_n 2, 1) := by decide +kernel
theorem dX12_isLawSo_2 : decode cX12_isLawSo 2 = .ok (.iconst 0, 1) := by decide +kernel
theorem dX12_isLawSo_3 : decode cX12_isLawSo 3 = .ok (.istore_n 3, 1) := by decide +kernel
theorem dX12_isLawSo_4 : decode cX12_isLawSo 4 = .ok (.iload_n 3, 1) := by decide +kernel
theorem dX12_isLawSo_5 : decode cX12_isLawSo 5 = .ok (.aload_n 0, 1) := by decide +kernel
theorem dX12_isLawSo_6 : decode cX12_isLawSo 6 = .ok (.getfield 7, 3) := by decide +kernel
theorem dX12_isLawSo_9 : decode cX12_isLawSo 9 = .ok (.bipush 11, 2) := by decide +kernel
theorem dX12_isLawSo_11 : decode cX12_isLawSo 11 = .ok (.iaload, 1) := by decide +kernel
theorem dX12_isLawSo_12 : decode cX12_isLawSo 12 = .ok (.if_icmp .ge 76, 3) := by decide +kernel
theorem dX12_isLawSo_15 : decode cX12_isLawSo 15 = .ok (.bipush 45, 2) := by decide +kernel
theorem dX12_isLawSo_17 : decode cX12_isLawSo 17 = .ok (.iconst 3, 1) := by decide +kernel
theorem dX12_isLawSo_18 : decode cX12_isLawSo 18 = .ok (.iload_n 3, 1) := by decide +kernel
theorem dX12_isLawSo_19 : decode cX12_isLawSo 19 = .ok (.imul, 1) := by decide +kernel
theorem dX12_isLawSo_20 : decode cX12_isLawSo 20 = .ok (.iadd, 1) := by decide +kernel
theorem dX12_isLawSo_21 : decode cX12_isLawSo 21 = .ok (.istore 4, 2) := by decide +kernel
theorem dX12_isLawSo_23 : decode cX12_isLawSo 23 = .ok (.iload_n 2, 1) := by decide +kernel
theorem dX12_isLawSo_24 : decode cX12_isLawSo 24 = .ok (.ifCond .eq 56, 3) := by decide +kernel
theorem dX12_isLawSo_27 : decode cX12_isLawSo 27 = .ok (.aload_n 0, 1) := by decide +kernel
theorem dX12_isLawSo_28 : decode cX12_isLawSo 28 = .ok (.iload_n 1, 1) := by decide +kernel
theorem dX12_isLawSo_29 : decode cX12_isLawSo 29 = .ok (.bipush 10, 2) := by decide +kernel
theorem dX12_isLawSo_31 : decode cX12_isLawSo 31 = .ok (.idiv, 1) := by decide +kernel
theorem dX12_isLawSo_32 : decode cX12_isLawSo 32 = .ok (.iload_n 1, 1) := by decide +kernel
theorem dX12_isLawSo_33 : decode cX12_isLawSo 33 = .ok (.bipush 10, 2) := by decide +kernel
theorem dX12_isLawSo_35 : decode cX12_isLawSo 35 = .ok (.irem, 1) := by decide +kernel
theorem dX12_isLawSo_36 : decode cX12_isLawSo 36 = .ok (.aload_n 0, 1) := by decide +kernel
theorem dX12_isLawSo_37 : decode cX12_isLawSo 37 = .ok (.getfield 7, 3) := by decide +kernel
theorem dX12_isLawSo_40 : decode cX12_isLawSo 40 = .ok (.iload 4, 2) := by decide +kernel
theorem dX12_isLawSo_42 : decode cX12_isLawSo 42 = .ok (.iaload, 1) := by decide +kernel
theorem dX12_isLawSo_43 : decode cX12_isLawSo 43 = .ok (.aload_n 0, 1) := by decide +kernel
theorem dX12_isLawSo_44 : decode cX12_isLawSo 44 = .ok (.getfield 7, 3) := by decide +kernel
theorem dX12_isLawSo_47 : decode cX12_isLawSo 47 = .ok (.iload 4, 2) := by decide +kernel
theorem dX12_isLawSo_49 : decode cX12_isLawSo 49 = .ok (.iconst 1, 1) := by decide +kernel
theorem dX12_isLawSo_50 : decode cX12_isLawSo 50 = .ok (.iadd, 1) := by decide +kernel
theorem dX12_isLawSo_51 : decode cX12_isLawSo 51 = .ok (.iaload, 1) := by decide +kernel
theorem dX12_isLawSo_52 : decode cX12_isLawSo 52 = .ok (.invokevirtual 80, 3) := by decide +kernel
theorem dX12_isLawSo_55 : decode cX12_isLawSo 55 = .ok (.aload_n 0, 1) := by decide +kernel
theorem dX12_isLawSo_56 : decode cX12_isLawSo 56 = .ok (.getfield 7, 3) := by decide +kernel
theorem dX12_isLawSo_59 : decode cX12_isLawSo 59 = .ok (.iload 4, 2) := by decide +kernel
theorem dX12_isLawSo_61 : decode cX12_isLawSo 61 = .ok (.iconst 2, 1) := by decide +kernel
theorem dX12_isLawSo_62 : decode cX12_isLawSo 62 = .ok (.iadd, 1) := by decide +kernel
theorem dX12_isLawSo_63 : decode cX12_isLawSo 63 = .ok (.iaload, 1) := by decide +kernel
theorem dX12_isLawSo_64 : decode cX12_isLawSo 64 = .ok (.iconst 1, 1) := by decide +kernel
theorem dX12_isLawSo_65 : decode cX12_isLawSo 65 = .ok (.if_icmp .ne 7, 3) := by decide +kernel
theorem dX12_isLawSo_68 : decode cX12_isLawSo 68 = .ok (.iconst 1, 1) := by decide +kernel
theorem dX12_isLawSo_69 : decode cX12_isLawSo 69 = .ok (.goto 4, 3) := by decide +kernel
theorem dX12_isLawSo_72 : decode cX12_isLawSo 72 = .ok (.iconst 0, 1) := by decide +kernel
theorem dX12_isLawSo_73 : decode cX12_isLawSo 73 = .ok (.if_icmp .ne 7, 3) := by decide +kernel
theorem dX12_isLawSo_76 : decode cX12_isLawSo 76 = .ok (.iconst 1, 1) := by decide +kernel
theorem dX12_isLawSo_77 : decode cX12_isLawSo 77 = .ok (.goto 4, 3) := by decide +kernel
theorem dX12_isLawSo_80 : decode cX12_isLawSo 80 = .ok (.iconst 0, 1) := by decide +kernel
theorem dX12_isLawSo_81 : decode cX12_isLawSo 81 = .ok (.istore_n 2, 1) := by decide +kernel
theorem dX12_isLawSo_82 : decode cX12_isLawSo 82 = .ok (.iinc 3 1, 3) := by decide +kernel
theorem dX12_isLawSo_85 : decode cX12_isLawSo 85 = .ok (.goto (-81), 3) := by decide +kernel
theorem dX12_isLawSo_88 : decode cX12_isLawSo 88 = .ok (.iload_n 2, 1) := by decide +kernel
theorem dX12_isLawSo_89 : decode cX12_isLawSo 89 = .ok (.ireturn, 1) := by decide +kernel
theorem dX12_laws_0 : decode cX12_laws 0 = .ok (.iload_n 1, 1) := by decide +kernel
theorem dX12_laws_1 : decode cX12_laws 1 = .ok (.i2l, 1) := by decide +kernel
theorem dX12_laws_2 : decode cX12_laws 2 = .ok (.lconst 0, 1) := by decide +kernel
theorem dX12_laws_3 : decode cX12_laws 3 = .ok (.lconst 1, 1) := by decide +kernel
theorem dX12_laws_4 : decode cX12_laws 4 = .ok (.invokestatic 59, 3) := by decide +kernel
theorem dX12_laws_7 : decode cX12_laws 7 = .ok (.ifCond .ne 10, 3) := by decide +kernel
theorem dX12_laws_10 : decode cX12_laws 10 = .ok (.aload_n 0, 1) := by decide +kernel
theorem dX12_laws_11 : decode cX12_laws 11 = .ok (.bipush (-10), 2) := by decide +kernel
theorem dX12_laws_13 : decode cX12_laws 13 = .ok (.invokevirtual 87, 3) := by decide +kernel
theorem dX12_laws_16 : decode cX12_laws 16 = .ok (.ireturn, 1) := by decide +kernel
theorem dX12_laws_17 : decode cX12_laws 17 = .ok (.iconst 0, 1) := by decide +kernel
theorem dX12_laws_18 : decode cX12_laws 18 = .ok (.istore_n 2, 1) := by decide +kernel
theorem dX12_laws_19 : decode cX12_laws 19 = .ok (.iconst (-1), 1) := by decide +kernel
theorem dX12_laws_20 : decode cX12_laws 20 = .ok (.istore_n 3, 1) := by decide +kernel
theorem dX12_laws_21 : decode cX12_laws 21 = .ok (.iconst 0, 1) := by decide +kernel
theorem dX12_laws_22 : decode cX12_laws 22 = .ok (.istore 4, 2) := by decide +kernel
theorem dX12_laws_24 : decode cX12_laws 24 = .ok (.iload 4, 2) := by decide +kernel
theorem dX12_laws_26 : decode cX12_laws 26 = .ok (.bipush 60, 2) := by decide +kernel
theorem dX12_laws_28 : decode cX12_laws 28 = .ok (.if_icmp .ge 46, 3) := by decide +kernel
theorem dX12_laws_31 : decode cX12_laws 31 = .ok (.aload_n 0, 1) := by decide +kernel
theorem dX12_laws_32 : decode cX12_laws 32 = .ok (.iload 4, 2) := by decide +kernel
theorem dX12_laws_34 : decode cX12_laws 34 = .ok (.invokevirtual 204, 3) := by decide +kernel
theorem dX12_laws_37 : decode cX12_laws 37 = .ok (.istore 5, 2) := by decide +kernel
theorem dX12_laws_39 : decode cX12_laws 39 = .ok (.iload 5, 2) := by decide +kernel
theorem dX12_laws_41 : decode cX12_laws 41 = .ok (.ifCond .eq 12, 3) := by decide +kernel
theorem dX12_laws_44 : decode cX12_laws 44 = .ok (.iload_n 2, 1) := by decide +kernel
theorem dX12_laws_45 : decode cX12_laws 45 = .ok (.ifCond .ne 8, 3) := by decide +kernel
theorem dX12_laws_48 : decode cX12_laws 48 = .ok (.iload 4, 2) := by decide +kernel
theorem dX12_laws_50 : decode cX12_laws 50 = .ok (.goto 4, 3) := by decide +kernel
theorem dX12_laws_53 : decode cX12_laws 53 = .ok (.iload_n 3, 1) := by decide +kernel
theorem dX12_laws_54 : decode cX12_laws 54 = .ok (.istore_n 3, 1) := by decide +kernel
theorem dX12_laws_55 : decode cX12_laws 55 = .ok (.iload_n 2, 1) := by decide +kernel
theorem dX12_laws_56 : decode cX12_laws 56 = .ok (.iload 5, 2) := by decide +kernel
theorem dX12_laws_58 : decode cX12_laws 58 = .ok (.ifCond .eq 7, 3) := by decide +kernel
theorem dX12_laws_61 : decode cX12_laws 61 = .ok (.iconst 1, 1) := by decide +kernel
theorem dX12_laws_62 : decode cX12_laws 62 = .ok (.goto 4, 3) := by decide +kernel
theorem dX12_laws_65 : decode cX12_laws 65 = .ok (.iconst 0, 1) := by decide +kernel
theorem dX12_laws_66 : decode cX12_laws 66 = .ok (.iadd, 1) := by decide +kernel
theorem dX12_laws_67 : decode cX12_laws 67 = .ok (.istore_n 2, 1) := by decide +kernel
theorem dX12_laws_68 : decode cX12_laws 68 = .ok (.iinc 4 1, 3) := by decide +kernel
theorem dX12_laws_71 : decode cX12_laws 71 = .ok (.goto (-47), 3) := by decide +kernel
theorem dX12_laws_74 : decode cX12_laws 74 = .ok (.iload_n 1, 1) := by decide +kernel
theorem dX12_laws_75 : decode cX12_laws 75 = .ok (.ifCond .ne 7, 3) := by decide +kernel
theorem dX12_laws_78 : decode cX12_laws 78 = .ok (.iload_n 2, 1) := by decide +kernel
theorem dX12_laws_79 : decode cX12_laws 79 = .ok (.goto 4, 3) := by decide +kernel
theorem dX12_laws_82 : decode cX12_laws 82 = .ok (.iload_n 3, 1) := by decide +kernel
theorem dX12_laws_83 : decode cX12_laws 83 = .ok (.ireturn, 1) := by decide +kernel
theorem dX12_forget_0 : decode cX12_forget 0 = .ok (.iload_n 1, 1) := by decide +kernel
theorem dX12_forget_1 : decode cX12_forget 1 = .ok (.i2l, 1) := by decide +kernel
theorem dX12_forget_2 : decode cX12_forget 2 = .ok (.lconst 0, 1) := by decide +kernel
theorem dX12_forget_3 : decode cX12_forget 3 = .ok (.lconst 1, 1) := by decide +kernel
theorem dX12_forget_4 : decode cX12_forget 4 = .ok (.invokestatic 59, 3) := by decide +kernel
theorem dX12_forget_7 : decode cX12_forget 7 = .ok (.ifCond .ne 10, 3) := by decide +kernel
theorem dX12_forget_10 : decode cX12_forget 10 = .ok (.aload_n 0, 1) := by decide +kernel
theorem dX12_forget_11 : decode cX12_forget 11 = .ok (.bipush (-2), 2) := by decide +kernel
theorem dX12_forget_13 : decode cX12_forget 13 = .ok (.invokevirtual 87, 3) := by decide +kernel
theorem dX12_forget_16 : decode cX12_forget 16 = .ok (.ireturn, 1) := by decide +kernel
theorem dX12_forget_17 : decode cX12_forget 17 = .ok (.iload_n 1, 1) := by decide +kernel
theorem dX12_forget_18 : decode cX12_forget 18 = .ok (.ifCond .ne 8, 3) := by decide +kernel
theorem dX12_forget_21 : decode cX12_forget 21 = .ok (.bipush 10, 2) := by decide +kernel
theorem dX12_forget_23 : decode cX12_forget 23 = .ok (.goto 5, 3) := by decide +kernel
theorem dX12_forget_26 : decode cX12_forget 26 = .ok (.bipush 11, 2) := by decide +kernel
theorem dX12_forget_28 : decode cX12_forget 28 = .ok (.istore_n 2, 1) := by decide +kernel
theorem dX12_forget_29 : decode cX12_forget 29 = .ok (.aload_n 0, 1) := by decide +kernel
theorem dX12_forget_30 : decode cX12_forget 30 = .ok (.getfield 7, 3) := by decide +kernel
theorem dX12_forget_33 : decode cX12_forget 33 = .ok (.iload_n 2, 1) := by decide +kernel
theorem dX12_forget_34 : decode cX12_forget 34 = .ok (.iaload, 1) := by decide +kernel
theorem dX12_forget_35 : decode cX12_forget 35 = .ok (.istore_n 3, 1) := by decide +kernel
theorem dX12_forget_36 : decode cX12_forget 36 = .ok (.aload_n 0, 1) := by decide +kernel
theorem dX12_forget_37 : decode cX12_forget 37 = .ok (.getfield 7, 3) := by decide +kernel
theorem dX12_forget_40 : decode cX12_forget 40 = .ok (.iload_n 2, 1) := by decide +kernel
theorem dX12_forget_41 : decode cX12_forget 41 = .ok (.iconst 0, 1) := by decide +kernel
theorem dX12_forget_42 : decode cX12_forget 42 = .ok (.iastore, 1) := by decide +kernel
theorem dX12_forget_43 : decode cX12_forget 43 = .ok (.iload_n 3, 1) := by decide +kernel
theorem dX12_forget_44 : decode cX12_forget 44 = .ok (.ireturn, 1) := by decide +kernel
theorem dX12_split_0 : decode cX12_split 0 = .ok (.iload_n 1, 1) := by decide +kernel
theorem dX12_split_1 : decode cX12_split 1 = .ok (.invokestatic 108, 3) := by decide +kernel
theorem dX12_split_4 : decode cX12_split 4 = .ok (.ifCond .ne 10, 3) := by decide +kernel
theorem dX12_split_7 : decode cX12_split 7 = .ok (.aload_n 0, 1) := by decide +kernel
theorem dX12_split_8 : decode cX12_split 8 = .ok (.bipush (-2), 2) := by decide +kernel
theorem dX12_split_10 : decode cX12_split 10 = .ok (.invokevirtual 87, 3) := by decide +kernel
theorem dX12_split_13 : decode cX12_split 13 = .ok (.ireturn, 1) := by decide +kernel
theorem dX12_split_14 : decode cX12_split 14 = .ok (.iconst (-1), 1) := by decide +kernel
theorem dX12_split_15 : decode cX12_split 15 = .ok (.istore_n 2, 1) := by decide +kernel
theorem dX12_split_16 : decode cX12_split 16 = .ok (.bipush 8, 2) := by decide +kernel
theorem dX12_split_18 : decode cX12_split 18 = .ok (.istore_n 3, 1) := by decide +kernel
theorem dX12_split_19 : decode cX12_split 19 = .ok (.iload_n 3, 1) := by decide +kernel
theorem dX12_split_20 : decode cX12_split 20 = .ok (.ifCond .le 34, 3) := by decide +kernel
theorem dX12_split_23 : decode cX12_split 23 = .ok (.iload_n 1, 1) := by decide +kernel
theorem dX12_split_24 : decode cX12_split 24 = .ok (.iload_n 3, 1) := by decide +kernel
theorem dX12_split_25 : decode cX12_split 25 = .ok (.iadd, 1) := by decide +kernel
theorem dX12_split_26 : decode cX12_split 26 = .ok (.bipush 8, 2) := by decide +kernel
theorem dX12_split_28 : decode cX12_split 28 = .ok (.irem, 1) := by decide +kernel
theorem dX12_split_29 : decode cX12_split 29 = .ok (.istore 4, 2) := by decide +kernel
theorem dX12_split_31 : decode cX12_split 31 = .ok (.aload_n 0, 1) := by decide +kernel
theorem dX12_split_32 : decode cX12_split 32 = .ok (.getfield 7, 3) := by decide +kernel
theorem dX12_split_35 : decode cX12_split 35 = .ok (.iload 4, 2) := by decide +kernel
theorem dX12_split_37 : decode cX12_split 37 = .ok (.iaload, 1) := by decide +kernel
theorem dX12_split_38 : decode cX12_split 38 = .ok (.ifCond .ne 8, 3) := by decide +kernel
theorem dX12_split_41 : decode cX12_split 41 = .ok (.iload 4, 2) := by decide +kernel
theorem dX12_split_43 : decode cX12_split 43 = .ok (.goto 4, 3) := by decide +kernel
theorem dX12_split_46 : decode cX12_split 46 = .ok (.iload_n 2, 1) := by decide +kernel
theorem dX12_split_47 : decode cX12_split 47 = .ok (.istore_n 2, 1) := by decide +kernel
theorem dX12_split_48 : decode cX12_split 48 = .ok (.iinc 3 (-1), 3) := by decide +kernel
theorem dX12_split_51 : decode cX12_split 51 = .ok (.goto (-32), 3) := by decide +kernel
theorem dX12_split_54 : decode cX12_split 54 = .ok (.iload_n 2, 1) := by decide +kernel
theorem dX12_split_55 : decode cX12_split 55 = .ok (.iconst (-1), 1) := by decide +kernel
theorem dX12_split_56 : decode cX12_split 56 = .ok (.if_icmp .eq 13, 3) := by decide +kernel
theorem dX12_split_59 : decode cX12_split 59 = .ok (.aload_n 0, 1) := by decide +kernel
theorem dX12_split_60 : decode cX12_split 60 = .ok (.getfield 7, 3) := by decide +kernel
theorem dX12_split_63 : decode cX12_split 63 = .ok (.iload_n 1, 1) := by decide +kernel
theorem dX12_split_64 : decode cX12_split 64 = .ok (.iaload, 1) := by decide +kernel
theorem dX12_split_65 : decode cX12_split 65 = .ok (.iconst 2, 1) := by decide +kernel
theorem dX12_split_66 : decode cX12_split 66 = .ok (.if_icmp .ge 5, 3) := by decide +kernel
theorem dX12_split_69 : decode cX12_split 69 = .ok (.iconst (-1), 1) := by decide +kernel
theorem dX12_split_70 : decode cX12_split 70 = .ok (.ireturn, 1) := by decide +kernel
theorem dX12_split_71 : decode cX12_split 71 = .ok (.aload_n 0, 1) := by decide +kernel
theorem dX12_split_72 : decode cX12_split 72 = .ok (.invokevirtual 125, 3) := by decide +kernel
theorem dX12_split_75 : decode cX12_split 75 = .ok (.aload_n 0, 1) := by decide +kernel
theorem dX12_split_76 : decode cX12_split 76 = .ok (.getfield 30, 3) := by decide +kernel
theorem dX12_split_79 : decode cX12_split 79 = .ok (.iload_n 1, 1) := by decide +kernel
theorem dX12_split_80 : decode cX12_split 80 = .ok (.aload_n 0, 1) := by decide +kernel
theorem dX12_split_81 : decode cX12_split 81 = .ok (.getfield 7, 3) := by decide +kernel
theorem dX12_split_84 : decode cX12_split 84 = .ok (.iload_n 1, 1) := by decide +kernel
theorem dX12_split_85 : decode cX12_split 85 = .ok (.iaload, 1) := by decide +kernel
theorem dX12_split_86 : decode cX12_split 86 = .ok (.iconst 2, 1) := by decide +kernel
theorem dX12_split_87 : decode cX12_split 87 = .ok (.idiv, 1) := by decide +kernel
theorem dX12_split_88 : decode cX12_split 88 = .ok (.iastore, 1) := by decide +kernel
theorem dX12_split_89 : decode cX12_split 89 = .ok (.aload_n 0, 1) := by decide +kernel
theorem dX12_split_90 : decode cX12_split 90 = .ok (.getfield 30, 3) := by decide +kernel
theorem dX12_split_93 : decode cX12_split 93 = .ok (.iload_n 2, 1) := by decide +kernel
theorem dX12_split_94 : decode cX12_split 94 = .ok (.aload_n 0, 1) := by decide +kernel
theorem dX12_split_95 : decode cX12_split 95 = .ok (.getfield 7, 3) := by decide +kernel
theorem dX12_split_98 : decode cX12_split 98 = .ok (.iload_n 1, 1) := by decide +kernel
theorem dX12_split_99 : decode cX12_split 99 = .ok (.iaload, 1) := by decide +kernel
theorem dX12_split_100 : decode cX12_split 100 = .ok (.aload_n 0, 1) := by decide +kernel
theorem dX12_split_101 : decode cX12_split 101 = .ok (.getfield 7, 3) := by decide +kernel
theorem dX12_split_104 : decode cX12_split 104 = .ok (.iload_n 1, 1) := by decide +kernel
theorem dX12_split_105 : decode cX12_split 105 = .ok (.iaload, 1) := by decide +kernel
theorem dX12_split_106 : decode cX12_split 106 = .ok (.iconst 2, 1) := by decide +kernel
theorem dX12_split_107 : decode cX12_split 107 = .ok (.idiv, 1) := by decide +kernel
theorem dX12_split_108 : decode cX12_split 108 = .ok (.isub, 1) := by decide +kernel
theorem dX12_split_109 : decode cX12_split 109 = .ok (.iastore, 1) := by decide +kernel
theorem dX12_split_110 : decode cX12_split 110 = .ok (.aload_n 0, 1) := by decide +kernel
theorem dX12_split_111 : decode cX12_split 111 = .ok (.invokevirtual 134, 3) := by decide +kernel
theorem dX12_split_114 : decode cX12_split 114 = .ok (.ireturn, 1) := by decide +kernel
theorem dX12_fraction_0 : decode cX12_fraction 0 = .ok (.lload_n 1, 1) := by decide +kernel
theorem dX12_fraction_1 : decode cX12_fraction 1 = .ok (.lstore 5, 2) := by decide +kernel
theorem dX12_fraction_3 : decode cX12_fraction 3 = .ok (.lload_n 3, 1) := by decide +kernel
theorem dX12_fraction_4 : decode cX12_fraction 4 = .ok (.lstore 7, 2) := by decide +kernel
theorem dX12_fraction_6 : decode cX12_fraction 6 = .ok (.lload 7, 2) := by decide +kernel
theorem dX12_fraction_8 : decode cX12_fraction 8 = .ok (.lconst 0, 1) := by decide +kernel
theorem dX12_fraction_9 : decode cX12_fraction 9 = .ok (.lcmp, 1) := by decide +kernel
theorem dX12_fraction_10 : decode cX12_fraction 10 = .ok (.ifCond .eq 21, 3) := by decide +kernel
theorem dX12_fraction_13 : decode cX12_fraction 13 = .ok (.lload 5, 2) := by decide +kernel
theorem dX12_fraction_15 : decode cX12_fraction 15 = .ok (.lload 7, 2) := by decide +kernel
theorem dX12_fraction_17 : decode cX12_fraction 17 = .ok (.lrem, 1) := by decide +kernel
theorem dX12_fraction_18 : decode cX12_fraction 18 = .ok (.lstore 9, 2) := by decide +kernel
theorem dX12_fraction_20 : decode cX12_fraction 20 = .ok (.lload 7, 2) := by decide +kernel
theorem dX12_fraction_22 : decode cX12_fraction 22 = .ok (.lstore 5, 2) := by decide +kernel
theorem dX12_fraction_24 : decode cX12_fraction 24 = .ok (.lload 9, 2) := by decide +kernel
theorem dX12_fraction_26 : decode cX12_fraction 26 = .ok (.lstore 7, 2) := by decide +kernel
theorem dX12_fraction_28 : decode cX12_fraction 28 = .ok (.goto (-22), 3) := by decide +kernel
theorem dX12_fraction_31 : decode cX12_fraction 31 = .ok (.aload_n 0, 1) := by decide +kernel
theorem dX12_fraction_32 : decode cX12_fraction 32 = .ok (.lload_n 1, 1) := by decide +kernel
theorem dX12_fraction_33 : decode cX12_fraction 33 = .ok (.lload 5, 2) := by decide +kernel
theorem dX12_fraction_35 : decode cX12_fraction 35 = .ok (.ldiv, 1) := by decide +kernel
theorem dX12_fraction_36 : decode cX12_fraction 36 = .ok (.putfield 207, 3) := by decide +kernel
theorem dX12_fraction_39 : decode cX12_fraction 39 = .ok (.aload_n 0, 1) := by decide +kernel
theorem dX12_fraction_40 : decode cX12_fraction 40 = .ok (.lload_n 3, 1) := by decide +kernel
theorem dX12_fraction_41 : decode cX12_fraction 41 = .ok (.lload 5, 2) := by decide +kernel
theorem dX12_fraction_43 : decode cX12_fraction 43 = .ok (.ldiv, 1) := by decide +kernel
theorem dX12_fraction_44 : decode cX12_fraction 44 = .ok (.putfield 26, 3) := by decide +kernel
theorem dX12_fraction_47 : decode cX12_fraction 47 = .ok (.return_, 1) := by decide +kernel
theorem dX12_odds_0 : decode cX12_odds 0 = .ok (.iload_n 1, 1) := by decide +kernel
theorem dX12_odds_1 : decode cX12_odds 1 = .ok (.i2l, 1) := by decide +kernel
theorem dX12_odds_2 : decode cX12_odds 2 = .ok (.lconst 0, 1) := by decide +kernel
theorem dX12_odds_3 : decode cX12_odds 3 = .ok (.ldc2_w 210, 3) := by decide +kernel
theorem dX12_odds_6 : decode cX12_odds 6 = .ok (.invokestatic 59, 3) := by decide +kernel
theorem dX12_odds_9 : decode cX12_odds 9 = .ok (.ifCond .ne 10, 3) := by decide +kernel
theorem dX12_odds_12 : decode cX12_odds 12 = .ok (.aload_n 0, 1) := by decide +kernel
theorem dX12_odds_13 : decode cX12_odds 13 = .ok (.bipush (-2), 2) := by decide +kernel
theorem dX12_odds_15 : decode cX12_odds 15 = .ok (.invokevirtual 87, 3) := by decide +kernel
theorem dX12_odds_18 : decode cX12_odds 18 = .ok (.ireturn, 1) := by decide +kernel
theorem dX12_odds_19 : decode cX12_odds 19 = .ok (.aload_n 0, 1) := by decide +kernel
theorem dX12_odds_20 : decode cX12_odds 20 = .ok (.invokevirtual 91, 3) := by decide +kernel
theorem dX12_odds_23 : decode cX12_odds 23 = .ok (.istore_n 2, 1) := by decide +kernel
theorem dX12_odds_24 : decode cX12_odds 24 = .ok (.lconst 0, 1) := by decide +kernel
theorem dX12_odds_25 : decode cX12_odds 25 = .ok (.lstore_n 3, 1) := by decide +kernel
theorem dX12_odds_26 : decode cX12_odds 26 = .ok (.lconst 1, 1) := by decide +kernel
theorem dX12_odds_27 : decode cX12_odds 27 = .ok (.lstore 5, 2) := by decide +kernel
theorem dX12_odds_29 : decode cX12_odds 29 = .ok (.iconst 0, 1) := by decide +kernel
theorem dX12_odds_30 : decode cX12_odds 30 = .ok (.istore 7, 2) := by decide +kernel
theorem dX12_odds_32 : decode cX12_odds 32 = .ok (.iload 7, 2) := by decide +kernel
theorem dX12_odds_34 : decode cX12_odds 34 = .ok (.iload_n 2, 1) := by decide +kernel
theorem dX12_odds_35 : decode cX12_odds 35 = .ok (.invokestatic 95, 3) := by decide +kernel
theorem dX12_odds_38 : decode cX12_odds 38 = .ok (.if_icmp .ge 17, 3) := by decide +kernel
theorem dX12_odds_41 : decode cX12_odds 41 = .ok (.lload 5, 2) := by decide +kernel
theorem dX12_odds_43 : decode cX12_odds 43 = .ok (.ldc2_w 210, 3) := by decide +kernel
theorem dX12_odds_46 : decode cX12_odds 46 = .ok (.lmul, 1) := by decide +kernel
theorem dX12_odds_47 : decode cX12_odds 47 = .ok (.lstore 5, 2) := by decide +kernel
theorem dX12_odds_49 : decode cX12_odds 49 = .ok (.iinc 7 1, 3) := by decide +kernel
theorem dX12_odds_52 : decode cX12_odds 52 = .ok (.goto (-20), 3) := by decide +kernel
theorem dX12_odds_55 : decode cX12_odds 55 = .ok (.iconst 0, 1) := by decide +kernel
theorem dX12_odds_56 : decode cX12_odds 56 = .ok (.istore 7, 2) := by decide +kernel
theorem dX12_odds_58 : decode cX12_odds 58 = .ok (.iload 7, 2) := by decide +kernel
theorem dX12_odds_60 : decode cX12_odds 60 = .ok (.sipush 256, 3) := by decide +kernel
theorem dX12_odds_63 : decode cX12_odds 63 = .ok (.if_icmp .ge 149, 3) := by decide +kernel
theorem dX12_odds_66 : decode cX12_odds 66 = .ok (.iload 7, 2) := by decide +kernel
theorem dX12_odds_68 : decode cX12_odds 68 = .ok (.iload_n 2, 1) := by decide +kernel
theorem dX12_odds_69 : decode cX12_odds 69 = .ok (.iconst (-1), 1) := by decide +kernel
theorem dX12_odds_70 : decode cX12_odds 70 = .ok (.ixor, 1) := by decide +kernel
theorem dX12_odds_71 : decode cX12_odds 71 = .ok (.iand, 1) := by decide +kernel
theorem dX12_odds_72 : decode cX12_odds 72 = .ok (.ifCond .ne 134, 3) := by decide +kernel
theorem dX12_odds_75 : decode cX12_odds 75 = .ok (.lconst 1, 1) := by decide +kernel
theorem dX12_odds_76 : decode cX12_odds 76 = .ok (.lstore 8, 2) := by decide +kernel
theorem dX12_odds_78 : decode cX12_odds 78 = .ok (.iconst 0, 1) := by decide +kernel
theorem dX12_odds_79 : decode cX12_odds 79 = .ok (.istore 10, 2) := by decide +kernel
theorem dX12_odds_81 : decode cX12_odds 81 = .ok (.iload 10, 2) := by decide +kernel
theorem dX12_odds_83 : decode cX12_odds 83 = .ok (.bipush 8, 2) := by decide +kernel
theorem dX12_odds_85 : decode cX12_odds 85 = .ok (.if_icmp .ge 105, 3) := by decide +kernel
theorem dX12_odds_88 : decode cX12_odds 88 = .ok (.iload 7, 2) := by decide +kernel
theorem dX12_odds_90 : decode cX12_odds 90 = .ok (.iload 10, 2) := by decide +kernel
theorem dX12_odds_92 : decode cX12_odds 92 = .ok (.ishr, 1) := by decide +kernel
theorem dX12_odds_93 : decode cX12_odds 93 = .ok (.iconst 1, 1) := by decide +kernel
theorem dX12_odds_94 : decode cX12_odds 94 = .ok (.iand, 1) := by decide +kernel
theorem dX12_odds_95 : decode cX12_odds 95 = .ok (.iconst 1, 1) := by decide +kernel
theorem dX12_odds_96 : decode cX12_odds 96 = .ok (.if_icmp .ne 7, 3) := by decide +kernel
theorem dX12_odds_99 : decode cX12_odds 99 = .ok (.iconst 1, 1) := by decide +kernel
theorem dX12_odds_100 : decode cX12_odds 100 = .ok (.goto 4, 3) := by decide +kernel
theorem dX12_odds_103 : decode cX12_odds 103 = .ok (.iconst 0, 1) := by decide +kernel
theorem dX12_odds_104 : decode cX12_odds 104 = .ok (.istore 11, 2) := by decide +kernel
theorem dX12_odds_106 : decode cX12_odds 106 = .ok (.lload 8, 2) := by decide +kernel
theorem dX12_odds_108 : decode cX12_odds 108 = .ok (.aload_n 0, 1) := by decide +kernel
theorem dX12_odds_109 : decode cX12_odds 109 = .ok (.getfield 7, 3) := by decide +kernel
theorem dX12_odds_112 : decode cX12_odds 112 = .ok (.iload 10, 2) := by decide +kernel
theorem dX12_odds_114 : decode cX12_odds 114 = .ok (.iaload, 1) := by decide +kernel
theorem dX12_odds_115 : decode cX12_odds 115 = .ok (.ifCond .ne 7, 3) := by decide +kernel
theorem dX12_odds_118 : decode cX12_odds 118 = .ok (.lconst 1, 1) := by decide +kernel
theorem dX12_odds_119 : decode cX12_odds 119 = .ok (.goto 18, 3) := by decide +kernel
theorem dX12_odds_122 : decode cX12_odds 122 = .ok (.iload 11, 2) := by decide +kernel
theorem dX12_odds_124 : decode cX12_odds 124 = .ok (.ifCond .eq 8, 3) := by decide +kernel
theorem dX12_odds_127 : decode cX12_odds 127 = .ok (.iload_n 1, 1) := by decide +kernel
theorem dX12_odds_128 : decode cX12_odds 128 = .ok (.i2l, 1) := by decide +kernel
theorem dX12_odds_129 : decode cX12_odds 129 = .ok (.goto 8, 3) := by decide +kernel
theorem dX12_odds_132 : decode cX12_odds 132 = .ok (.bipush 10, 2) := by decide +kernel
theorem dX12_odds_134 : decode cX12_odds 134 = .ok (.iload_n 1, 1) := by decide +kernel
theorem dX12_odds_135 : decode cX12_odds 135 = .ok (.isub, 1) := by decide +kernel
theorem dX12_odds_136 : decode cX12_odds 136 = .ok (.i2l, 1) := by decide +kernel
theorem dX12_odds_137 : decode cX12_odds 137 = .ok (.lmul, 1) := by decide +kernel
theorem dX12_odds_138 : decode cX12_odds 138 = .ok (.lstore 8, 2) := by decide +kernel
theorem dX12_odds_140 : decode cX12_odds 140 = .ok (.aload_n 0, 1) := by decide +kernel
theorem dX12_odds_141 : decode cX12_odds 141 = .ok (.getfield 30, 3) := by decide +kernel
theorem dX12_odds_144 : decode cX12_odds 144 = .ok (.iload 10, 2) := by decide +kernel
theorem dX12_odds_146 : decode cX12_odds 146 = .ok (.iload 11, 2) := by decide +kernel
theorem dX12_odds_148 : decode cX12_odds 148 = .ok (.ifCond .eq 28, 3) := by decide +kernel
theorem dX12_odds_151 : decode cX12_odds 151 = .ok (.aload_n 0, 1) := by decide +kernel
theorem dX12_odds_152 : decode cX12_odds 152 = .ok (.getfield 7, 3) := by decide +kernel
theorem dX12_odds_155 : decode cX12_odds 155 = .ok (.iload 10, 2) := by decide +kernel
theorem dX12_odds_157 : decode cX12_odds 157 = .ok (.iaload, 1) := by decide +kernel
theorem dX12_odds_158 : decode cX12_odds 158 = .ok (.sipush 300, 3) := by decide +kernel
theorem dX12_odds_161 : decode cX12_odds 161 = .ok (.if_icmp .ge 15, 3) := by decide +kernel
theorem dX12_odds_164 : decode cX12_odds 164 = .ok (.aload_n 0, 1) := by decide +kernel
theorem dX12_odds_165 : decode cX12_odds 165 = .ok (.getfield 7, 3) := by decide +kernel
theorem dX12_odds_168 : decode cX12_odds 168 = .ok (.iload 10, 2) := by decide +kernel
theorem dX12_odds_170 : decode cX12_odds 170 = .ok (.iaload, 1) := by decide +kernel
theorem dX12_odds_171 : decode cX12_odds 171 = .ok (.iconst 1, 1) := by decide +kernel
theorem dX12_odds_172 : decode cX12_odds 172 = .ok (.iadd, 1) := by decide +kernel
theorem dX12_odds_173 : decode cX12_odds 173 = .ok (.goto 10, 3) := by decide +kernel
theorem dX12_odds_176 : decode cX12_odds 176 = .ok (.aload_n 0, 1) := by decide +kernel
theorem dX12_odds_177 : decode cX12_odds 177 = .ok (.getfield 7, 3) := by decide +kernel
theorem dX12_odds_180 : decode cX12_odds 180 = .ok (.iload 10, 2) := by decide +kernel
theorem dX12_odds_182 : decode cX12_odds 182 = .ok (.iaload, 1) := by decide +kernel
theorem dX12_odds_183 : decode cX12_odds 183 = .ok (.iastore, 1) := by decide +kernel
theorem dX12_odds_184 : decode cX12_odds 184 = .ok (.iinc 10 1, 3) := by decide +kernel
theorem dX12_odds_187 : decode cX12_odds 187 = .ok (.goto (-106), 3) := by decide +kernel
theorem dX12_odds_190 : decode cX12_odds 190 = .ok (.lload_n 3, 1) := by decide +kernel
theorem dX12_odds_191 : decode cX12_odds 191 = .ok (.aload_n 0, 1) := by decide +kernel
theorem dX12_odds_192 : decode cX12_odds 192 = .ok (.invokevirtual 134, 3) := by decide +kernel
theorem dX12_odds_195 : decode cX12_odds 195 = .ok (.ifCond .ne 8, 3) := by decide +kernel
theorem dX12_odds_198 : decode cX12_odds 198 = .ok (.lload 8, 2) := by decide +kernel
theorem dX12_odds_200 : decode cX12_odds 200 = .ok (.goto 4, 3) := by decide +kernel
theorem dX12_odds_203 : decode cX12_odds 203 = .ok (.lconst 0, 1) := by decide +kernel
theorem dX12_odds_204 : decode cX12_odds 204 = .ok (.ladd, 1) := by decide +kernel
theorem dX12_odds_205 : decode cX12_odds 205 = .ok (.lstore_n 3, 1) := by decide +kernel
theorem dX12_odds_206 : decode cX12_odds 206 = .ok (.iinc 7 1, 3) := by decide +kernel
theorem dX12_odds_209 : decode cX12_odds 209 = .ok (.goto (-151), 3) := by decide +kernel
theorem dX12_odds_212 : decode cX12_odds 212 = .ok (.aload_n 0, 1) := by decide +kernel
theorem dX12_odds_213 : decode cX12_odds 213 = .ok (.lload_n 3, 1) := by decide +kernel
theorem dX12_odds_214 : decode cX12_odds 214 = .ok (.lload 5, 2) := by decide +kernel
theorem dX12_odds_216 : decode cX12_odds 216 = .ok (.invokevirtual 212, 3) := by decide +kernel
theorem dX12_odds_219 : decode cX12_odds 219 = .ok (.iconst 1, 1) := by decide +kernel
theorem dX12_odds_220 : decode cX12_odds 220 = .ok (.ireturn, 1) := by decide +kernel
theorem dX12_streets_0 : decode cX12_streets 0 = .ok (.iload_n 1, 1) := by decide +kernel
theorem dX12_streets_1 : decode cX12_streets 1 = .ok (.i2l, 1) := by decide +kernel
theorem dX12_streets_2 : decode cX12_streets 2 = .ok (.lconst 0, 1) := by decide +kernel
theorem dX12_streets_3 : decode cX12_streets 3 = .ok (.ldc2_w 216, 3) := by decide +kernel
theorem dX12_streets_6 : decode cX12_streets 6 = .ok (.invokestatic 59, 3) := by decide +kernel
theorem dX12_streets_9 : decode cX12_streets 9 = .ok (.ifCond .eq 15, 3) := by decide +kernel
theorem dX12_streets_12 : decode cX12_streets 12 = .ok (.iload_n 2, 1) := by decide +kernel
theorem dX12_streets_13 : decode cX12_streets 13 = .ok (.i2l, 1) := by decide +kernel
theorem dX12_streets_14 : decode cX12_streets 14 = .ok (.lconst 0, 1) := by decide +kernel
theorem dX12_streets_15 : decode cX12_streets 15 = .ok (.ldc2_w 218, 3) := by decide +kernel
theorem dX12_streets_18 : decode cX12_streets 18 = .ok (.invokestatic 59, 3) := by decide +kernel
theorem dX12_streets_21 : decode cX12_streets 21 = .ok (.ifCond .ne 10, 3) := by decide +kernel
theorem dX12_streets_24 : decode cX12_streets 24 = .ok (.aload_n 0, 1) := by decide +kernel
theorem dX12_streets_25 : decode cX12_streets 25 = .ok (.bipush (-2), 2) := by decide +kernel
theorem dX12_streets_27 : decode cX12_streets 27 = .ok (.invokevirtual 87, 3) := by decide +kernel
theorem dX12_streets_30 : decode cX12_streets 30 = .ok (.ireturn, 1) := by decide +kernel
theorem dX12_streets_31 : decode cX12_streets 31 = .ok (.iload_n 1, 1) := by decide +kernel
theorem dX12_streets_32 : decode cX12_streets 32 = .ok (.i2l, 1) := by decide +kernel
theorem dX12_streets_33 : decode cX12_streets 33 = .ok (.lstore_n 3, 1) := by decide +kernel
theorem dX12_streets_34 : decode cX12_streets 34 = .ok (.iconst 0, 1) := by decide +kernel
theorem dX12_streets_35 : decode cX12_streets 35 = .ok (.istore 5, 2) := by decide +kernel
theorem dX12_streets_37 : decode cX12_streets 37 = .ok (.iconst 0, 1) := by decide +kernel
theorem dX12_streets_38 : decode cX12_streets 38 = .ok (.istore 6, 2) := by decide +kernel
theorem dX12_streets_40 : decode cX12_streets 40 = .ok (.iload 6, 2) := by decide +kernel
theorem dX12_streets_42 : decode cX12_streets 42 = .ok (.iload_n 2, 1) := by decide +kernel
theorem dX12_streets_43 : decode cX12_streets 43 = .ok (.if_icmp .ge 73, 3) := by decide +kernel
theorem dX12_streets_46 : decode cX12_streets 46 = .ok (.iconst 0, 1) := by decide +kernel
theorem dX12_streets_47 : decode cX12_streets 47 = .ok (.istore 7, 2) := by decide +kernel
theorem dX12_streets_49 : decode cX12_streets 49 = .ok (.iload 7, 2) := by decide +kernel
theorem dX12_streets_51 : decode cX12_streets 51 = .ok (.bipush 8, 2) := by decide +kernel
theorem dX12_streets_53 : decode cX12_streets 53 = .ok (.if_icmp .ge 40, 3) := by decide +kernel
theorem dX12_streets_56 : decode cX12_streets 56 = .ok (.lload_n 3, 1) := by decide +kernel
theorem dX12_streets_57 : decode cX12_streets 57 = .ok (.ldc2_w 220, 3) := by decide +kernel
theorem dX12_streets_60 : decode cX12_streets 60 = .ok (.lmul, 1) := by decide +kernel
theorem dX12_streets_61 : decode cX12_streets 61 = .ok (.ldc2_w 222, 3) := by decide +kernel
theorem dX12_streets_64 : decode cX12_streets 64 = .ok (.ladd, 1) := by decide +kernel
theorem dX12_streets_65 : decode cX12_streets 65 = .ok (.ldc2_w 224, 3) := by decide +kernel
theorem dX12_streets_68 : decode cX12_streets 68 = .ok (.lrem, 1) := by decide +kernel
theorem dX12_streets_69 : decode cX12_streets 69 = .ok (.lstore_n 3, 1) := by decide +kernel
theorem dX12_streets_70 : decode cX12_streets 70 = .ok (.aload_n 0, 1) := by decide +kernel
theorem dX12_streets_71 : decode cX12_streets 71 = .ok (.getfield 30, 3) := by decide +kernel
theorem dX12_streets_74 : decode cX12_streets 74 = .ok (.iload 7, 2) := by decide +kernel
theorem dX12_streets_76 : decode cX12_streets 76 = .ok (.lload_n 3, 1) := by decide +kernel
theorem dX12_streets_77 : decode cX12_streets 77 = .ok (.ldc2_w 226, 3) := by decide +kernel
theorem dX12_streets_80 : decode cX12_streets 80 = .ok (.ldiv, 1) := by decide +kernel
theorem dX12_streets_81 : decode cX12_streets 81 = .ok (.ldc2_w 228, 3) := by decide +kernel
theorem dX12_streets_84 : decode cX12_streets 84 = .ok (.lrem, 1) := by decide +kernel
theorem dX12_streets_85 : decode cX12_streets 85 = .ok (.l2i, 1) := by decide +kernel
theorem dX12_streets_86 : decode cX12_streets 86 = .ok (.iastore, 1) := by decide +kernel
theorem dX12_streets_87 : decode cX12_streets 87 = .ok (.iinc 7 1, 3) := by decide +kernel
theorem dX12_streets_90 : decode cX12_streets 90 = .ok (.goto (-41), 3) := by decide +kernel
theorem dX12_streets_93 : decode cX12_streets 93 = .ok (.iload 5, 2) := by decide +kernel
theorem dX12_streets_95 : decode cX12_streets 95 = .ok (.aload_n 0, 1) := by decide +kernel
theorem dX12_streets_96 : decode cX12_streets 96 = .ok (.invokevirtual 134, 3) := by decide +kernel
theorem dX12_streets_99 : decode cX12_streets 99 = .ok (.ifCond .ne 7, 3) := by decide +kernel
theorem dX12_streets_102 : decode cX12_streets 102 = .ok (.iconst 1, 1) := by decide +kernel
theorem dX12_streets_103 : decode cX12_streets 103 = .ok (.goto 4, 3) := by decide +kernel
theorem dX12_streets_106 : decode cX12_streets 106 = .ok (.iconst 0, 1) := by decide +kernel
theorem dX12_streets_107 : decode cX12_streets 107 = .ok (.iadd, 1) := by decide +kernel
theorem dX12_streets_108 : decode cX12_streets 108 = .ok (.istore 5, 2) := by decide +kernel
theorem dX12_streets_110 : decode cX12_streets 110 = .ok (.iinc 6 1, 3) := by decide +kernel
theorem dX12_streets_113 : decode cX12_streets 113 = .ok (.goto (-73), 3) := by decide +kernel
theorem dX12_streets_116 : decode cX12_streets 116 = .ok (.iload 5, 2) := by decide +kernel
theorem dX12_streets_118 : decode cX12_streets 118 = .ok (.ireturn, 1) := by decide +kernel
theorem dX12_type_0 : decode cX12_type 0 = .ok (.iload_n 1, 1) := by decide +kernel
theorem dX12_type_1 : decode cX12_type 1 = .ok (.i2l, 1) := by decide +kernel
theorem dX12_type_2 : decode cX12_type 2 = .ok (.lconst 0, 1) := by decide +kernel
theorem dX12_type_3 : decode cX12_type 3 = .ok (.ldc2_w 230, 3) := by decide +kernel
theorem dX12_type_6 : decode cX12_type 6 = .ok (.invokestatic 59, 3) := by decide +kernel
theorem dX12_type_9 : decode cX12_type 9 = .ok (.ifCond .ne 10, 3) := by decide +kernel
theorem dX12_type_12 : decode cX12_type 12 = .ok (.aload_n 0, 1) := by decide +kernel
theorem dX12_type_13 : decode cX12_type 13 = .ok (.bipush (-2), 2) := by decide +kernel
theorem dX12_type_15 : decode cX12_type 15 = .ok (.invokevirtual 87, 3) := by decide +kernel
theorem dX12_type_18 : decode cX12_type 18 = .ok (.ireturn, 1) := by decide +kernel
theorem dX12_type_19 : decode cX12_type 19 = .ok (.aload_n 0, 1) := by decide +kernel
theorem dX12_type_20 : decode cX12_type 20 = .ok (.getfield 232, 3) := by decide +kernel
theorem dX12_type_23 : decode cX12_type 23 = .ok (.sipush 150, 3) := by decide +kernel
theorem dX12_type_26 : decode cX12_type 26 = .ok (.if_icmp .ne 8, 3) := by decide +kernel
theorem dX12_type_29 : decode cX12_type 29 = .ok (.aload_n 0, 1) := by decide +kernel
theorem dX12_type_30 : decode cX12_type 30 = .ok (.invokevirtual 186, 3) := by decide +kernel
theorem dX12_type_33 : decode cX12_type 33 = .ok (.ireturn, 1) := by decide +kernel
theorem dX12_type_34 : decode cX12_type 34 = .ok (.aload_n 0, 1) := by decide +kernel
theorem dX12_type_35 : decode cX12_type 35 = .ok (.getfield 48, 3) := by decide +kernel
theorem dX12_type_38 : decode cX12_type 38 = .ok (.aload_n 0, 1) := by decide +kernel
theorem dX12_type_39 : decode cX12_type 39 = .ok (.getfield 232, 3) := by decide +kernel
theorem dX12_type_42 : decode cX12_type 42 = .ok (.iload_n 1, 1) := by decide +kernel
theorem dX12_type_43 : decode cX12_type 43 = .ok (.iastore, 1) := by decide +kernel
theorem dX12_type_44 : decode cX12_type 44 = .ok (.aload_n 0, 1) := by decide +kernel
theorem dX12_type_45 : decode cX12_type 45 = .ok (.dup, 1) := by decide +kernel
theorem dX12_type_46 : decode cX12_type 46 = .ok (.getfield 232, 3) := by decide +kernel
theorem dX12_type_49 : decode cX12_type 49 = .ok (.iconst 1, 1) := by decide +kernel
theorem dX12_type_50 : decode cX12_type 50 = .ok (.iadd, 1) := by decide +kernel
theorem dX12_type_51 : decode cX12_type 51 = .ok (.putfield 232, 3) := by decide +kernel
theorem dX12_type_54 : decode cX12_type 54 = .ok (.aload_n 0, 1) := by decide +kernel
theorem dX12_type_55 : decode cX12_type 55 = .ok (.getfield 232, 3) := by decide +kernel
theorem dX12_type_58 : decode cX12_type 58 = .ok (.ireturn, 1) := by decide +kernel
theorem dX12_clear_0 : decode cX12_clear 0 = .ok (.aload_n 0, 1) := by decide +kernel
theorem dX12_clear_1 : decode cX12_clear 1 = .ok (.getfield 232, 3) := by decide +kernel
theorem dX12_clear_4 : decode cX12_clear 4 = .ok (.istore_n 1, 1) := by decide +kernel
theorem dX12_clear_5 : decode cX12_clear 5 = .ok (.aload_n 0, 1) := by decide +kernel
theorem dX12_clear_6 : decode cX12_clear 6 = .ok (.iconst 0, 1) := by decide +kernel
theorem dX12_clear_7 : decode cX12_clear 7 = .ok (.putfield 232, 3) := by decide +kernel
theorem dX12_clear_10 : decode cX12_clear 10 = .ok (.iload_n 1, 1) := by decide +kernel
theorem dX12_clear_11 : decode cX12_clear 11 = .ok (.ireturn, 1) := by decide +kernel
theorem dX12_isSmall_0 : decode cX12_isSmall 0 = .ok (.iload_n 0, 1) := by decide +kernel
theorem dX12_isSmall_1 : decode cX12_isSmall 1 = .ok (.i2l, 1) := by decide +kernel
theorem dX12_isSmall_2 : decode cX12_isSmall 2 = .ok (.ldc2_w 235, 3) := by decide +kernel
theorem dX12_isSmall_5 : decode cX12_isSmall 5 = .ok (.ldc2_w 237, 3) := by decide +kernel
theorem dX12_isSmall_8 : decode cX12_isSmall 8 = .ok (.invokestatic 59, 3) := by decide +kernel
theorem dX12_isSmall_11 : decode cX12_isSmall 11 = .ok (.ireturn, 1) := by decide +kernel
theorem dX12_isFigure_0 : decode cX12_isFigure 0 = .ok (.iload_n 0, 1) := by decide +kernel
theorem dX12_isFigure_1 : decode cX12_isFigure 1 = .ok (.i2l, 1) := by decide +kernel
theorem dX12_isFigure_2 : decode cX12_isFigure 2 = .ok (.ldc2_w 239, 3) := by decide +kernel
theorem dX12_isFigure_5 : decode cX12_isFigure 5 = .ok (.ldc2_w 241, 3) := by decide +kernel
theorem dX12_isFigure_8 : decode cX12_isFigure 8 = .ok (.invokestatic 59, 3) := by decide +kernel
theorem dX12_isFigure_11 : decode cX12_isFigure 11 = .ok (.ireturn, 1) := by decide +kernel
theorem dX12_lookAt_0 : decode cX12_lookAt 0 = .ok (.aload_n 0, 1) := by decide +kernel
theorem dX12_lookAt_1 : decode cX12_lookAt 1 = .ok (.iload_n 1, 1) := by decide +kernel
theorem dX12_lookAt_2 : decode cX12_lookAt 2 = .ok (.putfield 243, 3) := by decide +kernel
theorem dX12_lookAt_5 : decode cX12_lookAt 5 = .ok (.aload_n 0, 1) := by decide +kernel
theorem dX12_lookAt_6 : decode cX12_lookAt 6 = .ok (.getfield 243, 3) := by decide +kernel
theorem dX12_lookAt_9 : decode cX12_lookAt 9 = .ok (.aload_n 0, 1) := by decide +kernel
theorem dX12_lookAt_10 : decode cX12_lookAt 10 = .ok (.getfield 232, 3) := by decide +kernel
theorem dX12_lookAt_13 : decode cX12_lookAt 13 = .ok (.if_icmp .ge 30, 3) := by decide +kernel
theorem dX12_lookAt_16 : decode cX12_lookAt 16 = .ok (.aload_n 0, 1) := by decide +kernel
theorem dX12_lookAt_17 : decode cX12_lookAt 17 = .ok (.getfield 48, 3) := by decide +kernel
theorem dX12_lookAt_20 : decode cX12_lookAt 20 = .ok (.aload_n 0, 1) := by decide +kernel
theorem dX12_lookAt_21 : decode cX12_lookAt 21 = .ok (.getfield 243, 3) := by decide +kernel
theorem dX12_lookAt_24 : decode cX12_lookAt 24 = .ok (.iaload, 1) := by decide +kernel
theorem dX12_lookAt_25 : decode cX12_lookAt 25 = .ok (.bipush 32, 2) := by decide +kernel
theorem dX12_lookAt_27 : decode cX12_lookAt 27 = .ok (.if_icmp .ne 16, 3) := by decide +kernel
theorem dX12_lookAt_30 : decode cX12_lookAt 30 = .ok (.aload_n 0, 1) := by decide +kernel
theorem dX12_lookAt_31 : decode cX12_lookAt 31 = .ok (.dup, 1) := by decide +kernel
theorem dX12_lookAt_32 : decode cX12_lookAt 32 = .ok (.getfield 243, 3) := by decide +kernel
theorem dX12_lookAt_35 : decode cX12_lookAt 35 = .ok (.iconst 1, 1) := by decide +kernel
theorem dX12_lookAt_36 : decode cX12_lookAt 36 = .ok (.iadd, 1) := by decide +kernel
theorem dX12_lookAt_37 : decode cX12_lookAt 37 = .ok (.putfield 243, 3) := by decide +kernel
theorem dX12_lookAt_40 : decode cX12_lookAt 40 = .ok (.goto (-35), 3) := by decide +kernel
theorem dX12_lookAt_43 : decode cX12_lookAt 43 = .ok (.aload_n 0, 1) := by decide +kernel
theorem dX12_lookAt_44 : decode cX12_lookAt 44 = .ok (.iconst 0, 1) := by decide +kernel
theorem dX12_lookAt_45 : decode cX12_lookAt 45 = .ok (.putfield 246, 3) := by decide +kernel
theorem dX12_lookAt_48 : decode cX12_lookAt 48 = .ok (.aload_n 0, 1) := by decide +kernel
theorem dX12_lookAt_49 : decode cX12_lookAt 49 = .ok (.iconst 0, 1) := by decide +kernel
theorem dX12_lookAt_50 : decode cX12_lookAt 50 = .ok (.putfield 249, 3) := by decide +kernel
theorem dX12_lookAt_53 : decode cX12_lookAt 53 = .ok (.aload_n 0, 1) := by decide +kernel
theorem dX12_lookAt_54 : decode cX12_lookAt 54 = .ok (.iconst 0, 1) := by decide +kernel
theorem dX12_lookAt_55 : decode cX12_lookAt 55 = .ok (.putfield 252, 3) := by decide +kernel
theorem dX12_lookAt_58 : decode cX12_lookAt 58 = .ok (.aload_n 0, 1) := by decide +kernel
theorem dX12_lookAt_59 : decode cX12_lookAt 59 = .ok (.getfield 243, 3) := by decide +kernel
theorem dX12_lookAt_62 : decode cX12_lookAt 62 = .ok (.aload_n 0, 1) := by decide +kernel
theorem dX12_lookAt_63 : decode cX12_lookAt 63 = .ok (.getfield 232, 3) := by decide +kernel
theorem dX12_lookAt_66 : decode cX12_lookAt 66 = .ok (.if_icmp .ne 4, 3) := by decide +kernel
theorem dX12_lookAt_69 : decode cX12_lookAt 69 = .ok (.return_, 1) := by decide +kernel
theorem dX12_lookAt_70 : decode cX12_lookAt 70 = .ok (.aload_n 0, 1) := by decide +kernel
theorem dX12_lookAt_71 : decode cX12_lookAt 71 = .ok (.getfield 48, 3) := by decide +kernel
theorem dX12_lookAt_74 : decode cX12_lookAt 74 = .ok (.aload_n 0, 1) := by decide +kernel
theorem dX12_lookAt_75 : decode cX12_lookAt 75 = .ok (.getfield 243, 3) := by decide +kernel
theorem dX12_lookAt_78 : decode cX12_lookAt 78 = .ok (.iaload, 1) := by decide +kernel
theorem dX12_lookAt_79 : decode cX12_lookAt 79 = .ok (.istore_n 2, 1) := by decide +kernel
theorem dX12_lookAt_80 : decode cX12_lookAt 80 = .ok (.aload_n 0, 1) := by decide +kernel
theorem dX12_lookAt_81 : decode cX12_lookAt 81 = .ok (.iload_n 2, 1) := by decide +kernel
theorem dX12_lookAt_82 : decode cX12_lookAt 82 = .ok (.invokestatic 255, 3) := by decide +kernel
theorem dX12_lookAt_85 : decode cX12_lookAt 85 = .ok (.ifCond .eq 7, 3) := by decide +kernel
theorem dX12_lookAt_88 : decode cX12_lookAt 88 = .ok (.iconst 1, 1) := by decide +kernel
theorem dX12_lookAt_89 : decode cX12_lookAt 89 = .ok (.goto 25, 3) := by decide +kernel
theorem dX12_lookAt_92 : decode cX12_lookAt 92 = .ok (.iload_n 2, 1) := by decide +kernel
theorem dX12_lookAt_93 : decode cX12_lookAt 93 = .ok (.invokestatic 258, 3) := by decide +kernel
theorem dX12_lookAt_96 : decode cX12_lookAt 96 = .ok (.ifCond .eq 7, 3) := by decide +kernel
theorem dX12_lookAt_99 : decode cX12_lookAt 99 = .ok (.iconst 2, 1) := by decide +kernel
theorem dX12_lookAt_100 : decode cX12_lookAt 100 = .ok (.goto 14, 3) := by decide +kernel
theorem dX12_lookAt_103 : decode cX12_lookAt 103 = .ok (.iload_n 2, 1) := by decide +kernel
theorem dX12_lookAt_104 : decode cX12_lookAt 104 = .ok (.bipush 59, 2) := by decide +kernel
theorem dX12_lookAt_106 : decode cX12_lookAt 106 = .ok (.if_icmp .ne 7, 3) := by decide +kernel
theorem dX12_lookAt_109 : decode cX12_lookAt 109 = .ok (.iconst 3, 1) := by decide +kernel
theorem dX12_lookAt_110 : decode cX12_lookAt 110 = .ok (.goto 4, 3) := by decide +kernel
theorem dX12_lookAt_113 : decode cX12_lookAt 113 = .ok (.iconst 4, 1) := by decide +kernel
theorem dX12_lookAt_114 : decode cX12_lookAt 114 = .ok (.putfield 249, 3) := by decide +kernel
theorem dX12_lookAt_117 : decode cX12_lookAt 117 = .ok (.aload_n 0, 1) := by decide +kernel
theorem dX12_lookAt_118 : decode cX12_lookAt 118 = .ok (.iconst 1, 1) := by decide +kernel
theorem dX12_lookAt_119 : decode cX12_lookAt 119 = .ok (.putfield 246, 3) := by decide +kernel
theorem dX12_lookAt_122 : decode cX12_lookAt 122 = .ok (.aload_n 0, 1) := by decide +kernel
theorem dX12_lookAt_123 : decode cX12_lookAt 123 = .ok (.getfield 249, 3) := by decide +kernel
theorem dX12_lookAt_126 : decode cX12_lookAt 126 = .ok (.iconst 3, 1) := by decide +kernel
theorem dX12_lookAt_127 : decode cX12_lookAt 127 = .ok (.if_icmp .ge 7, 3) := by decide +kernel
theorem dX12_lookAt_130 : decode cX12_lookAt 130 = .ok (.iconst 1, 1) := by decide +kernel
theorem dX12_lookAt_131 : decode cX12_lookAt 131 = .ok (.goto 4, 3) := by decide +kernel
theorem dX12_lookAt_134 : decode cX12_lookAt 134 = .ok (.iconst 0, 1) := by decide +kernel
theorem dX12_lookAt_135 : decode cX12_lookAt 135 = .ok (.istore_n 3, 1) := by decide +kernel
theorem dX12_lookAt_136 : decode cX12_lookAt 136 = .ok (.iload_n 3, 1) := by decide +kernel
theorem dX12_lookAt_137 : decode cX12_lookAt 137 = .ok (.ifCond .eq 78, 3) := by decide +kernel
theorem dX12_lookAt_140 : decode cX12_lookAt 140 = .ok (.aload_n 0, 1) := by decide +kernel
theorem dX12_lookAt_141 : decode cX12_lookAt 141 = .ok (.getfield 243, 3) := by decide +kernel
theorem dX12_lookAt_144 : decode cX12_lookAt 144 = .ok (.aload_n 0, 1) := by decide +kernel
theorem dX12_lookAt_145 : decode cX12_lookAt 145 = .ok (.getfield 246, 3) := by decide +kernel
theorem dX12_lookAt_148 : decode cX12_lookAt 148 = .ok (.iadd, 1) := by decide +kernel
theorem dX12_lookAt_149 : decode cX12_lookAt 149 = .ok (.aload_n 0, 1) := by decide +kernel
theorem dX12_lookAt_150 : decode cX12_lookAt 150 = .ok (.getfield 232, 3) := by decide +kernel
theorem dX12_lookAt_153 : decode cX12_lookAt 153 = .ok (.if_icmp .ge 62, 3) := by decide +kernel
theorem dX12_lookAt_156 : decode cX12_lookAt 156 = .ok (.aload_n 0, 1) := by decide +kernel
theorem dX12_lookAt_157 : decode cX12_lookAt 157 = .ok (.getfield 48, 3) := by decide +kernel
theorem dX12_lookAt_160 : decode cX12_lookAt 160 = .ok (.aload_n 0, 1) := by decide +kernel
theorem dX12_lookAt_161 : decode cX12_lookAt 161 = .ok (.getfield 243, 3) := by decide +kernel
theorem dX12_lookAt_164 : decode cX12_lookAt 164 = .ok (.aload_n 0, 1) := by decide +kernel
theorem dX12_lookAt_165 : decode cX12_lookAt 165 = .ok (.getfield 246, 3) := by decide +kernel
theorem dX12_lookAt_168 : decode cX12_lookAt 168 = .ok (.iadd, 1) := by decide +kernel
theorem dX12_lookAt_169 : decode cX12_lookAt 169 = .ok (.iaload, 1) := by decide +kernel
theorem dX12_lookAt_170 : decode cX12_lookAt 170 = .ok (.istore 4, 2) := by decide +kernel
theorem dX12_lookAt_172 : decode cX12_lookAt 172 = .ok (.aload_n 0, 1) := by decide +kernel
theorem dX12_lookAt_173 : decode cX12_lookAt 173 = .ok (.getfield 249, 3) := by decide +kernel
theorem dX12_lookAt_176 : decode cX12_lookAt 176 = .ok (.iconst 1, 1) := by decide +kernel
theorem dX12_lookAt_177 : decode cX12_lookAt 177 = .ok (.if_icmp .ne 11, 3) := by decide +kernel
theorem dX12_lookAt_180 : decode cX12_lookAt 180 = .ok (.iload 4, 2) := by decide +kernel
theorem dX12_lookAt_182 : decode cX12_lookAt 182 = .ok (.invokestatic 255, 3) := by decide +kernel
theorem dX12_lookAt_185 : decode cX12_lookAt 185 = .ok (.goto 8, 3) := by decide +kernel
theorem dX12_lookAt_188 : decode cX12_lookAt 188 = .ok (.iload 4, 2) := by decide +kernel
theorem dX12_lookAt_190 : decode cX12_lookAt 190 = .ok (.invokestatic 258, 3) := by decide +kernel
theorem dX12_lookAt_193 : decode cX12_lookAt 193 = .ok (.istore_n 3, 1) := by decide +kernel
theorem dX12_lookAt_194 : decode cX12_lookAt 194 = .ok (.aload_n 0, 1) := by decide +kernel
theorem dX12_lookAt_195 : decode cX12_lookAt 195 = .ok (.dup, 1) := by decide +kernel
theorem dX12_lookAt_196 : decode cX12_lookAt 196 = .ok (.getfield 246, 3) := by decide +kernel
theorem dX12_lookAt_199 : decode cX12_lookAt 199 = .ok (.iload_n 3, 1) := by decide +kernel
theorem dX12_lookAt_200 : decode cX12_lookAt 200 = .ok (.ifCond .eq 7, 3) := by decide +kernel
theorem dX12_lookAt_203 : decode cX12_lookAt 203 = .ok (.iconst 1, 1) := by decide +kernel
theorem dX12_lookAt_204 : decode cX12_lookAt 204 = .ok (.goto 4, 3) := by decide +kernel
theorem dX12_lookAt_207 : decode cX12_lookAt 207 = .ok (.iconst 0, 1) := by decide +kernel
theorem dX12_lookAt_208 : decode cX12_lookAt 208 = .ok (.iadd, 1) := by decide +kernel
theorem dX12_lookAt_209 : decode cX12_lookAt 209 = .ok (.putfield 246, 3) := by decide +kernel
theorem dX12_lookAt_212 : decode cX12_lookAt 212 = .ok (.goto (-76), 3) := by decide +kernel
theorem dX12_lookAt_215 : decode cX12_lookAt 215 = .ok (.iconst 0, 1) := by decide +kernel
theorem dX12_lookAt_216 : decode cX12_lookAt 216 = .ok (.istore 4, 2) := by decide +kernel
theorem dX12_lookAt_218 : decode cX12_lookAt 218 = .ok (.iload 4, 2) := by decide +kernel
theorem dX12_lookAt_220 : decode cX12_lookAt 220 = .ok (.aload_n 0, 1) := by decide +kernel
theorem dX12_lookAt_221 : decode cX12_lookAt 221 = .ok (.getfield 246, 3) := by decide +kernel
theorem dX12_lookAt_224 : decode cX12_lookAt 224 = .ok (.if_icmp .ge 50, 3) := by decide +kernel
theorem dX12_lookAt_227 : decode cX12_lookAt 227 = .ok (.iload 4, 2) := by decide +kernel
theorem dX12_lookAt_229 : decode cX12_lookAt 229 = .ok (.iconst 3, 1) := by decide +kernel
theorem dX12_lookAt_230 : decode cX12_lookAt 230 = .ok (.if_icmp .ge 44, 3) := by decide +kernel
theorem dX12_lookAt_233 : decode cX12_lookAt 233 = .ok (.aload_n 0, 1) := by decide +kernel
theorem dX12_lookAt_234 : decode cX12_lookAt 234 = .ok (.getfield 249, 3) := by decide +kernel
theorem dX12_lookAt_237 : decode cX12_lookAt 237 = .ok (.iconst 2, 1) := by decide +kernel
theorem dX12_lookAt_238 : decode cX12_lookAt 238 = .ok (.if_icmp .ne 36, 3) := by decide +kernel
theorem dX12_lookAt_241 : decode cX12_lookAt 241 = .ok (.aload_n 0, 1) := by decide +kernel
theorem dX12_lookAt_242 : decode cX12_lookAt 242 = .ok (.bipush 10, 2) := by decide +kernel
theorem dX12_lookAt_244 : decode cX12_lookAt 244 = .ok (.aload_n 0, 1) := by decide +kernel
theorem dX12_lookAt_245 : decode cX12_lookAt 245 = .ok (.getfield 252, 3) := by decide +kernel
theorem dX12_lookAt_248 : decode cX12_lookAt 248 = .ok (.imul, 1) := by decide +kernel
theorem dX12_lookAt_249 : decode cX12_lookAt 249 = .ok (.aload_n 0, 1) := by decide +kernel
theorem dX12_lookAt_250 : decode cX12_lookAt 250 = .ok (.getfield 48, 3) := by decide +kernel
theorem dX12_lookAt_253 : decode cX12_lookAt 253 = .ok (.aload_n 0, 1) := by decide +kernel
theorem dX12_lookAt_254 : decode cX12_lookAt 254 = .ok (.getfield 243, 3) := by decide +kernel
theorem dX12_lookAt_257 : decode cX12_lookAt 257 = .ok (.iload 4, 2) := by decide +kernel
theorem dX12_lookAt_259 : decode cX12_lookAt 259 = .ok (.iadd, 1) := by decide +kernel
theorem dX12_lookAt_260 : decode cX12_lookAt 260 = .ok (.iaload, 1) := by decide +kernel
theorem dX12_lookAt_261 : decode cX12_lookAt 261 = .ok (.iadd, 1) := by decide +kernel
theorem dX12_lookAt_262 : decode cX12_lookAt 262 = .ok (.bipush 48, 2) := by decide +kernel
theorem dX12_lookAt_264 : decode cX12_lookAt 264 = .ok (.isub, 1) := by decide +kernel
theorem dX12_lookAt_265 : decode cX12_lookAt 265 = .ok (.putfield 252, 3) := by decide +kernel
theorem dX12_lookAt_268 : decode cX12_lookAt 268 = .ok (.iinc 4 1, 3) := by decide +kernel
theorem dX12_lookAt_271 : decode cX12_lookAt 271 = .ok (.goto (-53), 3) := by decide +kernel
theorem dX12_lookAt_274 : decode cX12_lookAt 274 = .ok (.aload_n 0, 1) := by decide +kernel
theorem dX12_lookAt_275 : decode cX12_lookAt 275 = .ok (.aload_n 0, 1) := by decide +kernel
theorem dX12_lookAt_276 : decode cX12_lookAt 276 = .ok (.getfield 249, 3) := by decide +kernel
theorem dX12_lookAt_279 : decode cX12_lookAt 279 = .ok (.iconst 2, 1) := by decide +kernel
theorem dX12_lookAt_280 : decode cX12_lookAt 280 = .ok (.if_icmp .ne 15, 3) := by decide +kernel
theorem dX12_lookAt_283 : decode cX12_lookAt 283 = .ok (.aload_n 0, 1) := by decide +kernel
theorem dX12_lookAt_284 : decode cX12_lookAt 284 = .ok (.getfield 246, 3) := by decide +kernel
theorem dX12_lookAt_287 : decode cX12_lookAt 287 = .ok (.iconst 3, 1) := by decide +kernel
theorem dX12_lookAt_288 : decode cX12_lookAt 288 = .ok (.if_icmp .le 7, 3) := by decide +kernel
theorem dX12_lookAt_291 : decode cX12_lookAt 291 = .ok (.iconst 4, 1) := by decide +kernel
theorem dX12_lookAt_292 : decode cX12_lookAt 292 = .ok (.goto 7, 3) := by decide +kernel
theorem dX12_lookAt_295 : decode cX12_lookAt 295 = .ok (.aload_n 0, 1) := by decide +kernel
theorem dX12_lookAt_296 : decode cX12_lookAt 296 = .ok (.getfield 249, 3) := by decide +kernel
theorem dX12_lookAt_299 : decode cX12_lookAt 299 = .ok (.putfield 249, 3) := by decide +kernel
theorem dX12_lookAt_302 : decode cX12_lookAt 302 = .ok (.return_, 1) := by decide +kernel
theorem dX12_goBehind_0 : decode cX12_goBehind 0 = .ok (.aload_n 0, 1) := by decide +kernel
theorem dX12_goBehind_1 : decode cX12_goBehind 1 = .ok (.aload_n 0, 1) := by decide +kernel
theorem dX12_goBehind_2 : decode cX12_goBehind 2 = .ok (.getfield 243, 3) := by decide +kernel
theorem dX12_goBehind_5 : decode cX12_goBehind 5 = .ok (.aload_n 0, 1) := by decide +kernel
theorem dX12_goBehind_6 : decode cX12_goBehind 6 = .ok (.getfield 246, 3) := by decide +kernel
theorem dX12_goBehind_9 : decode cX12_goBehind 9 = .ok (.iadd, 1) := by decide +kernel
theorem dX12_goBehind_10 : decode cX12_goBehind 10 = .ok (.invokevirtual 261, 3) := by decide +kernel
theorem dX12_goBehind_13 : decode cX12_goBehind 13 = .ok (.return_, 1) := by decide +kernel
theorem dX12_isWord_0 : decode cX12_isWord 0 = .ok (.aload_n 0, 1) := by decide +kernel
theorem dX12_isWord_1 : decode cX12_isWord 1 = .ok (.getfield 249, 3) := by decide +kernel
theorem dX12_isWord_4 : decode cX12_isWord 4 = .ok (.iconst 1, 1) := by decide +kernel
theorem dX12_isWord_5 : decode cX12_isWord 5 = .ok (.if_icmp .ne 15, 3) := by decide +kernel
theorem dX12_isWord_8 : decode cX12_isWord 8 = .ok (.aload_n 0, 1) := by decide +kernel
theorem dX12_isWord_9 : decode cX12_isWord 9 = .ok (.getfield 246, 3) := by decide +kernel
theorem dX12_isWord_12 : decode cX12_isWord 12 = .ok (.iload_n 1, 1) := by decide +kernel
theorem dX12_isWord_13 : decode cX12_isWord 13 = .ok (.if_icmp .ne 7, 3) := by decide +kernel
theorem dX12_isWord_16 : decode cX12_isWord 16 = .ok (.iconst 1, 1) := by decide +kernel
theorem dX12_isWord_17 : decode cX12_isWord 17 = .ok (.goto 4, 3) := by decide +kernel
theorem dX12_isWord_20 : decode cX12_isWord 20 = .ok (.iconst 0, 1) := by decide +kernel
theorem dX12_isWord_21 : decode cX12_isWord 21 = .ok (.istore 8, 2) := by decide +kernel
theorem dX12_isWord_23 : decode cX12_isWord 23 = .ok (.iconst 0, 1) := by decide +kernel
theorem dX12_isWord_24 : decode cX12_isWord 24 = .ok (.istore 9, 2) := by decide +kernel
theorem dX12_isWord_26 : decode cX12_isWord 26 = .ok (.iload 9, 2) := by decide +kernel
theorem dX12_isWord_28 : decode cX12_isWord 28 = .ok (.iload_n 1, 1) := by decide +kernel
theorem dX12_isWord_29 : decode cX12_isWord 29 = .ok (.if_icmp .ge 90, 3) := by decide +kernel
theorem dX12_isWord_32 : decode cX12_isWord 32 = .ok (.iload 8, 2) := by decide +kernel
theorem dX12_isWord_34 : decode cX12_isWord 34 = .ok (.ifCond .eq 85, 3) := by decide +kernel
theorem dX12_isWord_37 : decode cX12_isWord 37 = .ok (.aload_n 0, 1) := by decide +kernel
theorem dX12_isWord_38 : decode cX12_isWord 38 = .ok (.getfield 48, 3) := by decide +kernel
theorem dX12_isWord_41 : decode cX12_isWord 41 = .ok (.aload_n 0, 1) := by decide +kernel
theorem dX12_isWord_42 : decode cX12_isWord 42 = .ok (.getfield 243, 3) := by decide +kernel
theorem dX12_isWord_45 : decode cX12_isWord 45 = .ok (.iload 9, 2) := by decide +kernel
theorem dX12_isWord_47 : decode cX12_isWord 47 = .ok (.iadd, 1) := by decide +kernel
theorem dX12_isWord_48 : decode cX12_isWord 48 = .ok (.iaload, 1) := by decide +kernel
theorem dX12_isWord_49 : decode cX12_isWord 49 = .ok (.iload 9, 2) := by decide +kernel
theorem dX12_isWord_51 : decode cX12_isWord 51 = .ok (.ifCond .ne 7, 3) := by decide +kernel
theorem dX12_isWord_54 : decode cX12_isWord 54 = .ok (.iload_n 2, 1) := by decide +kernel
theorem dX12_isWord_55 : decode cX12_isWord 55 = .ok (.goto 48, 3) := by decide +kernel
theorem dX12_isWord_58 : decode cX12_isWord 58 = .ok (.iload 9, 2) := by decide +kernel
theorem dX12_isWord_60 : decode cX12_isWord 60 = .ok (.iconst 1, 1) := by decide +kernel
theorem dX12_isWord_61 : decode cX12_isWord 61 = .ok (.if_icmp .ne 7, 3) := by decide +kernel
theorem dX12_isWord_64 : decode cX12_isWord 64 = .ok (.iload_n 3, 1) := by decide +kernel
theorem dX12_isWord_65 : decode cX12_isWord 65 = .ok (.goto 38, 3) := by decide +kernel
theorem dX12_isWord_68 : decode cX12_isWord 68 = .ok (.iload 9, 2) := by decide +kernel
theorem dX12_isWord_70 : decode cX12_isWord 70 = .ok (.iconst 2, 1) := by decide +kernel
theorem dX12_isWord_71 : decode cX12_isWord 71 = .ok (.if_icmp .ne 8, 3) := by decide +kernel
theorem dX12_isWord_74 : decode cX12_isWord 74 = .ok (.iload 4, 2) := by decide +kernel
theorem dX12_isWord_76 : decode cX12_isWord 76 = .ok (.goto 27, 3) := by decide +kernel
theorem dX12_isWord_79 : decode cX12_isWord 79 = .ok (.iload 9, 2) := by decide +kernel
theorem dX12_isWord_81 : decode cX12_isWord 81 = .ok (.iconst 3, 1) := by decide +kernel
theorem dX12_isWord_82 : decode cX12_isWord 82 = .ok (.if_icmp .ne 8, 3) := by decide +kernel
theorem dX12_isWord_85 : decode cX12_isWord 85 = .ok (.iload 5, 2) := by decide +kernel
theorem dX12_isWord_87 : decode cX12_isWord 87 = .ok (.goto 16, 3) := by decide +kernel
theorem dX12_isWord_90 : decode cX12_isWord 90 = .ok (.iload 9, 2) := by decide +kernel
theorem dX12_isWord_92 : decode cX12_isWord 92 = .ok (.iconst 4, 1) := by decide +kernel
theorem dX12_isWord_93 : decode cX12_isWord 93 = .ok (.if_icmp .ne 8, 3) := by decide +kernel
theorem dX12_isWord_96 : decode cX12_isWord 96 = .ok (.iload 6, 2) := by decide +kernel
theorem dX12_isWord_98 : decode cX12_isWord 98 = .ok (.goto 5, 3) := by decide +kernel
theorem dX12_isWord_101 : decode cX12_isWord 101 = .ok (.iload 7, 2) := by decide +kernel
theorem dX12_isWord_103 : decode cX12_isWord 103 = .ok (.if_icmp .ne 7, 3) := by decide +kernel
theorem dX12_isWord_106 : decode cX12_isWord 106 = .ok (.iconst 1, 1) := by decide +kernel
theorem dX12_isWord_107 : decode cX12_isWord 107 = .ok (.goto 4, 3) := by decide +kernel
theorem dX12_isWord_110 : decode cX12_isWord 110 = .ok (.iconst 0, 1) := by decide +kernel
theorem dX12_isWord_111 : decode cX12_isWord 111 = .ok (.istore 8, 2) := by decide +kernel
theorem dX12_isWord_113 : decode cX12_isWord 113 = .ok (.iinc 9 1, 3) := by decide +kernel
theorem dX12_isWord_116 : decode cX12_isWord 116 = .ok (.goto (-90), 3) := by decide +kernel
theorem dX12_isWord_119 : decode cX12_isWord 119 = .ok (.iload 8, 2) := by decide +kernel
theorem dX12_isWord_121 : decode cX12_isWord 121 = .ok (.ireturn, 1) := by decide +kernel
theorem dX12_takes_0 : decode cX12_takes 0 = .ok (.aload_n 0, 1) := by decide +kernel
theorem dX12_takes_1 : decode cX12_takes 1 = .ok (.getfield 249, 3) := by decide +kernel
theorem dX12_takes_4 : decode cX12_takes 4 = .ok (.iconst 2, 1) := by decide +kernel
theorem dX12_takes_5 : decode cX12_takes 5 = .ok (.if_icmp .ne 18, 3) := by decide +kernel
theorem dX12_takes_8 : decode cX12_takes 8 = .ok (.aload_n 0, 1) := by decide +kernel
theorem dX12_takes_9 : decode cX12_takes 9 = .ok (.getfield 252, 3) := by decide +kernel
theorem dX12_takes_12 : decode cX12_takes 12 = .ok (.i2l, 1) := by decide +kernel
theorem dX12_takes_13 : decode cX12_takes 13 = .ok (.iload_n 2, 1) := by decide +kernel
theorem dX12_takes_14 : decode cX12_takes 14 = .ok (.i2l, 1) := by decide +kernel
theorem dX12_takes_15 : decode cX12_takes 15 = .ok (.iload_n 3, 1) := by decide +kernel
theorem dX12_takes_16 : decode cX12_takes 16 = .ok (.i2l, 1) := by decide +kernel
theorem dX12_takes_17 : decode cX12_takes 17 = .ok (.invokestatic 59, 3) := by decide +kernel
theorem dX12_takes_20 : decode cX12_takes 20 = .ok (.ifCond .ne 5, 3) := by decide +kernel
theorem dX12_takes_23 : decode cX12_takes 23 = .ok (.iconst 0, 1) := by decide +kernel
theorem dX12_takes_24 : decode cX12_takes 24 = .ok (.ireturn, 1) := by decide +kernel
theorem dX12_takes_25 : decode cX12_takes 25 = .ok (.aload_n 0, 1) := by decide +kernel
theorem dX12_takes_26 : decode cX12_takes 26 = .ok (.getfield 54, 3) := by decide +kernel
theorem dX12_takes_29 : decode cX12_takes 29 = .ok (.iload_n 1, 1) := by decide +kernel
theorem dX12_takes_30 : decode cX12_takes 30 = .ok (.aload_n 0, 1) := by decide +kernel
theorem dX12_takes_31 : decode cX12_takes 31 = .ok (.getfield 252, 3) := by decide +kernel
theorem dX12_takes_34 : decode cX12_takes 34 = .ok (.iastore, 1) := by decide +kernel
theorem dX12_takes_35 : decode cX12_takes 35 = .ok (.aload_n 0, 1) := by decide +kernel
theorem dX12_takes_36 : decode cX12_takes 36 = .ok (.invokevirtual 265, 3) := by decide +kernel
theorem dX12_takes_39 : decode cX12_takes 39 = .ok (.iconst 1, 1) := by decide +kernel
theorem dX12_takes_40 : decode cX12_takes 40 = .ok (.ireturn, 1) := by decide +kernel
theorem dX12_takesFirst_0 : decode cX12_takesFirst 0 = .ok (.aload_n 0, 1) := by decide +kernel
theorem dX12_takesFirst_1 : decode cX12_takesFirst 1 = .ok (.bipush 6, 2) := by decide +kernel
theorem dX12_takesFirst_3 : decode cX12_takesFirst 3 = .ok (.bipush 115, 2) := by decide +kernel
theorem dX12_takesFirst_5 : decode cX12_takesFirst 5 = .ok (.bipush 116, 2) := by decide +kernel
theorem dX12_takesFirst_7 : decode cX12_takesFirst 7 = .ok (.bipush 114, 2) := by decide +kernel
theorem dX12_takesFirst_9 : decode cX12_takesFirst 9 = .ok (.bipush 101, 2) := by decide +kernel
theorem dX12_takesFirst_11 : decode cX12_takesFirst 11 = .ok (.bipush 101, 2) := by decide +kernel
theorem dX12_takesFirst_13 : decode cX12_takesFirst 13 = .ok (.bipush 116, 2) := by decide +kernel
theorem dX12_takesFirst_15 : decode cX12_takesFirst 15 = .ok (.invokevirtual 268, 3) := by decide +kernel
theorem dX12_takesFirst_18 : decode cX12_takesFirst 18 = .ok (.ifCond .ne 5, 3) := by decide +kernel
theorem dX12_takesFirst_21 : decode cX12_takesFirst 21 = .ok (.iconst 0, 1) := by decide +kernel
theorem dX12_takesFirst_22 : decode cX12_takesFirst 22 = .ok (.ireturn, 1) := by decide +kernel
theorem dX12_takesFirst_23 : decode cX12_takesFirst 23 = .ok (.aload_n 0, 1) := by decide +kernel
theorem dX12_takesFirst_24 : decode cX12_takesFirst 24 = .ok (.invokevirtual 265, 3) := by decide +kernel
theorem dX12_takesFirst_27 : decode cX12_takesFirst 27 = .ok (.aload_n 0, 1) := by decide +kernel
theorem dX12_takesFirst_28 : decode cX12_takesFirst 28 = .ok (.iconst 0, 1) := by decide +kernel
theorem dX12_takesFirst_29 : decode cX12_takesFirst 29 = .ok (.iconst 0, 1) := by decide +kernel
theorem dX12_takesFirst_30 : decode cX12_takesFirst 30 = .ok (.iconst 5, 1) := by decide +kernel
theorem dX12_takesFirst_31 : decode cX12_takesFirst 31 = .ok (.invokevirtual 272, 3) := by decide +kernel
theorem dX12_takesFirst_34 : decode cX12_takesFirst 34 = .ok (.ifCond .eq 14, 3) := by decide +kernel
theorem dX12_takesFirst_37 : decode cX12_takesFirst 37 = .ok (.aload_n 0, 1) := by decide +kernel
theorem dX12_takesFirst_38 : decode cX12_takesFirst 38 = .ok (.iconst 1, 1) := by decide +kernel
theorem dX12_takesFirst_39 : decode cX12_takesFirst 39 = .ok (.iconst 0, 1) := by decide +kernel
theorem dX12_takesFirst_40 : decode cX12_takesFirst 40 = .ok (.bipush 9, 2) := by decide +kernel
theorem dX12_takesFirst_42 : decode cX12_takesFirst 42 = .ok (.invokevirtual 272, 3) := by decide +kernel
theorem dX12_takesFirst_45 : decode cX12_takesFirst 45 = .ok (.ifCond .ne 5, 3) := by decide +kernel
theorem dX12_takesFirst_48 : decode cX12_takesFirst 48 = .ok (.iconst 0, 1) := by decide +kernel
theorem dX12_takesFirst_49 : decode cX12_takesFirst 49 = .ok (.ireturn, 1) := by decide +kernel
theorem dX12_takesFirst_50 : decode cX12_takesFirst 50 = .ok (.aload_n 0, 1) := by decide +kernel
theorem dX12_takesFirst_51 : decode cX12_takesFirst 51 = .ok (.getfield 51, 3) := by decide +kernel
theorem dX12_takesFirst_54 : decode cX12_takesFirst 54 = .ok (.aload_n 0, 1) := by decide +kernel
theorem dX12_takesFirst_55 : decode cX12_takesFirst 55 = .ok (.getfield 54, 3) := by decide +kernel
theorem dX12_takesFirst_58 : decode cX12_takesFirst 58 = .ok (.iconst 0, 1) := by decide +kernel
theorem dX12_takesFirst_59 : decode cX12_takesFirst 59 = .ok (.iaload, 1) := by decide +kernel
theorem dX12_takesFirst_60 : decode cX12_takesFirst 60 = .ok (.aload_n 0, 1) := by decide +kernel
theorem dX12_takesFirst_61 : decode cX12_takesFirst 61 = .ok (.getfield 54, 3) := by decide +kernel
theorem dX12_takesFirst_64 : decode cX12_takesFirst 64 = .ok (.iconst 1, 1) := by decide +kernel
theorem dX12_takesFirst_65 : decode cX12_takesFirst 65 = .ok (.iaload, 1) := by decide +kernel
theorem dX12_takesFirst_66 : decode cX12_takesFirst 66 = .ok (.invokestatic 98, 3) := by decide +kernel
theorem dX12_takesFirst_69 : decode cX12_takesFirst 69 = .ok (.aload_n 0, 1) := by decide +kernel
theorem dX12_takesFirst_70 : decode cX12_takesFirst 70 = .ok (.getfield 249, 3) := by decide +kernel
theorem dX12_takesFirst_73 : decode cX12_takesFirst 73 = .ok (.iconst 3, 1) := by decide +kernel
theorem dX12_takesFirst_74 : decode cX12_takesFirst 74 = .ok (.if_icmp .ne 7, 3) := by decide +kernel
theorem dX12_takesFirst_77 : decode cX12_takesFirst 77 = .ok (.iconst 1, 1) := by decide +kernel
theorem dX12_takesFirst_78 : decode cX12_takesFirst 78 = .ok (.goto 4, 3) := by decide +kernel
theorem dX12_takesFirst_81 : decode cX12_takesFirst 81 = .ok (.iconst 0, 1) := by decide +kernel
theorem dX12_takesFirst_82 : decode cX12_takesFirst 82 = .ok (.ireturn, 1) := by decide +kernel
theorem dX12_takesHouse_0 : decode cX12_takesHouse 0 = .ok (.aload_n 0, 1) := by decide +kernel
theorem dX12_takesHouse_1 : decode cX12_takesHouse 1 = .ok (.iconst 5, 1) := by decide +kernel
theorem dX12_takesHouse_2 : decode cX12_takesHouse 2 = .ok (.bipush 104, 2) := by decide +kernel
theorem dX12_takesHouse_4 : decode cX12_takesHouse 4 = .ok (.bipush 111, 2) := by decide +kernel
theorem dX12_takesHouse_6 : decode cX12_takesHouse 6 = .ok (.bipush 117, 2) := by decide +kernel
theorem dX12_takesHouse_8 : decode cX12_takesHouse 8 = .ok (.bipush 115, 2) := by decide +kernel
theorem dX12_takesHouse_10 : decode cX12_takesHouse 10 = .ok (.bipush 101, 2) := by decide +kernel
theorem dX12_takesHouse_12 : decode cX12_takesHouse 12 = .ok (.iconst 0, 1) := by decide +kernel
theorem dX12_takesHouse_13 : decode cX12_takesHouse 13 = .ok (.invokevirtual 268, 3) := by decide +kernel
theorem dX12_takesHouse_16 : decode cX12_takesHouse 16 = .ok (.ifCond .ne 5, 3) := by decide +kernel
theorem dX12_takesHouse_19 : decode cX12_takesHouse 19 = .ok (.iconst 0, 1) := by decide +kernel
theorem dX12_takesHouse_20 : decode cX12_takesHouse 20 = .ok (.ireturn, 1) := by decide +kernel
theorem dX12_takesHouse_21 : decode cX12_takesHouse 21 = .ok (.aload_n 0, 1) := by decide +kernel
theorem dX12_takesHouse_22 : decode cX12_takesHouse 22 = .ok (.invokevirtual 265, 3) := by decide +kernel
theorem dX12_takesHouse_25 : decode cX12_takesHouse 25 = .ok (.aload_n 0, 1) := by decide +kernel
theorem dX12_takesHouse_26 : decode cX12_takesHouse 26 = .ok (.iconst 0, 1) := by decide +kernel
theorem dX12_takesHouse_27 : decode cX12_takesHouse 27 = .ok (.iconst 0, 1) := by decide +kernel
theorem dX12_takesHouse_28 : decode cX12_takesHouse 28 = .ok (.bipush 7, 2) := by decide +kernel
theorem dX12_takesHouse_30 : decode cX12_takesHouse 30 = .ok (.invokevirtual 272, 3) := by decide +kernel
theorem dX12_takesHouse_33 : decode cX12_takesHouse 33 = .ok (.ifCond .eq 15, 3) := by decide +kernel
theorem dX12_takesHouse_36 : decode cX12_takesHouse 36 = .ok (.aload_n 0, 1) := by decide +kernel
theorem dX12_takesHouse_37 : decode cX12_takesHouse 37 = .ok (.iconst 1, 1) := by decide +kernel
theorem dX12_takesHouse_38 : decode cX12_takesHouse 38 = .ok (.iconst 0, 1) := by decide +kernel
theorem dX12_takesHouse_39 : decode cX12_takesHouse 39 = .ok (.sipush 300, 3) := by decide +kernel
theorem dX12_takesHouse_42 : decode cX12_takesHouse 42 = .ok (.invokevirtual 272, 3) := by decide +kernel
theorem dX12_takesHouse_45 : decode cX12_takesHouse 45 = .ok (.ifCond .ne 5, 3) := by decide +kernel
theorem dX12_takesHouse_48 : decode cX12_takesHouse 48 = .ok (.iconst 0, 1) := by decide +kernel
theorem dX12_takesHouse_49 : decode cX12_takesHouse 49 = .ok (.ireturn, 1) := by decide +kernel
theorem dX12_takesHouse_50 : decode cX12_takesHouse 50 = .ok (.aload_n 0, 1) := by decide +kernel
theorem dX12_takesHouse_51 : decode cX12_takesHouse 51 = .ok (.getfield 51, 3) := by decide +kernel
theorem dX12_takesHouse_54 : decode cX12_takesHouse 54 = .ok (.aload_n 0, 1) := by decide +kernel
theorem dX12_takesHouse_55 : decode cX12_takesHouse 55 = .ok (.getfield 54, 3) := by decide +kernel
theorem dX12_takesHouse_58 : decode cX12_takesHouse 58 = .ok (.iconst 0, 1) := by decide +kernel
theorem dX12_takesHouse_59 : decode cX12_takesHouse 59 = .ok (.iaload, 1) := by decide +kernel
theorem dX12_takesHouse_60 : decode cX12_takesHouse 60 = .ok (.aload_n 0, 1) := by decide +kernel
theorem dX12_takesHouse_61 : decode cX12_takesHouse 61 = .ok (.getfield 54, 3) := by decide +kernel
theorem dX12_takesHouse_64 : decode cX12_takesHouse 64 = .ok (.iconst 1, 1) := by decide +kernel
theorem dX12_takesHouse_65 : decode cX12_takesHouse 65 = .ok (.iaload, 1) := by decide +kernel
theorem dX12_takesHouse_66 : decode cX12_takesHouse 66 = .ok (.iastore, 1) := by decide +kernel
theorem dX12_takesHouse_67 : decode cX12_takesHouse 67 = .ok (.iconst 1, 1) := by decide +kernel
theorem dX12_takesHouse_68 : decode cX12_takesHouse 68 = .ok (.ireturn, 1) := by decide +kernel
theorem dX12_read_0 : decode cX12_read 0 = .ok (.aload_n 0, 1) := by decide +kernel
theorem dX12_read_1 : decode cX12_read 1 = .ok (.iconst 0, 1) := by decide +kernel
theorem dX12_read_2 : decode cX12_read 2 = .ok (.invokevirtual 261, 3) := by decide +kernel
theorem dX12_read_5 : decode cX12_read 5 = .ok (.aload_n 0, 1) := by decide +kernel
theorem dX12_read_6 : decode cX12_read 6 = .ok (.invokevirtual 276, 3) := by decide +kernel
theorem dX12_read_9 : decode cX12_read 9 = .ok (.ifCond .ne 11, 3) := by decide +kernel
theorem dX12_read_12 : decode cX12_read 12 = .ok (.bipush (-10), 2) := by decide +kernel
theorem dX12_read_14 : decode cX12_read 14 = .ok (.aload_n 0, 1) := by decide +kernel
theorem dX12_read_15 : decode cX12_read 15 = .ok (.getfield 243, 3) := by decide +kernel
theorem dX12_read_18 : decode cX12_read 18 = .ok (.isub, 1) := by decide +kernel
theorem dX12_read_19 : decode cX12_read 19 = .ok (.ireturn, 1) := by decide +kernel
theorem dX12_read_20 : decode cX12_read 20 = .ok (.aload_n 0, 1) := by decide +kernel
theorem dX12_read_21 : decode cX12_read 21 = .ok (.invokevirtual 265, 3) := by decide +kernel
theorem dX12_read_24 : decode cX12_read 24 = .ok (.iconst 1, 1) := by decide +kernel
theorem dX12_read_25 : decode cX12_read 25 = .ok (.istore_n 1, 1) := by decide +kernel
theorem dX12_read_26 : decode cX12_read 26 = .ok (.aload_n 0, 1) := by decide +kernel
theorem dX12_read_27 : decode cX12_read 27 = .ok (.getfield 249, 3) := by decide +kernel
theorem dX12_read_30 : decode cX12_read 30 = .ok (.ifCond .eq 36, 3) := by decide +kernel
theorem dX12_read_33 : decode cX12_read 33 = .ok (.aload_n 0, 1) := by decide +kernel
theorem dX12_read_34 : decode cX12_read 34 = .ok (.invokevirtual 280, 3) := by decide +kernel
theorem dX12_read_37 : decode cX12_read 37 = .ok (.ifCond .eq 11, 3) := by decide +kernel
theorem dX12_read_40 : decode cX12_read 40 = .ok (.aload_n 0, 1) := by decide +kernel
theorem dX12_read_41 : decode cX12_read 41 = .ok (.getfield 249, 3) := by decide +kernel
theorem dX12_read_44 : decode cX12_read 44 = .ok (.iconst 3, 1) := by decide +kernel
theorem dX12_read_45 : decode cX12_read 45 = .ok (.if_icmp .eq 11, 3) := by decide +kernel
theorem dX12_read_48 : decode cX12_read 48 = .ok (.bipush (-10), 2) := by decide +kernel
theorem dX12_read_50 : decode cX12_read 50 = .ok (.aload_n 0, 1) := by decide +kernel
theorem dX12_read_51 : decode cX12_read 51 = .ok (.getfield 243, 3) := by decide +kernel
theorem dX12_read_54 : decode cX12_read 54 = .ok (.isub, 1) := by decide +kernel
theorem dX12_read_55 : decode cX12_read 55 = .ok (.ireturn, 1) := by decide +kernel
theorem dX12_read_56 : decode cX12_read 56 = .ok (.aload_n 0, 1) := by decide +kernel
theorem dX12_read_57 : decode cX12_read 57 = .ok (.invokevirtual 265, 3) := by decide +kernel
theorem dX12_read_60 : decode cX12_read 60 = .ok (.iinc 1 1, 3) := by decide +kernel
theorem dX12_read_63 : decode cX12_read 63 = .ok (.goto (-37), 3) := by decide +kernel
theorem dX12_read_66 : decode cX12_read 66 = .ok (.iconst 0, 1) := by decide +kernel
theorem dX12_read_67 : decode cX12_read 67 = .ok (.istore_n 2, 1) := by decide +kernel
theorem dX12_read_68 : decode cX12_read 68 = .ok (.iload_n 2, 1) := by decide +kernel
theorem dX12_read_69 : decode cX12_read 69 = .ok (.bipush 69, 2) := by decide +kernel
theorem dX12_read_71 : decode cX12_read 71 = .ok (.if_icmp .ge 21, 3) := by decide +kernel
theorem dX12_read_74 : decode cX12_read 74 = .ok (.aload_n 0, 1) := by decide +kernel
theorem dX12_read_75 : decode cX12_read 75 = .ok (.getfield 7, 3) := by decide +kernel
theorem dX12_read_78 : decode cX12_read 78 = .ok (.iload_n 2, 1) := by decide +kernel
theorem dX12_read_79 : decode cX12_read 79 = .ok (.aload_n 0, 1) := by decide +kernel
theorem dX12_read_80 : decode cX12_read 80 = .ok (.getfield 51, 3) := by decide +kernel
theorem dX12_read_83 : decode cX12_read 83 = .ok (.iload_n 2, 1) := by decide +kernel
theorem dX12_read_84 : decode cX12_read 84 = .ok (.iaload, 1) := by decide +kernel
theorem dX12_read_85 : decode cX12_read 85 = .ok (.iastore, 1) := by decide +kernel
theorem dX12_read_86 : decode cX12_read 86 = .ok (.iinc 2 1, 3) := by decide +kernel
theorem dX12_read_89 : decode cX12_read 89 = .ok (.goto (-21), 3) := by decide +kernel
theorem dX12_read_92 : decode cX12_read 92 = .ok (.iload_n 1, 1) := by decide +kernel
theorem dX12_read_93 : decode cX12_read 93 = .ok (.ireturn, 1) := by decide +kernel
theorem dX12_part_0 : decode cX12_part 0 = .ok (.iload_n 1, 1) := by decide +kernel
theorem dX12_part_1 : decode cX12_part 1 = .ok (.ifCond .ne 10, 3) := by decide +kernel
theorem dX12_part_4 : decode cX12_part 4 = .ok (.aload_n 0, 1) := by decide +kernel
theorem dX12_part_5 : decode cX12_part 5 = .ok (.getfield 207, 3) := by decide +kernel
theorem dX12_part_8 : decode cX12_part 8 = .ok (.goto 22, 3) := by decide +kernel
theorem dX12_part_11 : decode cX12_part 11 = .ok (.iload_n 1, 1) := by decide +kernel
theorem dX12_part_12 : decode cX12_part 12 = .ok (.iconst 1, 1) := by decide +kernel
theorem dX12_part_13 : decode cX12_part 13 = .ok (.if_icmp .ne 10, 3) := by decide +kernel
theorem dX12_part_16 : decode cX12_part 16 = .ok (.aload_n 0, 1) := by decide +kernel
theorem dX12_part_17 : decode cX12_part 17 = .ok (.getfield 26, 3) := by decide +kernel
theorem dX12_part_20 : decode cX12_part 20 = .ok (.goto 10, 3) := by decide +kernel
theorem dX12_part_23 : decode cX12_part 23 = .ok (.aload_n 0, 1) := by decide +kernel
theorem dX12_part_24 : decode cX12_part 24 = .ok (.bipush (-2), 2) := by decide +kernel
theorem dX12_part_26 : decode cX12_part 26 = .ok (.invokevirtual 87, 3) := by decide +kernel
theorem dX12_part_29 : decode cX12_part 29 = .ok (.i2l, 1) := by decide +kernel
theorem dX12_part_30 : decode cX12_part 30 = .ok (.lreturn, 1) := by decide +kernel
theorem dX12_image_0 : decode cX12_image 0 = .ok (.iload_n 1, 1) := by decide +kernel
theorem dX12_image_1 : decode cX12_image 1 = .ok (.i2l, 1) := by decide +kernel
theorem dX12_image_2 : decode cX12_image 2 = .ok (.lconst 0, 1) := by decide +kernel
theorem dX12_image_3 : decode cX12_image 3 = .ok (.lconst 1, 1) := by decide +kernel
theorem dX12_image_4 : decode cX12_image 4 = .ok (.invokestatic 59, 3) := by decide +kernel
theorem dX12_image_7 : decode cX12_image 7 = .ok (.ifCond .ne 10, 3) := by decide +kernel
theorem dX12_image_10 : decode cX12_image 10 = .ok (.aload_n 0, 1) := by decide +kernel
theorem dX12_image_11 : decode cX12_image 11 = .ok (.bipush (-2), 2) := by decide +kernel
theorem dX12_image_13 : decode cX12_image 13 = .ok (.invokevirtual 87, 3) := by decide +kernel
theorem dX12_image_16 : decode cX12_image 16 = .ok (.ireturn, 1) := by decide +kernel
theorem dX12_image_17 : decode cX12_image 17 = .ok (.iconst 0, 1) := by decide +kernel
theorem dX12_image_18 : decode cX12_image 18 = .ok (.istore_n 2, 1) := by decide +kernel
theorem dX12_image_19 : decode cX12_image 19 = .ok (.iload_n 2, 1) := by decide +kernel
theorem dX12_image_20 : decode cX12_image 20 = .ok (.sipush 149, 3) := by decide +kernel
theorem dX12_image_23 : decode cX12_image 23 = .ok (.if_icmp .ge 27, 3) := by decide +kernel
theorem dX12_image_26 : decode cX12_image 26 = .ok (.aload_n 0, 1) := by decide +kernel
theorem dX12_image_27 : decode cX12_image 27 = .ok (.getfield 13, 3) := by decide +kernel
theorem dX12_image_30 : decode cX12_image 30 = .ok (.sipush 149, 3) := by decide +kernel
theorem dX12_image_33 : decode cX12_image 33 = .ok (.iload_n 1, 1) := by decide +kernel
theorem dX12_image_34 : decode cX12_image 34 = .ok (.imul, 1) := by decide +kernel
theorem dX12_image_35 : decode cX12_image 35 = .ok (.iload_n 2, 1) := by decide +kernel
theorem dX12_image_36 : decode cX12_image 36 = .ok (.iadd, 1) := by decide +kernel
theorem dX12_image_37 : decode cX12_image 37 = .ok (.aload_n 0, 1) := by decide +kernel
theorem dX12_image_38 : decode cX12_image 38 = .ok (.getfield 7, 3) := by decide +kernel
theorem dX12_image_41 : decode cX12_image 41 = .ok (.iload_n 2, 1) := by decide +kernel
theorem dX12_image_42 : decode cX12_image 42 = .ok (.iaload, 1) := by decide +kernel
theorem dX12_image_43 : decode cX12_image 43 = .ok (.iastore, 1) := by decide +kernel
theorem dX12_image_44 : decode cX12_image 44 = .ok (.iinc 2 1, 3) := by decide +kernel
theorem dX12_image_47 : decode cX12_image 47 = .ok (.goto (-28), 3) := by decide +kernel
theorem dX12_image_50 : decode cX12_image 50 = .ok (.aload_n 0, 1) := by decide +kernel
theorem dX12_image_51 : decode cX12_image 51 = .ok (.getfield 16, 3) := by decide +kernel
theorem dX12_image_54 : decode cX12_image 54 = .ok (.iload_n 1, 1) := by decide +kernel
theorem dX12_image_55 : decode cX12_image 55 = .ok (.iconst 1, 1) := by decide +kernel
theorem dX12_image_56 : decode cX12_image 56 = .ok (.bastore, 1) := by decide +kernel
theorem dX12_image_57 : decode cX12_image 57 = .ok (.iconst 1, 1) := by decide +kernel
theorem dX12_image_58 : decode cX12_image 58 = .ok (.ireturn, 1) := by decide +kernel
theorem dX12_from_0 : decode cX12_from 0 = .ok (.iload_n 1, 1) := by decide +kernel
theorem dX12_from_1 : decode cX12_from 1 = .ok (.i2l, 1) := by decide +kernel
theorem dX12_from_2 : decode cX12_from 2 = .ok (.lconst 0, 1) := by decide +kernel
theorem dX12_from_3 : decode cX12_from 3 = .ok (.lconst 1, 1) := by decide +kernel
theorem dX12_from_4 : decode cX12_from 4 = .ok (.invokestatic 59, 3) := by decide +kernel
theorem dX12_from_7 : decode cX12_from 7 = .ok (.ifCond .ne 10, 3) := by decide +kernel
theorem dX12_from_10 : decode cX12_from 10 = .ok (.aload_n 0, 1) := by decide +kernel
theorem dX12_from_11 : decode cX12_from 11 = .ok (.bipush (-2), 2) := by decide +kernel
theorem dX12_from_13 : decode cX12_from 13 = .ok (.invokevirtual 87, 3) := by decide +kernel
theorem dX12_from_16 : decode cX12_from 16 = .ok (.ireturn, 1) := by decide +kernel
theorem dX12_from_17 : decode cX12_from 17 = .ok (.aload_n 0, 1) := by decide +kernel
theorem dX12_from_18 : decode cX12_from 18 = .ok (.getfield 16, 3) := by decide +kernel
theorem dX12_from_21 : decode cX12_from 21 = .ok (.iload_n 1, 1) := by decide +kernel
theorem dX12_from_22 : decode cX12_from 22 = .ok (.baload, 1) := by decide +kernel
theorem dX12_from_23 : decode cX12_from 23 = .ok (.ifCond .ne 8, 3) := by decide +kernel
theorem dX12_from_26 : decode cX12_from 26 = .ok (.aload_n 0, 1) := by decide +kernel
theorem dX12_from_27 : decode cX12_from 27 = .ok (.invokevirtual 111, 3) := by decide +kernel
theorem dX12_from_30 : decode cX12_from 30 = .ok (.ireturn, 1) := by decide +kernel
theorem dX12_from_31 : decode cX12_from 31 = .ok (.iconst 0, 1) := by decide +kernel
theorem dX12_from_32 : decode cX12_from 32 = .ok (.istore_n 2, 1) := by decide +kernel
theorem dX12_from_33 : decode cX12_from 33 = .ok (.iload_n 2, 1) := by decide +kernel
theorem dX12_from_34 : decode cX12_from 34 = .ok (.sipush 149, 3) := by decide +kernel
theorem dX12_from_37 : decode cX12_from 37 = .ok (.if_icmp .ge 27, 3) := by decide +kernel
theorem dX12_from_40 : decode cX12_from 40 = .ok (.aload_n 0, 1) := by decide +kernel
theorem dX12_from_41 : decode cX12_from 41 = .ok (.getfield 7, 3) := by decide +kernel
theorem dX12_from_44 : decode cX12_from 44 = .ok (.iload_n 2, 1) := by decide +kernel
theorem dX12_from_45 : decode cX12_from 45 = .ok (.aload_n 0, 1) := by decide +kernel
theorem dX12_from_46 : decode cX12_from 46 = .ok (.getfield 13, 3) := by decide +kernel
theorem dX12_from_49 : decode cX12_from 49 = .ok (.sipush 149, 3) := by decide +kernel
theorem dX12_from_52 : decode cX12_from 52 = .ok (.iload_n 1, 1) := by decide +kernel
theorem dX12_from_53 : decode cX12_from 53 = .ok (.imul, 1) := by decide +kernel
theorem dX12_from_54 : decode cX12_from 54 = .ok (.iload_n 2, 1) := by decide +kernel
theorem dX12_from_55 : decode cX12_from 55 = .ok (.iadd, 1) := by decide +kernel
theorem dX12_from_56 : decode cX12_from 56 = .ok (.iaload, 1) := by decide +kernel
theorem dX12_from_57 : decode cX12_from 57 = .ok (.iastore, 1) := by decide +kernel
theorem dX12_from_58 : decode cX12_from 58 = .ok (.iinc 2 1, 3) := by decide +kernel
theorem dX12_from_61 : decode cX12_from 61 = .ok (.goto (-28), 3) := by decide +kernel
theorem dX12_from_64 : decode cX12_from 64 = .ok (.iconst 1, 1) := by decide +kernel
theorem dX12_from_65 : decode cX12_from 65 = .ok (.ireturn, 1) := by decide +kernel
theorem dX12_status_0 : decode cX12_status 0 = .ok (.iload_n 1, 1) := by decide +kernel
theorem dX12_status_1 : decode cX12_status 1 = .ok (.i2l, 1) := by decide +kernel
theorem dX12_status_2 : decode cX12_status 2 = .ok (.lconst 0, 1) := by decide +kernel
theorem dX12_status_3 : decode cX12_status 3 = .ok (.ldc2_w 175, 3) := by decide +kernel
theorem dX12_status_6 : decode cX12_status 6 = .ok (.invokestatic 59, 3) := by decide +kernel
theorem dX12_status_9 : decode cX12_status 9 = .ok (.ifCond .eq 12, 3) := by decide +kernel
theorem dX12_status_12 : decode cX12_status 12 = .ok (.aload_n 0, 1) := by decide +kernel
theorem dX12_status_13 : decode cX12_status 13 = .ok (.getfield 20, 3) := by decide +kernel
theorem dX12_status_16 : decode cX12_status 16 = .ok (.iload_n 1, 1) := by decide +kernel
theorem dX12_status_17 : decode cX12_status 17 = .ok (.iaload, 1) := by decide +kernel
theorem dX12_status_18 : decode cX12_status 18 = .ok (.goto 8, 3) := by decide +kernel
theorem dX12_status_21 : decode cX12_status 21 = .ok (.aload_n 0, 1) := by decide +kernel
theorem dX12_status_22 : decode cX12_status 22 = .ok (.iconst (-1), 1) := by decide +kernel
theorem dX12_status_23 : decode cX12_status 23 = .ok (.invokevirtual 87, 3) := by decide +kernel
theorem dX12_status_26 : decode cX12_status 26 = .ok (.ireturn, 1) := by decide +kernel
theorem dX12_counted_0 : decode cX12_counted 0 = .ok (.iload_n 1, 1) := by decide +kernel
theorem dX12_counted_1 : decode cX12_counted 1 = .ok (.tableswitch 72 0 4 #[35, 43, 48, 56, 64], 35) := by decide +kernel
theorem dX12_counted_36 : decode cX12_counted 36 = .ok (.aload_n 0, 1) := by decide +kernel
theorem dX12_counted_37 : decode cX12_counted 37 = .ok (.invokevirtual 91, 3) := by decide +kernel
theorem dX12_counted_40 : decode cX12_counted 40 = .ok (.invokestatic 95, 3) := by decide +kernel
theorem dX12_counted_43 : decode cX12_counted 43 = .ok (.ireturn, 1) := by decide +kernel
theorem dX12_counted_44 : decode cX12_counted 44 = .ok (.aload_n 0, 1) := by decide +kernel
theorem dX12_counted_45 : decode cX12_counted 45 = .ok (.invokevirtual 102, 3) := by decide +kernel
theorem dX12_counted_48 : decode cX12_counted 48 = .ok (.ireturn, 1) := by decide +kernel
theorem dX12_counted_49 : decode cX12_counted 49 = .ok (.aload_n 0, 1) := by decide +kernel
theorem dX12_counted_50 : decode cX12_counted 50 = .ok (.getfield 7, 3) := by decide +kernel
theorem dX12_counted_53 : decode cX12_counted 53 = .ok (.bipush 10, 2) := by decide +kernel
theorem dX12_counted_55 : decode cX12_counted 55 = .ok (.iaload, 1) := by decide +kernel
theorem dX12_counted_56 : decode cX12_counted 56 = .ok (.ireturn, 1) := by decide +kernel
theorem dX12_counted_57 : decode cX12_counted 57 = .ok (.aload_n 0, 1) := by decide +kernel
theorem dX12_counted_58 : decode cX12_counted 58 = .ok (.getfield 7, 3) := by decide +kernel
theorem dX12_counted_61 : decode cX12_counted 61 = .ok (.bipush 11, 2) := by decide +kernel
theorem dX12_counted_63 : decode cX12_counted 63 = .ok (.iaload, 1) := by decide +kernel
theorem dX12_counted_64 : decode cX12_counted 64 = .ok (.ireturn, 1) := by decide +kernel
theorem dX12_counted_65 : decode cX12_counted 65 = .ok (.aload_n 0, 1) := by decide +kernel
theorem dX12_counted_66 : decode cX12_counted 66 = .ok (.getfield 7, 3) := by decide +kernel
theorem dX12_counted_69 : decode cX12_counted 69 = .ok (.bipush 12, 2) := by decide +kernel
theorem dX12_counted_71 : decode cX12_counted 71 = .ok (.iaload, 1) := by decide +kernel
theorem dX12_counted_72 : decode cX12_counted 72 = .ok (.ireturn, 1) := by decide +kernel
theorem dX12_counted_73 : decode cX12_counted 73 = .ok (.aload_n 0, 1) := by decide +kernel
theorem dX12_counted_74 : decode cX12_counted 74 = .ok (.getfield 232, 3) := by decide +kernel
theorem dX12_counted_77 : decode cX12_counted 77 = .ok (.ireturn, 1) := by decide +kernel
theorem dX12_count_0 : decode cX12_count 0 = .ok (.iload_n 1, 1) := by decide +kernel
theorem dX12_count_1 : decode cX12_count 1 = .ok (.i2l, 1) := by decide +kernel
theorem dX12_count_2 : decode cX12_count 2 = .ok (.lconst 0, 1) := by decide +kernel
theorem dX12_count_3 : decode cX12_count 3 = .ok (.ldc2_w 65, 3) := by decide +kernel
theorem dX12_count_6 : decode cX12_count 6 = .ok (.invokestatic 59, 3) := by decide +kernel
theorem dX12_count_9 : decode cX12_count 9 = .ok (.ifCond .eq 11, 3) := by decide +kernel
theorem dX12_count_12 : decode cX12_count 12 = .ok (.aload_n 0, 1) := by decide +kernel
theorem dX12_count_13 : decode cX12_count 13 = .ok (.iload_n 1, 1) := by decide +kernel
theorem dX12_count_14 : decode cX12_count 14 = .ok (.invokevirtual 283, 3) := by decide +kernel
theorem dX12_count_17 : decode cX12_count 17 = .ok (.goto 9, 3) := by decide +kernel
theorem dX12_count_20 : decode cX12_count 20 = .ok (.aload_n 0, 1) := by decide +kernel
theorem dX12_count_21 : decode cX12_count 21 = .ok (.bipush (-2), 2) := by decide +kernel
theorem dX12_count_23 : decode cX12_count 23 = .ok (.invokevirtual 87, 3) := by decide +kernel
theorem dX12_count_26 : decode cX12_count 26 = .ok (.ireturn, 1) := by decide +kernel
theorem dX12_digest_0 : decode cX12_digest 0 = .ok (.ldc2_w 286, 3) := by decide +kernel
theorem dX12_digest_3 : decode cX12_digest 3 = .ok (.lstore_n 1, 1) := by decide +kernel
theorem dX12_digest_4 : decode cX12_digest 4 = .ok (.iconst 0, 1) := by decide +kernel
theorem dX12_digest_5 : decode cX12_digest 5 = .ok (.istore_n 3, 1) := by decide +kernel
theorem dX12_digest_6 : decode cX12_digest 6 = .ok (.iload_n 3, 1) := by decide +kernel
theorem dX12_digest_7 : decode cX12_digest 7 = .ok (.bipush 6, 2) := by decide +kernel
theorem dX12_digest_9 : decode cX12_digest 9 = .ok (.if_icmp .ge 22, 3) := by decide +kernel
theorem dX12_digest_12 : decode cX12_digest 12 = .ok (.ldc2_w 288, 3) := by decide +kernel
theorem dX12_digest_15 : decode cX12_digest 15 = .ok (.lload_n 1, 1) := by decide +kernel
theorem dX12_digest_16 : decode cX12_digest 16 = .ok (.lmul, 1) := by decide +kernel
theorem dX12_digest_17 : decode cX12_digest 17 = .ok (.aload_n 0, 1) := by decide +kernel
theorem dX12_digest_18 : decode cX12_digest 18 = .ok (.iload_n 3, 1) := by decide +kernel
theorem dX12_digest_19 : decode cX12_digest 19 = .ok (.invokevirtual 283, 3) := by decide +kernel
theorem dX12_digest_22 : decode cX12_digest 22 = .ok (.i2l, 1) := by decide +kernel
theorem dX12_digest_23 : decode cX12_digest 23 = .ok (.ladd, 1) := by decide +kernel
theorem dX12_digest_24 : decode cX12_digest 24 = .ok (.lstore_n 1, 1) := by decide +kernel
theorem dX12_digest_25 : decode cX12_digest 25 = .ok (.iinc 3 1, 3) := by decide +kernel
theorem dX12_digest_28 : decode cX12_digest 28 = .ok (.goto (-22), 3) := by decide +kernel
theorem dX12_digest_31 : decode cX12_digest 31 = .ok (.iconst 0, 1) := by decide +kernel
theorem dX12_digest_32 : decode cX12_digest 32 = .ok (.istore_n 3, 1) := by decide +kernel
theorem dX12_digest_33 : decode cX12_digest 33 = .ok (.iload_n 3, 1) := by decide +kernel
theorem dX12_digest_34 : decode cX12_digest 34 = .ok (.bipush 8, 2) := by decide +kernel
theorem dX12_digest_36 : decode cX12_digest 36 = .ok (.if_icmp .ge 23, 3) := by decide +kernel
theorem dX12_digest_39 : decode cX12_digest 39 = .ok (.ldc2_w 288, 3) := by decide +kernel
theorem dX12_digest_42 : decode cX12_digest 42 = .ok (.lload_n 1, 1) := by decide +kernel
theorem dX12_digest_43 : decode cX12_digest 43 = .ok (.lmul, 1) := by decide +kernel
theorem dX12_digest_44 : decode cX12_digest 44 = .ok (.aload_n 0, 1) := by decide +kernel
theorem dX12_digest_45 : decode cX12_digest 45 = .ok (.getfield 7, 3) := by decide +kernel
theorem dX12_digest_48 : decode cX12_digest 48 = .ok (.iload_n 3, 1) := by decide +kernel
theorem dX12_digest_49 : decode cX12_digest 49 = .ok (.iaload, 1) := by decide +kernel
theorem dX12_digest_50 : decode cX12_digest 50 = .ok (.i2l, 1) := by decide +kernel
theorem dX12_digest_51 : decode cX12_digest 51 = .ok (.ladd, 1) := by decide +kernel
theorem dX12_digest_52 : decode cX12_digest 52 = .ok (.lstore_n 1, 1) := by decide +kernel
theorem dX12_digest_53 : decode cX12_digest 53 = .ok (.iinc 3 1, 3) := by decide +kernel
theorem dX12_digest_56 : decode cX12_digest 56 = .ok (.goto (-23), 3) := by decide +kernel
theorem dX12_digest_59 : decode cX12_digest 59 = .ok (.iconst 0, 1) := by decide +kernel
theorem dX12_digest_60 : decode cX12_digest 60 = .ok (.istore_n 3, 1) := by decide +kernel
theorem dX12_digest_61 : decode cX12_digest 61 = .ok (.iload_n 3, 1) := by decide +kernel
theorem dX12_digest_62 : decode cX12_digest 62 = .ok (.aload_n 0, 1) := by decide +kernel
theorem dX12_digest_63 : decode cX12_digest 63 = .ok (.getfield 7, 3) := by decide +kernel
theorem dX12_digest_66 : decode cX12_digest 66 = .ok (.bipush 10, 2) := by decide +kernel
theorem dX12_digest_68 : decode cX12_digest 68 = .ok (.iaload, 1) := by decide +kernel
theorem dX12_digest_69 : decode cX12_digest 69 = .ok (.if_icmp .ge 76, 3) := by decide +kernel
theorem dX12_digest_72 : decode cX12_digest 72 = .ok (.bipush 13, 2) := by decide +kernel
theorem dX12_digest_74 : decode cX12_digest 74 = .ok (.iconst 4, 1) := by decide +kernel
theorem dX12_digest_75 : decode cX12_digest 75 = .ok (.iload_n 3, 1) := by decide +kernel
theorem dX12_digest_76 : decode cX12_digest 76 = .ok (.imul, 1) := by decide +kernel
theorem dX12_digest_77 : decode cX12_digest 77 = .ok (.iadd, 1) := by decide +kernel
theorem dX12_digest_78 : decode cX12_digest 78 = .ok (.istore 4, 2) := by decide +kernel
theorem dX12_digest_80 : decode cX12_digest 80 = .ok (.ldc2_w 288, 3) := by decide +kernel
theorem dX12_digest_83 : decode cX12_digest 83 = .ok (.ldc2_w 288, 3) := by decide +kernel
theorem dX12_digest_86 : decode cX12_digest 86 = .ok (.ldc2_w 288, 3) := by decide +kernel
theorem dX12_digest_89 : decode cX12_digest 89 = .ok (.lload_n 1, 1) := by decide +kernel
theorem dX12_digest_90 : decode cX12_digest 90 = .ok (.lmul, 1) := by decide +kernel
theorem dX12_digest_91 : decode cX12_digest 91 = .ok (.aload_n 0, 1) := by decide +kernel
theorem dX12_digest_92 : decode cX12_digest 92 = .ok (.getfield 7, 3) := by decide +kernel
theorem dX12_digest_95 : decode cX12_digest 95 = .ok (.iload 4, 2) := by decide +kernel
theorem dX12_digest_97 : decode cX12_digest 97 = .ok (.iaload, 1) := by decide +kernel
theorem dX12_digest_98 : decode cX12_digest 98 = .ok (.i2l, 1) := by decide +kernel
theorem dX12_digest_99 : decode cX12_digest 99 = .ok (.ladd, 1) := by decide +kernel
theorem dX12_digest_100 : decode cX12_digest 100 = .ok (.lmul, 1) := by decide +kernel
theorem dX12_digest_101 : decode cX12_digest 101 = .ok (.aload_n 0, 1) := by decide +kernel
theorem dX12_digest_102 : decode cX12_digest 102 = .ok (.getfield 7, 3) := by decide +kernel
theorem dX12_digest_105 : decode cX12_digest 105 = .ok (.iload 4, 2) := by decide +kernel
theorem dX12_digest_107 : decode cX12_digest 107 = .ok (.iconst 1, 1) := by decide +kernel
theorem dX12_digest_108 : decode cX12_digest 108 = .ok (.iadd, 1) := by decide +kernel
theorem dX12_digest_109 : decode cX12_digest 109 = .ok (.iaload, 1) := by decide +kernel
theorem dX12_digest_110 : decode cX12_digest 110 = .ok (.i2l, 1) := by decide +kernel
theorem dX12_digest_111 : decode cX12_digest 111 = .ok (.ladd, 1) := by decide +kernel
theorem dX12_digest_112 : decode cX12_digest 112 = .ok (.lmul, 1) := by decide +kernel
theorem dX12_digest_113 : decode cX12_digest 113 = .ok (.bipush 10, 2) := by decide +kernel
theorem dX12_digest_115 : decode cX12_digest 115 = .ok (.aload_n 0, 1) := by decide +kernel
theorem dX12_digest_116 : decode cX12_digest 116 = .ok (.getfield 7, 3) := by decide +kernel
theorem dX12_digest_119 : decode cX12_digest 119 = .ok (.iload 4, 2) := by decide +kernel
theorem dX12_digest_121 : decode cX12_digest 121 = .ok (.iconst 2, 1) := by decide +kernel
theorem dX12_digest_122 : decode cX12_digest 122 = .ok (.iadd, 1) := by decide +kernel
theorem dX12_digest_123 : decode cX12_digest 123 = .ok (.iaload, 1) := by decide +kernel
theorem dX12_digest_124 : decode cX12_digest 124 = .ok (.imul, 1) := by decide +kernel
theorem dX12_digest_125 : decode cX12_digest 125 = .ok (.i2l, 1) := by decide +kernel
theorem dX12_digest_126 : decode cX12_digest 126 = .ok (.ladd, 1) := by decide +kernel
theorem dX12_digest_127 : decode cX12_digest 127 = .ok (.aload_n 0, 1) := by decide +kernel
theorem dX12_digest_128 : decode cX12_digest 128 = .ok (.getfield 7, 3) := by decide +kernel
theorem dX12_digest_131 : decode cX12_digest 131 = .ok (.iload 4, 2) := by decide +kernel
theorem dX12_digest_133 : decode cX12_digest 133 = .ok (.iconst 3, 1) := by decide +kernel
theorem dX12_digest_134 : decode cX12_digest 134 = .ok (.iadd, 1) := by decide +kernel
theorem dX12_digest_135 : decode cX12_digest 135 = .ok (.iaload, 1) := by decide +kernel
theorem dX12_digest_136 : decode cX12_digest 136 = .ok (.i2l, 1) := by decide +kernel
theorem dX12_digest_137 : decode cX12_digest 137 = .ok (.ladd, 1) := by decide +kernel
theorem dX12_digest_138 : decode cX12_digest 138 = .ok (.lstore_n 1, 1) := by decide +kernel
theorem dX12_digest_139 : decode cX12_digest 139 = .ok (.iinc 3 1, 3) := by decide +kernel
theorem dX12_digest_142 : decode cX12_digest 142 = .ok (.goto (-81), 3) := by decide +kernel
theorem dX12_digest_145 : decode cX12_digest 145 = .ok (.iconst 0, 1) := by decide +kernel
theorem dX12_digest_146 : decode cX12_digest 146 = .ok (.istore_n 3, 1) := by decide +kernel
theorem dX12_digest_147 : decode cX12_digest 147 = .ok (.iload_n 3, 1) := by decide +kernel
theorem dX12_digest_148 : decode cX12_digest 148 = .ok (.iconst 3, 1) := by decide +kernel
theorem dX12_digest_149 : decode cX12_digest 149 = .ok (.aload_n 0, 1) := by decide +kernel
theorem dX12_digest_150 : decode cX12_digest 150 = .ok (.getfield 7, 3) := by decide +kernel
theorem dX12_digest_153 : decode cX12_digest 153 = .ok (.bipush 11, 2) := by decide +kernel
theorem dX12_digest_155 : decode cX12_digest 155 = .ok (.iaload, 1) := by decide +kernel
theorem dX12_digest_156 : decode cX12_digest 156 = .ok (.imul, 1) := by decide +kernel
theorem dX12_digest_157 : decode cX12_digest 157 = .ok (.if_icmp .ge 26, 3) := by decide +kernel
theorem dX12_digest_160 : decode cX12_digest 160 = .ok (.ldc2_w 288, 3) := by decide +kernel
theorem dX12_digest_163 : decode cX12_digest 163 = .ok (.lload_n 1, 1) := by decide +kernel
theorem dX12_digest_164 : decode cX12_digest 164 = .ok (.lmul, 1) := by decide +kernel
theorem dX12_digest_165 : decode cX12_digest 165 = .ok (.aload_n 0, 1) := by decide +kernel
theorem dX12_digest_166 : decode cX12_digest 166 = .ok (.getfield 7, 3) := by decide +kernel
theorem dX12_digest_169 : decode cX12_digest 169 = .ok (.bipush 45, 2) := by decide +kernel
theorem dX12_digest_171 : decode cX12_digest 171 = .ok (.iload_n 3, 1) := by decide +kernel
theorem dX12_digest_172 : decode cX12_digest 172 = .ok (.iadd, 1) := by decide +kernel
theorem dX12_digest_173 : decode cX12_digest 173 = .ok (.iaload, 1) := by decide +kernel
theorem dX12_digest_174 : decode cX12_digest 174 = .ok (.i2l, 1) := by decide +kernel
theorem dX12_digest_175 : decode cX12_digest 175 = .ok (.ladd, 1) := by decide +kernel
theorem dX12_digest_176 : decode cX12_digest 176 = .ok (.lstore_n 1, 1) := by decide +kernel
theorem dX12_digest_177 : decode cX12_digest 177 = .ok (.iinc 3 1, 3) := by decide +kernel
theorem dX12_digest_180 : decode cX12_digest 180 = .ok (.goto (-33), 3) := by decide +kernel
theorem dX12_digest_183 : decode cX12_digest 183 = .ok (.ldc2_w 288, 3) := by decide +kernel
theorem dX12_digest_186 : decode cX12_digest 186 = .ok (.ldc2_w 288, 3) := by decide +kernel
theorem dX12_digest_189 : decode cX12_digest 189 = .ok (.lload_n 1, 1) := by decide +kernel
theorem dX12_digest_190 : decode cX12_digest 190 = .ok (.lmul, 1) := by decide +kernel
theorem dX12_digest_191 : decode cX12_digest 191 = .ok (.aload_n 0, 1) := by decide +kernel
theorem dX12_digest_192 : decode cX12_digest 192 = .ok (.getfield 207, 3) := by decide +kernel
theorem dX12_digest_195 : decode cX12_digest 195 = .ok (.ladd, 1) := by decide +kernel
theorem dX12_digest_196 : decode cX12_digest 196 = .ok (.lmul, 1) := by decide +kernel
theorem dX12_digest_197 : decode cX12_digest 197 = .ok (.aload_n 0, 1) := by decide +kernel
theorem dX12_digest_198 : decode cX12_digest 198 = .ok (.getfield 26, 3) := by decide +kernel
theorem dX12_digest_201 : decode cX12_digest 201 = .ok (.ladd, 1) := by decide +kernel
theorem dX12_digest_202 : decode cX12_digest 202 = .ok (.lreturn, 1) := by decide +kernel
end
section
theorem dL_law_0 : decode cL_law 0 = .ok (.new 7, 3) := by decide +kernel
theorem dL_law_3 : decode cL_law 3 = .ok (.dup, 1) := by decide +kernel
theorem dL_law_4 : decode cL_law 4 = .ok (.invokespecial 9, 3) := by decide +kernel
theorem dL_law_7 : decode cL_law 7 = .ok (.astore_n 1, 1) := by decide +kernel
theorem dL_law_8 : decode cL_law 8 = .ok (.new 10, 3) := by decide +kernel
theorem dL_law_11 : decode cL_law 11 = .ok (.dup, 1) := by decide +kernel
theorem dL_law_12 : decode cL_law 12 = .ok (.invokespecial 12, 3) := by decide +kernel
theorem dL_law_15 : decode cL_law 15 = .ok (.astore_n 2, 1) := by decide +kernel
theorem dL_law_16 : decode cL_law 16 = .ok (.iconst 0, 1) := by decide +kernel
theorem dL_law_17 : decode cL_law 17 = .ok (.istore_n 3, 1) := by decide +kernel
theorem dL_law_18 : decode cL_law 18 = .ok (.iload_n 3, 1) := by decide +kernel
theorem dL_law_19 : decode cL_law 19 = .ok (.aload_n 0, 1) := by decide +kernel
theorem dL_law_20 : decode cL_law 20 = .ok (.arraylength, 1) := by decide +kernel
theorem dL_law_21 : decode cL_law 21 = .ok (.iconst 4, 1) := by decide +kernel
theorem dL_law_22 : decode cL_law 22 = .ok (.isub, 1) := by decide +kernel
theorem dL_law_23 : decode cL_law 23 = .ok (.if_icmp .gt 998, 3) := by decide +kernel
theorem dL_law_26 : decode cL_law 26 = .ok (.aload_n 0, 1) := by decide +kernel
theorem dL_law_27 : decode cL_law 27 = .ok (.iload_n 3, 1) := by decide +kernel
theorem dL_law_28 : decode cL_law 28 = .ok (.iaload, 1) := by decide +kernel
theorem dL_law_29 : decode cL_law 29 = .ok (.bipush 63, 2) := by decide +kernel
theorem dL_law_31 : decode cL_law 31 = .ok (.iand, 1) := by decide +kernel
theorem dL_law_32 : decode cL_law 32 = .ok (.tableswitch 983 0 34 #[156, 189, 222, 255, 278, 311, 324, 347, 360, 373, 406, 439, 462, 475, 498, 511, 524, 547, 580, 593, 616, 649, 672, 685, 728, 751, 774, 797, 820, 853, 877, 900, 923, 946, 969], 156) := by decide +kernel
theorem dL_law_188 : decode cL_law 188 = .ok (.aload_n 1, 1) := by decide +kernel
theorem dL_law_189 : decode cL_law 189 = .ok (.aload_n 0, 1) := by decide +kernel
theorem dL_law_190 : decode cL_law 190 = .ok (.iload_n 3, 1) := by decide +kernel
theorem dL_law_191 : decode cL_law 191 = .ok (.iconst 1, 1) := by decide +kernel
theorem dL_law_192 : decode cL_law 192 = .ok (.iadd, 1) := by decide +kernel
theorem dL_law_193 : decode cL_law 193 = .ok (.iaload, 1) := by decide +kernel
theorem dL_law_194 : decode cL_law 194 = .ok (.aload_n 0, 1) := by decide +kernel
theorem dL_law_195 : decode cL_law 195 = .ok (.iload_n 3, 1) := by decide +kernel
theorem dL_law_196 : decode cL_law 196 = .ok (.iconst 2, 1) := by decide +kernel
theorem dL_law_197 : decode cL_law 197 = .ok (.iadd, 1) := by decide +kernel
theorem dL_law_198 : decode cL_law 198 = .ok (.iaload, 1) := by decide +kernel
theorem dL_law_199 : decode cL_law 199 = .ok (.invokevirtual 13, 3) := by decide +kernel
theorem dL_law_202 : decode cL_law 202 = .ok (.aload_n 2, 1) := by decide +kernel
theorem dL_law_203 : decode cL_law 203 = .ok (.aload_n 0, 1) := by decide +kernel
theorem dL_law_204 : decode cL_law 204 = .ok (.iload_n 3, 1) := by decide +kernel
theorem dL_law_205 : decode cL_law 205 = .ok (.iconst 1, 1) := by decide +kernel
theorem dL_law_206 : decode cL_law 206 = .ok (.iadd, 1) := by decide +kernel
theorem dL_law_207 : decode cL_law 207 = .ok (.iaload, 1) := by decide +kernel
theorem dL_law_208 : decode cL_law 208 = .ok (.aload_n 0, 1) := by decide +kernel
theorem dL_law_209 : decode cL_law 209 = .ok (.iload_n 3, 1) := by decide +kernel
theorem dL_law_210 : decode cL_law 210 = .ok (.iconst 2, 1) := by decide +kernel
theorem dL_law_211 : decode cL_law 211 = .ok (.iadd, 1) := by decide +kernel
theorem dL_law_212 : decode cL_law 212 = .ok (.iaload, 1) := by decide +kernel
theorem dL_law_213 : decode cL_law 213 = .ok (.invokevirtual 17, 3) := by decide +kernel
theorem dL_law_216 : decode cL_law 216 = .ok (.if_icmp .eq 799, 3) := by decide +kernel
theorem dL_law_219 : decode cL_law 219 = .ok (.iconst 0, 1) := by decide +kernel
theorem dL_law_220 : decode cL_law 220 = .ok (.ireturn, 1) := by decide +kernel
theorem dL_law_221 : decode cL_law 221 = .ok (.aload_n 1, 1) := by decide +kernel
theorem dL_law_222 : decode cL_law 222 = .ok (.aload_n 0, 1) := by decide +kernel
theorem dL_law_223 : decode cL_law 223 = .ok (.iload_n 3, 1) := by decide +kernel
theorem dL_law_224 : decode cL_law 224 = .ok (.iconst 1, 1) := by decide +kernel
theorem dL_law_225 : decode cL_law 225 = .ok (.iadd, 1) := by decide +kernel
theorem dL_law_226 : decode cL_law 226 = .ok (.iaload, 1) := by decide +kernel
theorem dL_law_227 : decode cL_law 227 = .ok (.aload_n 0, 1) := by decide +kernel
theorem dL_law_228 : decode cL_law 228 = .ok (.iload_n 3, 1) := by decide +kernel
theorem dL_law_229 : decode cL_law 229 = .ok (.iconst 2, 1) := by decide +kernel
theorem dL_law_230 : decode cL_law 230 = .ok (.iadd, 1) := by decide +kernel
theorem dL_law_231 : decode cL_law 231 = .ok (.iaload, 1) := by decide +kernel
theorem dL_law_232 : decode cL_law 232 = .ok (.invokevirtual 18, 3) := by decide +kernel
theorem dL_law_235 : decode cL_law 235 = .ok (.aload_n 2, 1) := by decide +kernel
theorem dL_law_236 : decode cL_law 236 = .ok (.aload_n 0, 1) := by decide +kernel
theorem dL_law_237 : decode cL_law 237 = .ok (.iload_n 3, 1) := by decide +kernel
theorem dL_law_238 : decode cL_law 238 = .ok (.iconst 1, 1) := by decide +kernel
theorem dL_law_239 : decode cL_law 239 = .ok (.iadd, 1) := by decide +kernel
theorem dL_law_240 : decode cL_law 240 = .ok (.iaload, 1) := by decide +kernel
theorem dL_law_241 : decode cL_law 241 = .ok (.aload_n 0, 1) := by decide +kernel
theorem dL_law_242 : decode cL_law 242 = .ok (.iload_n 3, 1) := by decide +kernel
theorem dL_law_243 : decode cL_law 243 = .ok (.iconst 2, 1) := by decide +kernel
theorem dL_law_244 : decode cL_law 244 = .ok (.iadd, 1) := by decide +kernel
theorem dL_law_245 : decode cL_law 245 = .ok (.iaload, 1) := by decide +kernel
theorem dL_law_246 : decode cL_law 246 = .ok (.invokevirtual 21, 3) := by decide +kernel
theorem dL_law_249 : decode cL_law 249 = .ok (.if_icmp .eq 766, 3) := by decide +kernel
theorem dL_law_252 : decode cL_law 252 = .ok (.iconst 0, 1) := by decide +kernel
theorem dL_law_253 : decode cL_law 253 = .ok (.ireturn, 1) := by decide +kernel
theorem dL_law_254 : decode cL_law 254 = .ok (.aload_n 1, 1) := by decide +kernel
theorem dL_law_255 : decode cL_law 255 = .ok (.aload_n 0, 1) := by decide +kernel
theorem dL_law_256 : decode cL_law 256 = .ok (.iload_n 3, 1) := by decide +kernel
theorem dL_law_257 : decode cL_law 257 = .ok (.iconst 1, 1) := by decide +kernel
theorem dL_law_258 : decode cL_law 258 = .ok (.iadd, 1) := by decide +kernel
theorem dL_law_259 : decode cL_law 259 = .ok (.iaload, 1) := by decide +kernel
theorem dL_law_260 : decode cL_law 260 = .ok (.aload_n 0, 1) := by decide +kernel
theorem dL_law_261 : decode cL_law 261 = .ok (.iload_n 3, 1) := by decide +kernel
theorem dL_law_262 : decode cL_law 262 = .ok (.iconst 2, 1) := by decide +kernel
theorem dL_law_263 : decode cL_law 263 = .ok (.iadd, 1) := by decide +kernel
theorem dL_law_264 : decode cL_law 264 = .ok (.iaload, 1) := by decide +kernel
theorem dL_law_265 : decode cL_law 265 = .ok (.invokevirtual 22, 3) := by decide +kernel
theorem dL_law_268 : decode cL_law 268 = .ok (.aload_n 2, 1) := by decide +kernel
theorem dL_law_269 : decode cL_law 269 = .ok (.aload_n 0, 1) := by decide +kernel
theorem dL_law_270 : decode cL_law 270 = .ok (.iload_n 3, 1) := by decide +kernel
theorem dL_law_271 : decode cL_law 271 = .ok (.iconst 1, 1) := by decide +kernel
theorem dL_law_272 : decode cL_law 272 = .ok (.iadd, 1) := by decide +kernel
theorem dL_law_273 : decode cL_law 273 = .ok (.iaload, 1) := by decide +kernel
theorem dL_law_274 : decode cL_law 274 = .ok (.aload_n 0, 1) := by decide +kernel
theorem dL_law_275 : decode cL_law 275 = .ok (.iload_n 3, 1) := by decide +kernel
theorem dL_law_276 : decode cL_law 276 = .ok (.iconst 2, 1) := by decide +kernel
theorem dL_law_277 : decode cL_law 277 = .ok (.iadd, 1) := by decide +kernel
theorem dL_law_278 : decode cL_law 278 = .ok (.iaload, 1) := by decide +kernel
theorem dL_law_279 : decode cL_law 279 = .ok (.invokevirtual 25, 3) := by decide +kernel
theorem dL_law_282 : decode cL_law 282 = .ok (.if_icmp .eq 733, 3) := by decide +kernel
theorem dL_law_285 : decode cL_law 285 = .ok (.iconst 0, 1) := by decide +kernel
theorem dL_law_286 : decode cL_law 286 = .ok (.ireturn, 1) := by decide +kernel
theorem dL_law_287 : decode cL_law 287 = .ok (.aload_n 1, 1) := by decide +kernel
theorem dL_law_288 : decode cL_law 288 = .ok (.aload_n 0, 1) := by decide +kernel
theorem dL_law_289 : decode cL_law 289 = .ok (.iload_n 3, 1) := by decide +kernel
theorem dL_law_290 : decode cL_law 290 = .ok (.iconst 1, 1) := by decide +kernel
theorem dL_law_291 : decode cL_law 291 = .ok (.iadd, 1) := by decide +kernel
theorem dL_law_292 : decode cL_law 292 = .ok (.iaload, 1) := by decide +kernel
theorem dL_law_293 : decode cL_law 293 = .ok (.invokevirtual 26, 3) := by decide +kernel
theorem dL_law_296 : decode cL_law 296 = .ok (.aload_n 2, 1) := by decide +kernel
theorem dL_law_297 : decode cL_law 297 = .ok (.aload_n 0, 1) := by decide +kernel
theorem dL_law_298 : decode cL_law 298 = .ok (.iload_n 3, 1) := by decide +kernel
theorem dL_law_299 : decode cL_law 299 = .ok (.iconst 1, 1) := by decide +kernel
theorem dL_law_300 : decode cL_law 300 = .ok (.iadd, 1) := by decide +kernel
theorem dL_law_301 : decode cL_law 301 = .ok (.iaload, 1) := by decide +kernel
theorem dL_law_302 : decode cL_law 302 = .ok (.invokevirtual 30, 3) := by decide +kernel
theorem dL_law_305 : decode cL_law 305 = .ok (.if_icmp .eq 710, 3) := by decide +kernel
theorem dL_law_308 : decode cL_law 308 = .ok (.iconst 0, 1) := by decide +kernel
theorem dL_law_309 : decode cL_law 309 = .ok (.ireturn, 1) := by decide +kernel
theorem dL_law_310 : decode cL_law 310 = .ok (.aload_n 1, 1) := by decide +kernel
theorem dL_law_311 : decode cL_law 311 = .ok (.aload_n 0, 1) := by decide +kernel
theorem dL_law_312 : decode cL_law 312 = .ok (.iload_n 3, 1) := by decide +kernel
theorem dL_law_313 : decode cL_law 313 = .ok (.iconst 1, 1) := by decide +kernel
theorem dL_law_314 : decode cL_law 314 = .ok (.iadd, 1) := by decide +kernel
theorem dL_law_315 : decode cL_law 315 = .ok (.iaload, 1) := by decide +kernel
theorem dL_law_316 : decode cL_law 316 = .ok (.aload_n 0, 1) := by decide +kernel
theorem dL_law_317 : decode cL_law 317 = .ok (.iload_n 3, 1) := by decide +kernel
theorem dL_law_318 : decode cL_law 318 = .ok (.iconst 2, 1) := by decide +kernel
theorem dL_law_319 : decode cL_law 319 = .ok (.iadd, 1) := by decide +kernel
theorem dL_law_320 : decode cL_law 320 = .ok (.iaload, 1) := by decide +kernel
theorem dL_law_321 : decode cL_law 321 = .ok (.invokevirtual 31, 3) := by decide +kernel
theorem dL_law_324 : decode cL_law 324 = .ok (.aload_n 2, 1) := by decide +kernel
theorem dL_law_325 : decode cL_law 325 = .ok (.aload_n 0, 1) := by decide +kernel
theorem dL_law_326 : decode cL_law 326 = .ok (.iload_n 3, 1) := by decide +kernel
theorem dL_law_327 : decode cL_law 327 = .ok (.iconst 1, 1) := by decide +kernel
theorem dL_law_328 : decode cL_law 328 = .ok (.iadd, 1) := by decide +kernel
theorem dL_law_329 : decode cL_law 329 = .ok (.iaload, 1) := by decide +kernel
theorem dL_law_330 : decode cL_law 330 = .ok (.aload_n 0, 1) := by decide +kernel
theorem dL_law_331 : decode cL_law 331 = .ok (.iload_n 3, 1) := by decide +kernel
theorem dL_law_332 : decode cL_law 332 = .ok (.iconst 2, 1) := by decide +kernel
theorem dL_law_333 : decode cL_law 333 = .ok (.iadd, 1) := by decide +kernel
theorem dL_law_334 : decode cL_law 334 = .ok (.iaload, 1) := by decide +kernel
theorem dL_law_335 : decode cL_law 335 = .ok (.invokevirtual 34, 3) := by decide +kernel
theorem dL_law_338 : decode cL_law 338 = .ok (.if_icmp .eq 677, 3) := by decide +kernel
theorem dL_law_341 : decode cL_law 341 = .ok (.iconst 0, 1) := by decide +kernel
theorem dL_law_342 : decode cL_law 342 = .ok (.ireturn, 1) := by decide +kernel
theorem dL_law_343 : decode cL_law 343 = .ok (.aload_n 1, 1) := by decide +kernel
theorem dL_law_344 : decode cL_law 344 = .ok (.invokevirtual 35, 3) := by decide +kernel
theorem dL_law_347 : decode cL_law 347 = .ok (.aload_n 2, 1) := by decide +kernel
theorem dL_law_348 : decode cL_law 348 = .ok (.invokevirtual 39, 3) := by decide +kernel
theorem dL_law_351 : decode cL_law 351 = .ok (.if_icmp .eq 664, 3) := by decide +kernel
theorem dL_law_354 : decode cL_law 354 = .ok (.iconst 0, 1) := by decide +kernel
theorem dL_law_355 : decode cL_law 355 = .ok (.ireturn, 1) := by decide +kernel
theorem dL_law_356 : decode cL_law 356 = .ok (.aload_n 1, 1) := by decide +kernel
theorem dL_law_357 : decode cL_law 357 = .ok (.aload_n 0, 1) := by decide +kernel
theorem dL_law_358 : decode cL_law 358 = .ok (.iload_n 3, 1) := by decide +kernel
theorem dL_law_359 : decode cL_law 359 = .ok (.iconst 1, 1) := by decide +kernel
theorem dL_law_360 : decode cL_law 360 = .ok (.iadd, 1) := by decide +kernel
theorem dL_law_361 : decode cL_law 361 = .ok (.iaload, 1) := by decide +kernel
theorem dL_law_362 : decode cL_law 362 = .ok (.invokevirtual 40, 3) := by decide +kernel
theorem dL_law_365 : decode cL_law 365 = .ok (.aload_n 2, 1) := by decide +kernel
theorem dL_law_366 : decode cL_law 366 = .ok (.aload_n 0, 1) := by decide +kernel
theorem dL_law_367 : decode cL_law 367 = .ok (.iload_n 3, 1) := by decide +kernel
theorem dL_law_368 : decode cL_law 368 = .ok (.iconst 1, 1) := by decide +kernel
theorem dL_law_369 : decode cL_law 369 = .ok (.iadd, 1) := by decide +kernel
theorem dL_law_370 : decode cL_law 370 = .ok (.iaload, 1) := by decide +kernel
theorem dL_law_371 : decode cL_law 371 = .ok (.invokevirtual 43, 3) := by decide +kernel
theorem dL_law_374 : decode cL_law 374 = .ok (.if_icmp .eq 641, 3) := by decide +kernel
theorem dL_law_377 : decode cL_law 377 = .ok (.iconst 0, 1) := by decide +kernel
theorem dL_law_378 : decode cL_law 378 = .ok (.ireturn, 1) := by decide +kernel
theorem dL_law_379 : decode cL_law 379 = .ok (.aload_n 1, 1) := by decide +kernel
theorem dL_law_380 : decode cL_law 380 = .ok (.invokevirtual 44, 3) := by decide +kernel
theorem dL_law_383 : decode cL_law 383 = .ok (.aload_n 2, 1) := by decide +kernel
theorem dL_law_384 : decode cL_law 384 = .ok (.invokevirtual 47, 3) := by decide +kernel
theorem dL_law_387 : decode cL_law 387 = .ok (.if_icmp .eq 628, 3) := by decide +kernel
theorem dL_law_390 : decode cL_law 390 = .ok (.iconst 0, 1) := by decide +kernel
theorem dL_law_391 : decode cL_law 391 = .ok (.ireturn, 1) := by decide +kernel
theorem dL_law_392 : decode cL_law 392 = .ok (.aload_n 1, 1) := by decide +kernel
theorem dL_law_393 : decode cL_law 393 = .ok (.invokevirtual 48, 3) := by decide +kernel
theorem dL_law_396 : decode cL_law 396 = .ok (.aload_n 2, 1) := by decide +kernel
theorem dL_law_397 : decode cL_law 397 = .ok (.invokevirtual 51, 3) := by decide +kernel
theorem dL_law_400 : decode cL_law 400 = .ok (.if_icmp .eq 615, 3) := by decide +kernel
theorem dL_law_403 : decode cL_law 403 = .ok (.iconst 0, 1) := by decide +kernel
theorem dL_law_404 : decode cL_law 404 = .ok (.ireturn, 1) := by decide +kernel
theorem dL_law_405 : decode cL_law 405 = .ok (.aload_n 1, 1) := by decide +kernel
theorem dL_law_406 : decode cL_law 406 = .ok (.aload_n 0, 1) := by decide +kernel
theorem dL_law_407 : decode cL_law 407 = .ok (.iload_n 3, 1) := by decide +kernel
theorem dL_law_408 : decode cL_law 408 = .ok (.iconst 1, 1) := by decide +kernel
theorem dL_law_409 : decode cL_law 409 = .ok (.iadd, 1) := by decide +kernel
theorem dL_law_410 : decode cL_law 410 = .ok (.iaload, 1) := by decide +kernel
theorem dL_law_411 : decode cL_law 411 = .ok (.aload_n 0, 1) := by decide +kernel
theorem dL_law_412 : decode cL_law 412 = .ok (.iload_n 3, 1) := by decide +kernel
theorem dL_law_413 : decode cL_law 413 = .ok (.iconst 2, 1) := by decide +kernel
theorem dL_law_414 : decode cL_law 414 = .ok (.iadd, 1) := by decide +kernel
theorem dL_law_415 : decode cL_law 415 = .ok (.iaload, 1) := by decide +kernel
theorem dL_law_416 : decode cL_law 416 = .ok (.invokevirtual 52, 3) := by decide +kernel
theorem dL_law_419 : decode cL_law 419 = .ok (.aload_n 2, 1) := by decide +kernel
theorem dL_law_420 : decode cL_law 420 = .ok (.aload_n 0, 1) := by decide +kernel
theorem dL_law_421 : decode cL_law 421 = .ok (.iload_n 3, 1) := by decide +kernel
theorem dL_law_422 : decode cL_law 422 = .ok (.iconst 1, 1) := by decide +kernel
theorem dL_law_423 : decode cL_law 423 = .ok (.iadd, 1) := by decide +kernel
theorem dL_law_424 : decode cL_law 424 = .ok (.iaload, 1) := by decide +kernel
theorem dL_law_425 : decode cL_law 425 = .ok (.aload_n 0, 1) := by decide +kernel
theorem dL_law_426 : decode cL_law 426 = .ok (.iload_n 3, 1) := by decide +kernel
theorem dL_law_427 : decode cL_law 427 = .ok (.iconst 2, 1) := by decide +kernel
theorem dL_law_428 : decode cL_law 428 = .ok (.iadd, 1) := by decide +kernel
theorem dL_law_429 : decode cL_law 429 = .ok (.iaload, 1) := by decide +kernel
theorem dL_law_430 : decode cL_law 430 = .ok (.invokevirtual 55, 3) := by decide +kernel
theorem dL_law_433 : decode cL_law 433 = .ok (.if_icmp .eq 582, 3) := by decide +kernel
theorem dL_law_436 : decode cL_law 436 = .ok (.iconst 0, 1) := by decide +kernel
theorem dL_law_437 : decode cL_law 437 = .ok (.ireturn, 1) := by decide +kernel
theorem dL_law_438 : decode cL_law 438 = .ok (.aload_n 1, 1) := by decide +kernel
theorem dL_law_439 : decode cL_law 439 = .ok (.aload_n 0, 1) := by decide +kernel
theorem dL_law_440 : decode cL_law 440 = .ok (.iload_n 3, 1) := by decide +kernel
theorem dL_law_441 : decode cL_law 441 = .ok (.iconst 1, 1) := by decide +kernel
theorem dL_law_442 : decode cL_law 442 = .ok (.iadd, 1) := by decide +kernel
theorem dL_law_443 : decode cL_law 443 = .ok (.iaload, 1) := by decide +kernel
theorem dL_law_444 : decode cL_law 444 = .ok (.aload_n 0, 1) := by decide +kernel
theorem dL_law_445 : decode cL_law 445 = .ok (.iload_n 3, 1) := by decide +kernel
theorem dL_law_446 : decode cL_law 446 = .ok (.iconst 2, 1) := by decide +kernel
theorem dL_law_447 : decode cL_law 447 = .ok (.iadd, 1) := by decide +kernel
theorem dL_law_448 : decode cL_law 448 = .ok (.iaload, 1) := by decide +kernel
theorem dL_law_449 : decode cL_law 449 = .ok (.invokevirtual 56, 3) := by decide +kernel
theorem dL_law_452 : decode cL_law 452 = .ok (.aload_n 2, 1) := by decide +kernel
theorem dL_law_453 : decode cL_law 453 = .ok (.aload_n 0, 1) := by decide +kernel
theorem dL_law_454 : decode cL_law 454 = .ok (.iload_n 3, 1) := by decide +kernel
theorem dL_law_455 : decode cL_law 455 = .ok (.iconst 1, 1) := by decide +kernel
theorem dL_law_456 : decode cL_law 456 = .ok (.iadd, 1) := by decide +kernel
theorem dL_law_457 : decode cL_law 457 = .ok (.iaload, 1) := by decide +kernel
theorem dL_law_458 : decode cL_law 458 = .ok (.aload_n 0, 1) := by decide +kernel
theorem dL_law_459 : decode cL_law 459 = .ok (.iload_n 3, 1) := by decide +kernel
theorem dL_law_460 : decode cL_law 460 = .ok (.iconst 2, 1) := by decide +kernel
theorem dL_law_461 : decode cL_law 461 = .ok (.iadd, 1) := by decide +kernel
theorem dL_law_462 : decode cL_law 462 = .ok (.iaload, 1) := by decide +kernel
theorem dL_law_463 : decode cL_law 463 = .ok (.invokevirtual 59, 3) := by decide +kernel
theorem dL_law_466 : decode cL_law 466 = .ok (.if_icmp .eq 549, 3) := by decide +kernel
theorem dL_law_469 : decode cL_law 469 = .ok (.iconst 0, 1) := by decide +kernel
theorem dL_law_470 : decode cL_law 470 = .ok (.ireturn, 1) := by decide +kernel
theorem dL_law_471 : decode cL_law 471 = .ok (.aload_n 1, 1) := by decide +kernel
theorem dL_law_472 : decode cL_law 472 = .ok (.aload_n 0, 1) := by decide +kernel
theorem dL_law_473 : decode cL_law 473 = .ok (.iload_n 3, 1) := by decide +kernel
theorem dL_law_474 : decode cL_law 474 = .ok (.iconst 1, 1) := by decide +kernel
theorem dL_law_475 : decode cL_law 475 = .ok (.iadd, 1) := by decide +kernel
theorem dL_law_476 : decode cL_law 476 = .ok (.iaload, 1) := by decide +kernel
theorem dL_law_477 : decode cL_law 477 = .ok (.invokevirtual 60, 3) := by decide +kernel
theorem dL_law_480 : decode cL_law 480 = .ok (.aload_n 2, 1) := by decide +kernel
theorem dL_law_481 : decode cL_law 481 = .ok (.aload_n 0, 1) := by decide +kernel
theorem dL_law_482 : decode cL_law 482 = .ok (.iload_n 3, 1) := by decide +kernel
theorem dL_law_483 : decode cL_law 483 = .ok (.iconst 1, 1) := by decide +kernel
theorem dL_law_484 : decode cL_law 484 = .ok (.iadd, 1) := by decide +kernel
theorem dL_law_485 : decode cL_law 485 = .ok (.iaload, 1) := by decide +kernel
theorem dL_law_486 : decode cL_law 486 = .ok (.invokevirtual 63, 3) := by decide +kernel
theorem dL_law_489 : decode cL_law 489 = .ok (.if_icmp .eq 526, 3) := by decide +kernel
theorem dL_law_492 : decode cL_law 492 = .ok (.iconst 0, 1) := by decide +kernel
theorem dL_law_493 : decode cL_law 493 = .ok (.ireturn, 1) := by decide +kernel
theorem dL_law_494 : decode cL_law 494 = .ok (.aload_n 1, 1) := by decide +kernel
theorem dL_law_495 : decode cL_law 495 = .ok (.invokevirtual 64, 3) := by decide +kernel
theorem dL_law_498 : decode cL_law 498 = .ok (.aload_n 2, 1) := by decide +kernel
theorem dL_law_499 : decode cL_law 499 = .ok (.invokevirtual 67, 3) := by decide +kernel
theorem dL_law_502 : decode cL_law 502 = .ok (.if_icmp .eq 513, 3) := by decide +kernel
theorem dL_law_505 : decode cL_law 505 = .ok (.iconst 0, 1) := by decide +kernel
theorem dL_law_506 : decode cL_law 506 = .ok (.ireturn, 1) := by decide +kernel
theorem dL_law_507 : decode cL_law 507 = .ok (.aload_n 1, 1) := by decide +kernel
theorem dL_law_508 : decode cL_law 508 = .ok (.aload_n 0, 1) := by decide +kernel
theorem dL_law_509 : decode cL_law 509 = .ok (.iload_n 3, 1) := by decide +kernel
theorem dL_law_510 : decode cL_law 510 = .ok (.iconst 1, 1) := by decide +kernel
theorem dL_law_511 : decode cL_law 511 = .ok (.iadd, 1) := by decide +kernel
theorem dL_law_512 : decode cL_law 512 = .ok (.iaload, 1) := by decide +kernel
theorem dL_law_513 : decode cL_law 513 = .ok (.invokevirtual 68, 3) := by decide +kernel
theorem dL_law_516 : decode cL_law 516 = .ok (.aload_n 2, 1) := by decide +kernel
theorem dL_law_517 : decode cL_law 517 = .ok (.aload_n 0, 1) := by decide +kernel
theorem dL_law_518 : decode cL_law 518 = .ok (.iload_n 3, 1) := by decide +kernel
theorem dL_law_519 : decode cL_law 519 = .ok (.iconst 1, 1) := by decide +kernel
theorem dL_law_520 : decode cL_law 520 = .ok (.iadd, 1) := by decide +kernel
theorem dL_law_521 : decode cL_law 521 = .ok (.iaload, 1) := by decide +kernel
theorem dL_law_522 : decode cL_law 522 = .ok (.invokevirtual 71, 3) := by decide +kernel
theorem dL_law_525 : decode cL_law 525 = .ok (.if_icmp .eq 490, 3) := by decide +kernel
theorem dL_law_528 : decode cL_law 528 = .ok (.iconst 0, 1) := by decide +kernel
theorem dL_law_529 : decode cL_law 529 = .ok (.ireturn, 1) := by decide +kernel
theorem dL_law_530 : decode cL_law 530 = .ok (.aload_n 1, 1) := by decide +kernel
theorem dL_law_531 : decode cL_law 531 = .ok (.invokevirtual 72, 3) := by decide +kernel
theorem dL_law_534 : decode cL_law 534 = .ok (.aload_n 2, 1) := by decide +kernel
theorem dL_law_535 : decode cL_law 535 = .ok (.invokevirtual 75, 3) := by decide +kernel
theorem dL_law_538 : decode cL_law 538 = .ok (.if_icmp .eq 477, 3) := by decide +kernel
theorem dL_law_541 : decode cL_law 541 = .ok (.iconst 0, 1) := by decide +kernel
theorem dL_law_542 : decode cL_law 542 = .ok (.ireturn, 1) := by decide +kernel
theorem dL_law_543 : decode cL_law 543 = .ok (.aload_n 1, 1) := by decide +kernel
theorem dL_law_544 : decode cL_law 544 = .ok (.invokevirtual 76, 3) := by decide +kernel
theorem dL_law_547 : decode cL_law 547 = .ok (.aload_n 2, 1) := by decide +kernel
theorem dL_law_548 : decode cL_law 548 = .ok (.invokevirtual 79, 3) := by decide +kernel
theorem dL_law_551 : decode cL_law 551 = .ok (.if_icmp .eq 464, 3) := by decide +kernel
theorem dL_law_554 : decode cL_law 554 = .ok (.iconst 0, 1) := by decide +kernel
theorem dL_law_555 : decode cL_law 555 = .ok (.ireturn, 1) := by decide +kernel
theorem dL_law_556 : decode cL_law 556 = .ok (.aload_n 1, 1) := by decide +kernel
theorem dL_law_557 : decode cL_law 557 = .ok (.aload_n 0, 1) := by decide +kernel
theorem dL_law_558 : decode cL_law 558 = .ok (.iload_n 3, 1) := by decide +kernel
theorem dL_law_559 : decode cL_law 559 = .ok (.iconst 1, 1) := by decide +kernel
theorem dL_law_560 : decode cL_law 560 = .ok (.iadd, 1) := by decide +kernel
theorem dL_law_561 : decode cL_law 561 = .ok (.iaload, 1) := by decide +kernel
theorem dL_law_562 : decode cL_law 562 = .ok (.invokevirtual 80, 3) := by decide +kernel
theorem dL_law_565 : decode cL_law 565 = .ok (.aload_n 2, 1) := by decide +kernel
theorem dL_law_566 : decode cL_law 566 = .ok (.aload_n 0, 1) := by decide +kernel
theorem dL_law_567 : decode cL_law 567 = .ok (.iload_n 3, 1) := by decide +kernel
theorem dL_law_568 : decode cL_law 568 = .ok (.iconst 1, 1) := by decide +kernel
theorem dL_law_569 : decode cL_law 569 = .ok (.iadd, 1) := by decide +kernel
theorem dL_law_570 : decode cL_law 570 = .ok (.iaload, 1) := by decide +kernel
theorem dL_law_571 : decode cL_law 571 = .ok (.invokevirtual 83, 3) := by decide +kernel
theorem dL_law_574 : decode cL_law 574 = .ok (.if_icmp .eq 441, 3) := by decide +kernel
theorem dL_law_577 : decode cL_law 577 = .ok (.iconst 0, 1) := by decide +kernel
theorem dL_law_578 : decode cL_law 578 = .ok (.ireturn, 1) := by decide +kernel
theorem dL_law_579 : decode cL_law 579 = .ok (.aload_n 1, 1) := by decide +kernel
theorem dL_law_580 : decode cL_law 580 = .ok (.aload_n 0, 1) := by decide +kernel
theorem dL_law_581 : decode cL_law 581 = .ok (.iload_n 3, 1) := by decide +kernel
theorem dL_law_582 : decode cL_law 582 = .ok (.iconst 1, 1) := by decide +kernel
theorem dL_law_583 : decode cL_law 583 = .ok (.iadd, 1) := by decide +kernel
theorem dL_law_584 : decode cL_law 584 = .ok (.iaload, 1) := by decide +kernel
theorem dL_law_585 : decode cL_law 585 = .ok (.aload_n 0, 1) := by decide +kernel
theorem dL_law_586 : decode cL_law 586 = .ok (.iload_n 3, 1) := by decide +kernel
theorem dL_law_587 : decode cL_law 587 = .ok (.iconst 2, 1) := by decide +kernel
theorem dL_law_588 : decode cL_law 588 = .ok (.iadd, 1) := by decide +kernel
theorem dL_law_589 : decode cL_law 589 = .ok (.iaload, 1) := by decide +kernel
theorem dL_law_590 : decode cL_law 590 = .ok (.invokevirtual 84, 3) := by decide +kernel
theorem dL_law_593 : decode cL_law 593 = .ok (.aload_n 2, 1) := by decide +kernel
theorem dL_law_594 : decode cL_law 594 = .ok (.aload_n 0, 1) := by decide +kernel
theorem dL_law_595 : decode cL_law 595 = .ok (.iload_n 3, 1) := by decide +kernel
theorem dL_law_596 : decode cL_law 596 = .ok (.iconst 1, 1) := by decide +kernel
theorem dL_law_597 : decode cL_law 597 = .ok (.iadd, 1) := by decide +kernel
theorem dL_law_598 : decode cL_law 598 = .ok (.iaload, 1) := by decide +kernel
theorem dL_law_599 : decode cL_law 599 = .ok (.aload_n 0, 1) := by decide +kernel
theorem dL_law_600 : decode cL_law 600 = .ok (.iload_n 3, 1) := by decide +kernel
theorem dL_law_601 : decode cL_law 601 = .ok (.iconst 2, 1) := by decide +kernel
theorem dL_law_602 : decode cL_law 602 = .ok (.iadd, 1) := by decide +kernel
theorem dL_law_603 : decode cL_law 603 = .ok (.iaload, 1) := by decide +kernel
theorem dL_law_604 : decode cL_law 604 = .ok (.invokevirtual 87, 3) := by decide +kernel
theorem dL_law_607 : decode cL_law 607 = .ok (.if_icmp .eq 408, 3) := by decide +kernel
theorem dL_law_610 : decode cL_law 610 = .ok (.iconst 0, 1) := by decide +kernel
theorem dL_law_611 : decode cL_law 611 = .ok (.ireturn, 1) := by decide +kernel
theorem dL_law_612 : decode cL_law 612 = .ok (.aload_n 1, 1) := by decide +kernel
theorem dL_law_613 : decode cL_law 613 = .ok (.invokevirtual 88, 3) := by decide +kernel
theorem dL_law_616 : decode cL_law 616 = .ok (.aload_n 2, 1) := by decide +kernel
theorem dL_law_617 : decode cL_law 617 = .ok (.invokevirtual 91, 3) := by decide +kernel
theorem dL_law_620 : decode cL_law 620 = .ok (.if_icmp .eq 395, 3) := by decide +kernel
theorem dL_law_623 : decode cL_law 623 = .ok (.iconst 0, 1) := by decide +kernel
theorem dL_law_624 : decode cL_law 624 = .ok (.ireturn, 1) := by decide +kernel
theorem dL_law_625 : decode cL_law 625 = .ok (.aload_n 1, 1) := by decide +kernel
theorem dL_law_626 : decode cL_law 626 = .ok (.aload_n 0, 1) := by decide +kernel
theorem dL_law_627 : decode cL_law 627 = .ok (.iload_n 3, 1) := by decide +kernel
theorem dL_law_628 : decode cL_law 628 = .ok (.iconst 1, 1) := by decide +kernel
theorem dL_law_629 : decode cL_law 629 = .ok (.iadd, 1) := by decide +kernel
theorem dL_law_630 : decode cL_law 630 = .ok (.iaload, 1) := by decide +kernel
theorem dL_law_631 : decode cL_law 631 = .ok (.invokevirtual 92, 3) := by decide +kernel
theorem dL_law_634 : decode cL_law 634 = .ok (.aload_n 2, 1) := by decide +kernel
theorem dL_law_635 : decode cL_law 635 = .ok (.aload_n 0, 1) := by decide +kernel
theorem dL_law_636 : decode cL_law 636 = .ok (.iload_n 3, 1) := by decide +kernel
theorem dL_law_637 : decode cL_law 637 = .ok (.iconst 1, 1) := by decide +kernel
theorem dL_law_638 : decode cL_law 638 = .ok (.iadd, 1) := by decide +kernel
theorem dL_law_639 : decode cL_law 639 = .ok (.iaload, 1) := by decide +kernel
theorem dL_law_640 : decode cL_law 640 = .ok (.invokevirtual 95, 3) := by decide +kernel
theorem dL_law_643 : decode cL_law 643 = .ok (.if_icmp .eq 372, 3) := by decide +kernel
theorem dL_law_646 : decode cL_law 646 = .ok (.iconst 0, 1) := by decide +kernel
theorem dL_law_647 : decode cL_law 647 = .ok (.ireturn, 1) := by decide +kernel
theorem dL_law_648 : decode cL_law 648 = .ok (.aload_n 1, 1) := by decide +kernel
theorem dL_law_649 : decode cL_law 649 = .ok (.aload_n 0, 1) := by decide +kernel
theorem dL_law_650 : decode cL_law 650 = .ok (.iload_n 3, 1) := by decide +kernel
theorem dL_law_651 : decode cL_law 651 = .ok (.iconst 1, 1) := by decide +kernel
theorem dL_law_652 : decode cL_law 652 = .ok (.iadd, 1) := by decide +kernel
theorem dL_law_653 : decode cL_law 653 = .ok (.iaload, 1) := by decide +kernel
theorem dL_law_654 : decode cL_law 654 = .ok (.aload_n 0, 1) := by decide +kernel
theorem dL_law_655 : decode cL_law 655 = .ok (.iload_n 3, 1) := by decide +kernel
theorem dL_law_656 : decode cL_law 656 = .ok (.iconst 2, 1) := by decide +kernel
theorem dL_law_657 : decode cL_law 657 = .ok (.iadd, 1) := by decide +kernel
theorem dL_law_658 : decode cL_law 658 = .ok (.iaload, 1) := by decide +kernel
theorem dL_law_659 : decode cL_law 659 = .ok (.invokevirtual 96, 3) := by decide +kernel
theorem dL_law_662 : decode cL_law 662 = .ok (.aload_n 2, 1) := by decide +kernel
theorem dL_law_663 : decode cL_law 663 = .ok (.aload_n 0, 1) := by decide +kernel
theorem dL_law_664 : decode cL_law 664 = .ok (.iload_n 3, 1) := by decide +kernel
theorem dL_law_665 : decode cL_law 665 = .ok (.iconst 1, 1) := by decide +kernel
theorem dL_law_666 : decode cL_law 666 = .ok (.iadd, 1) := by decide +kernel
theorem dL_law_667 : decode cL_law 667 = .ok (.iaload, 1) := by decide +kernel
theorem dL_law_668 : decode cL_law 668 = .ok (.aload_n 0, 1) := by decide +kernel
theorem dL_law_669 : decode cL_law 669 = .ok (.iload_n 3, 1) := by decide +kernel
theorem dL_law_670 : decode cL_law 670 = .ok (.iconst 2, 1) := by decide +kernel
theorem dL_law_671 : decode cL_law 671 = .ok (.iadd, 1) := by decide +kernel
theorem dL_law_672 : decode cL_law 672 = .ok (.iaload, 1) := by decide +kernel
theorem dL_law_673 : decode cL_law 673 = .ok (.invokevirtual 99, 3) := by decide +kernel
theorem dL_law_676 : decode cL_law 676 = .ok (.if_icmp .eq 339, 3) := by decide +kernel
theorem dL_law_679 : decode cL_law 679 = .ok (.iconst 0, 1) := by decide +kernel
theorem dL_law_680 : decode cL_law 680 = .ok (.ireturn, 1) := by decide +kernel
theorem dL_law_681 : decode cL_law 681 = .ok (.aload_n 1, 1) := by decide +kernel
theorem dL_law_682 : decode cL_law 682 = .ok (.aload_n 0, 1) := by decide +kernel
theorem dL_law_683 : decode cL_law 683 = .ok (.iload_n 3, 1) := by decide +kernel
theorem dL_law_684 : decode cL_law 684 = .ok (.iconst 1, 1) := by decide +kernel
theorem dL_law_685 : decode cL_law 685 = .ok (.iadd, 1) := by decide +kernel
theorem dL_law_686 : decode cL_law 686 = .ok (.iaload, 1) := by decide +kernel
theorem dL_law_687 : decode cL_law 687 = .ok (.invokevirtual 100, 3) := by decide +kernel
theorem dL_law_690 : decode cL_law 690 = .ok (.aload_n 2, 1) := by decide +kernel
theorem dL_law_691 : decode cL_law 691 = .ok (.aload_n 0, 1) := by decide +kernel
theorem dL_law_692 : decode cL_law 692 = .ok (.iload_n 3, 1) := by decide +kernel
theorem dL_law_693 : decode cL_law 693 = .ok (.iconst 1, 1) := by decide +kernel
theorem dL_law_694 : decode cL_law 694 = .ok (.iadd, 1) := by decide +kernel
theorem dL_law_695 : decode cL_law 695 = .ok (.iaload, 1) := by decide +kernel
theorem dL_law_696 : decode cL_law 696 = .ok (.invokevirtual 103, 3) := by decide +kernel
theorem dL_law_699 : decode cL_law 699 = .ok (.if_icmp .eq 316, 3) := by decide +kernel
theorem dL_law_702 : decode cL_law 702 = .ok (.iconst 0, 1) := by decide +kernel
theorem dL_law_703 : decode cL_law 703 = .ok (.ireturn, 1) := by decide +kernel
theorem dL_law_704 : decode cL_law 704 = .ok (.aload_n 1, 1) := by decide +kernel
theorem dL_law_705 : decode cL_law 705 = .ok (.invokevirtual 104, 3) := by decide +kernel
theorem dL_law_708 : decode cL_law 708 = .ok (.aload_n 2, 1) := by decide +kernel
theorem dL_law_709 : decode cL_law 709 = .ok (.invokevirtual 107, 3) := by decide +kernel
theorem dL_law_712 : decode cL_law 712 = .ok (.if_icmp .eq 303, 3) := by decide +kernel
theorem dL_law_715 : decode cL_law 715 = .ok (.iconst 0, 1) := by decide +kernel
theorem dL_law_716 : decode cL_law 716 = .ok (.ireturn, 1) := by decide +kernel
theorem dL_law_717 : decode cL_law 717 = .ok (.aload_n 1, 1) := by decide +kernel
theorem dL_law_718 : decode cL_law 718 = .ok (.aload_n 0, 1) := by decide +kernel
theorem dL_law_719 : decode cL_law 719 = .ok (.iload_n 3, 1) := by decide +kernel
theorem dL_law_720 : decode cL_law 720 = .ok (.iconst 1, 1) := by decide +kernel
theorem dL_law_721 : decode cL_law 721 = .ok (.iadd, 1) := by decide +kernel
theorem dL_law_722 : decode cL_law 722 = .ok (.iaload, 1) := by decide +kernel
theorem dL_law_723 : decode cL_law 723 = .ok (.aload_n 0, 1) := by decide +kernel
theorem dL_law_724 : decode cL_law 724 = .ok (.iload_n 3, 1) := by decide +kernel
theorem dL_law_725 : decode cL_law 725 = .ok (.iconst 2, 1) := by decide +kernel
theorem dL_law_726 : decode cL_law 726 = .ok (.iadd, 1) := by decide +kernel
theorem dL_law_727 : decode cL_law 727 = .ok (.iaload, 1) := by decide +kernel
theorem dL_law_728 : decode cL_law 728 = .ok (.aload_n 0, 1) := by decide +kernel
theorem dL_law_729 : decode cL_law 729 = .ok (.iload_n 3, 1) := by decide +kernel
theorem dL_law_730 : decode cL_law 730 = .ok (.iconst 3, 1) := by decide +kernel
theorem dL_law_731 : decode cL_law 731 = .ok (.iadd, 1) := by decide +kernel
theorem dL_law_732 : decode cL_law 732 = .ok (.iaload, 1) := by decide +kernel
theorem dL_law_733 : decode cL_law 733 = .ok (.invokevirtual 108, 3) := by decide +kernel
theorem dL_law_736 : decode cL_law 736 = .ok (.aload_n 2, 1) := by decide +kernel
theorem dL_law_737 : decode cL_law 737 = .ok (.aload_n 0, 1) := by decide +kernel
theorem dL_law_738 : decode cL_law 738 = .ok (.iload_n 3, 1) := by decide +kernel
theorem dL_law_739 : decode cL_law 739 = .ok (.iconst 1, 1) := by decide +kernel
theorem dL_law_740 : decode cL_law 740 = .ok (.iadd, 1) := by decide +kernel
theorem dL_law_741 : decode cL_law 741 = .ok (.iaload, 1) := by decide +kernel
theorem dL_law_742 : decode cL_law 742 = .ok (.aload_n 0, 1) := by decide +kernel
theorem dL_law_743 : decode cL_law 743 = .ok (.iload_n 3, 1) := by decide +kernel
theorem dL_law_744 : decode cL_law 744 = .ok (.iconst 2, 1) := by decide +kernel
theorem dL_law_745 : decode cL_law 745 = .ok (.iadd, 1) := by decide +kernel
theorem dL_law_746 : decode cL_law 746 = .ok (.iaload, 1) := by decide +kernel
theorem dL_law_747 : decode cL_law 747 = .ok (.aload_n 0, 1) := by decide +kernel
theorem dL_law_748 : decode cL_law 748 = .ok (.iload_n 3, 1) := by decide +kernel
theorem dL_law_749 : decode cL_law 749 = .ok (.iconst 3, 1) := by decide +kernel
theorem dL_law_750 : decode cL_law 750 = .ok (.iadd, 1) := by decide +kernel
theorem dL_law_751 : decode cL_law 751 = .ok (.iaload, 1) := by decide +kernel
theorem dL_law_752 : decode cL_law 752 = .ok (.invokevirtual 112, 3) := by decide +kernel
theorem dL_law_755 : decode cL_law 755 = .ok (.if_icmp .eq 260, 3) := by decide +kernel
theorem dL_law_758 : decode cL_law 758 = .ok (.iconst 0, 1) := by decide +kernel
theorem dL_law_759 : decode cL_law 759 = .ok (.ireturn, 1) := by decide +kernel
theorem dL_law_760 : decode cL_law 760 = .ok (.aload_n 1, 1) := by decide +kernel
theorem dL_law_761 : decode cL_law 761 = .ok (.aload_n 0, 1) := by decide +kernel
theorem dL_law_762 : decode cL_law 762 = .ok (.iload_n 3, 1) := by decide +kernel
theorem dL_law_763 : decode cL_law 763 = .ok (.iconst 1, 1) := by decide +kernel
theorem dL_law_764 : decode cL_law 764 = .ok (.iadd, 1) := by decide +kernel
theorem dL_law_765 : decode cL_law 765 = .ok (.iaload, 1) := by decide +kernel
theorem dL_law_766 : decode cL_law 766 = .ok (.invokevirtual 113, 3) := by decide +kernel
theorem dL_law_769 : decode cL_law 769 = .ok (.aload_n 2, 1) := by decide +kernel
theorem dL_law_770 : decode cL_law 770 = .ok (.aload_n 0, 1) := by decide +kernel
theorem dL_law_771 : decode cL_law 771 = .ok (.iload_n 3, 1) := by decide +kernel
theorem dL_law_772 : decode cL_law 772 = .ok (.iconst 1, 1) := by decide +kernel
theorem dL_law_773 : decode cL_law 773 = .ok (.iadd, 1) := by decide +kernel
theorem dL_law_774 : decode cL_law 774 = .ok (.iaload, 1) := by decide +kernel
theorem dL_law_775 : decode cL_law 775 = .ok (.invokevirtual 116, 3) := by decide +kernel
theorem dL_law_778 : decode cL_law 778 = .ok (.if_icmp .eq 237, 3) := by decide +kernel
theorem dL_law_781 : decode cL_law 781 = .ok (.iconst 0, 1) := by decide +kernel
theorem dL_law_782 : decode cL_law 782 = .ok (.ireturn, 1) := by decide +kernel
theorem dL_law_783 : decode cL_law 783 = .ok (.aload_n 1, 1) := by decide +kernel
theorem dL_law_784 : decode cL_law 784 = .ok (.aload_n 0, 1) := by decide +kernel
theorem dL_law_785 : decode cL_law 785 = .ok (.iload_n 3, 1) := by decide +kernel
theorem dL_law_786 : decode cL_law 786 = .ok (.iconst 1, 1) := by decide +kernel
theorem dL_law_787 : decode cL_law 787 = .ok (.iadd, 1) := by decide +kernel
theorem dL_law_788 : decode cL_law 788 = .ok (.iaload, 1) := by decide +kernel
theorem dL_law_789 : decode cL_law 789 = .ok (.invokevirtual 117, 3) := by decide +kernel
theorem dL_law_792 : decode cL_law 792 = .ok (.aload_n 2, 1) := by decide +kernel
theorem dL_law_793 : decode cL_law 793 = .ok (.aload_n 0, 1) := by decide +kernel
theorem dL_law_794 : decode cL_law 794 = .ok (.iload_n 3, 1) := by decide +kernel
theorem dL_law_795 : decode cL_law 795 = .ok (.iconst 1, 1) := by decide +kernel
theorem dL_law_796 : decode cL_law 796 = .ok (.iadd, 1) := by decide +kernel
theorem dL_law_797 : decode cL_law 797 = .ok (.iaload, 1) := by decide +kernel
theorem dL_law_798 : decode cL_law 798 = .ok (.invokevirtual 120, 3) := by decide +kernel
theorem dL_law_801 : decode cL_law 801 = .ok (.if_icmp .eq 214, 3) := by decide +kernel
theorem dL_law_804 : decode cL_law 804 = .ok (.iconst 0, 1) := by decide +kernel
theorem dL_law_805 : decode cL_law 805 = .ok (.ireturn, 1) := by decide +kernel
theorem dL_law_806 : decode cL_law 806 = .ok (.aload_n 1, 1) := by decide +kernel
theorem dL_law_807 : decode cL_law 807 = .ok (.aload_n 0, 1) := by decide +kernel
theorem dL_law_808 : decode cL_law 808 = .ok (.iload_n 3, 1) := by decide +kernel
theorem dL_law_809 : decode cL_law 809 = .ok (.iconst 1, 1) := by decide +kernel
theorem dL_law_810 : decode cL_law 810 = .ok (.iadd, 1) := by decide +kernel
theorem dL_law_811 : decode cL_law 811 = .ok (.iaload, 1) := by decide +kernel
theorem dL_law_812 : decode cL_law 812 = .ok (.invokevirtual 121, 3) := by decide +kernel
theorem dL_law_815 : decode cL_law 815 = .ok (.aload_n 2, 1) := by decide +kernel
theorem dL_law_816 : decode cL_law 816 = .ok (.aload_n 0, 1) := by decide +kernel
theorem dL_law_817 : decode cL_law 817 = .ok (.iload_n 3, 1) := by decide +kernel
theorem dL_law_818 : decode cL_law 818 = .ok (.iconst 1, 1) := by decide +kernel
theorem dL_law_819 : decode cL_law 819 = .ok (.iadd, 1) := by decide +kernel
theorem dL_law_820 : decode cL_law 820 = .ok (.iaload, 1) := by decide +kernel
theorem dL_law_821 : decode cL_law 821 = .ok (.invokevirtual 124, 3) := by decide +kernel
theorem dL_law_824 : decode cL_law 824 = .ok (.if_icmp .eq 191, 3) := by decide +kernel
theorem dL_law_827 : decode cL_law 827 = .ok (.iconst 0, 1) := by decide +kernel
theorem dL_law_828 : decode cL_law 828 = .ok (.ireturn, 1) := by decide +kernel
theorem dL_law_829 : decode cL_law 829 = .ok (.aload_n 1, 1) := by decide +kernel
theorem dL_law_830 : decode cL_law 830 = .ok (.aload_n 0, 1) := by decide +kernel
theorem dL_law_831 : decode cL_law 831 = .ok (.iload_n 3, 1) := by decide +kernel
theorem dL_law_832 : decode cL_law 832 = .ok (.iconst 1, 1) := by decide +kernel
theorem dL_law_833 : decode cL_law 833 = .ok (.iadd, 1) := by decide +kernel
theorem dL_law_834 : decode cL_law 834 = .ok (.iaload, 1) := by decide +kernel
theorem dL_law_835 : decode cL_law 835 = .ok (.invokevirtual 125, 3) := by decide +kernel
theorem dL_law_838 : decode cL_law 838 = .ok (.aload_n 2, 1) := by decide +kernel
theorem dL_law_839 : decode cL_law 839 = .ok (.aload_n 0, 1) := by decide +kernel
theorem dL_law_840 : decode cL_law 840 = .ok (.iload_n 3, 1) := by decide +kernel
theorem dL_law_841 : decode cL_law 841 = .ok (.iconst 1, 1) := by decide +kernel
theorem dL_law_842 : decode cL_law 842 = .ok (.iadd, 1) := by decide +kernel
theorem dL_law_843 : decode cL_law 843 = .ok (.iaload, 1) := by decide +kernel
theorem dL_law_844 : decode cL_law 844 = .ok (.invokevirtual 128, 3) := by decide +kernel
theorem dL_law_847 : decode cL_law 847 = .ok (.if_icmp .eq 168, 3) := by decide +kernel
theorem dL_law_850 : decode cL_law 850 = .ok (.iconst 0, 1) := by decide +kernel
theorem dL_law_851 : decode cL_law 851 = .ok (.ireturn, 1) := by decide +kernel
theorem dL_law_852 : decode cL_law 852 = .ok (.aload_n 1, 1) := by decide +kernel
theorem dL_law_853 : decode cL_law 853 = .ok (.aload_n 0, 1) := by decide +kernel
theorem dL_law_854 : decode cL_law 854 = .ok (.iload_n 3, 1) := by decide +kernel
theorem dL_law_855 : decode cL_law 855 = .ok (.iconst 1, 1) := by decide +kernel
theorem dL_law_856 : decode cL_law 856 = .ok (.iadd, 1) := by decide +kernel
theorem dL_law_857 : decode cL_law 857 = .ok (.iaload, 1) := by decide +kernel
theorem dL_law_858 : decode cL_law 858 = .ok (.aload_n 0, 1) := by decide +kernel
theorem dL_law_859 : decode cL_law 859 = .ok (.iload_n 3, 1) := by decide +kernel
theorem dL_law_860 : decode cL_law 860 = .ok (.iconst 2, 1) := by decide +kernel
theorem dL_law_861 : decode cL_law 861 = .ok (.iadd, 1) := by decide +kernel
theorem dL_law_862 : decode cL_law 862 = .ok (.iaload, 1) := by decide +kernel
theorem dL_law_863 : decode cL_law 863 = .ok (.invokevirtual 129, 3) := by decide +kernel
theorem dL_law_866 : decode cL_law 866 = .ok (.aload_n 2, 1) := by decide +kernel
theorem dL_law_867 : decode cL_law 867 = .ok (.aload_n 0, 1) := by decide +kernel
theorem dL_law_868 : decode cL_law 868 = .ok (.iload_n 3, 1) := by decide +kernel
theorem dL_law_869 : decode cL_law 869 = .ok (.iconst 1, 1) := by decide +kernel
theorem dL_law_870 : decode cL_law 870 = .ok (.iadd, 1) := by decide +kernel
theorem dL_law_871 : decode cL_law 871 = .ok (.iaload, 1) := by decide +kernel
theorem dL_law_872 : decode cL_law 872 = .ok (.aload_n 0, 1) := by decide +kernel
theorem dL_law_873 : decode cL_law 873 = .ok (.iload_n 3, 1) := by decide +kernel
theorem dL_law_874 : decode cL_law 874 = .ok (.iconst 2, 1) := by decide +kernel
theorem dL_law_875 : decode cL_law 875 = .ok (.iadd, 1) := by decide +kernel
theorem dL_law_876 : decode cL_law 876 = .ok (.iaload, 1) := by decide +kernel
theorem dL_law_877 : decode cL_law 877 = .ok (.invokevirtual 132, 3) := by decide +kernel
theorem dL_law_880 : decode cL_law 880 = .ok (.if_icmp .eq 135, 3) := by decide +kernel
theorem dL_law_883 : decode cL_law 883 = .ok (.iconst 0, 1) := by decide +kernel
theorem dL_law_884 : decode cL_law 884 = .ok (.ireturn, 1) := by decide +kernel
theorem dL_law_885 : decode cL_law 885 = .ok (.aload_n 1, 1) := by decide +kernel
theorem dL_law_886 : decode cL_law 886 = .ok (.aload_n 0, 1) := by decide +kernel
theorem dL_law_887 : decode cL_law 887 = .ok (.iload_n 3, 1) := by decide +kernel
theorem dL_law_888 : decode cL_law 888 = .ok (.iconst 1, 1) := by decide +kernel
theorem dL_law_889 : decode cL_law 889 = .ok (.iadd, 1) := by decide +kernel
theorem dL_law_890 : decode cL_law 890 = .ok (.iaload, 1) := by decide +kernel
theorem dL_law_891 : decode cL_law 891 = .ok (.invokevirtual 133, 3) := by decide +kernel
theorem dL_law_894 : decode cL_law 894 = .ok (.aload_n 2, 1) := by decide +kernel
theorem dL_law_895 : decode cL_law 895 = .ok (.aload_n 0, 1) := by decide +kernel
theorem dL_law_896 : decode cL_law 896 = .ok (.iload_n 3, 1) := by decide +kernel
theorem dL_law_897 : decode cL_law 897 = .ok (.iconst 1, 1) := by decide +kernel
theorem dL_law_898 : decode cL_law 898 = .ok (.iadd, 1) := by decide +kernel
theorem dL_law_899 : decode cL_law 899 = .ok (.iaload, 1) := by decide +kernel
theorem dL_law_900 : decode cL_law 900 = .ok (.invokevirtual 137, 3) := by decide +kernel
theorem dL_law_903 : decode cL_law 903 = .ok (.lcmp, 1) := by decide +kernel
theorem dL_law_904 : decode cL_law 904 = .ok (.ifCond .eq 111, 3) := by decide +kernel
theorem dL_law_907 : decode cL_law 907 = .ok (.iconst 0, 1) := by decide +kernel
theorem dL_law_908 : decode cL_law 908 = .ok (.ireturn, 1) := by decide +kernel
theorem dL_law_909 : decode cL_law 909 = .ok (.aload_n 1, 1) := by decide +kernel
theorem dL_law_910 : decode cL_law 910 = .ok (.aload_n 0, 1) := by decide +kernel
theorem dL_law_911 : decode cL_law 911 = .ok (.iload_n 3, 1) := by decide +kernel
theorem dL_law_912 : decode cL_law 912 = .ok (.iconst 1, 1) := by decide +kernel
theorem dL_law_913 : decode cL_law 913 = .ok (.iadd, 1) := by decide +kernel
theorem dL_law_914 : decode cL_law 914 = .ok (.iaload, 1) := by decide +kernel
theorem dL_law_915 : decode cL_law 915 = .ok (.invokevirtual 138, 3) := by decide +kernel
theorem dL_law_918 : decode cL_law 918 = .ok (.aload_n 2, 1) := by decide +kernel
theorem dL_law_919 : decode cL_law 919 = .ok (.aload_n 0, 1) := by decide +kernel
theorem dL_law_920 : decode cL_law 920 = .ok (.iload_n 3, 1) := by decide +kernel
theorem dL_law_921 : decode cL_law 921 = .ok (.iconst 1, 1) := by decide +kernel
theorem dL_law_922 : decode cL_law 922 = .ok (.iadd, 1) := by decide +kernel
theorem dL_law_923 : decode cL_law 923 = .ok (.iaload, 1) := by decide +kernel
theorem dL_law_924 : decode cL_law 924 = .ok (.invokevirtual 141, 3) := by decide +kernel
theorem dL_law_927 : decode cL_law 927 = .ok (.if_icmp .eq 88, 3) := by decide +kernel
theorem dL_law_930 : decode cL_law 930 = .ok (.iconst 0, 1) := by decide +kernel
theorem dL_law_931 : decode cL_law 931 = .ok (.ireturn, 1) := by decide +kernel
theorem dL_law_932 : decode cL_law 932 = .ok (.aload_n 1, 1) := by decide +kernel
theorem dL_law_933 : decode cL_law 933 = .ok (.aload_n 0, 1) := by decide +kernel
theorem dL_law_934 : decode cL_law 934 = .ok (.iload_n 3, 1) := by decide +kernel
theorem dL_law_935 : decode cL_law 935 = .ok (.iconst 1, 1) := by decide +kernel
theorem dL_law_936 : decode cL_law 936 = .ok (.iadd, 1) := by decide +kernel
theorem dL_law_937 : decode cL_law 937 = .ok (.iaload, 1) := by decide +kernel
theorem dL_law_938 : decode cL_law 938 = .ok (.invokevirtual 142, 3) := by decide +kernel
theorem dL_law_941 : decode cL_law 941 = .ok (.aload_n 2, 1) := by decide +kernel
theorem dL_law_942 : decode cL_law 942 = .ok (.aload_n 0, 1) := by decide +kernel
theorem dL_law_943 : decode cL_law 943 = .ok (.iload_n 3, 1) := by decide +kernel
theorem dL_law_944 : decode cL_law 944 = .ok (.iconst 1, 1) := by decide +kernel
theorem dL_law_945 : decode cL_law 945 = .ok (.iadd, 1) := by decide +kernel
theorem dL_law_946 : decode cL_law 946 = .ok (.iaload, 1) := by decide +kernel
theorem dL_law_947 : decode cL_law 947 = .ok (.invokevirtual 145, 3) := by decide +kernel
theorem dL_law_950 : decode cL_law 950 = .ok (.if_icmp .eq 65, 3) := by decide +kernel
theorem dL_law_953 : decode cL_law 953 = .ok (.iconst 0, 1) := by decide +kernel
theorem dL_law_954 : decode cL_law 954 = .ok (.ireturn, 1) := by decide +kernel
theorem dL_law_955 : decode cL_law 955 = .ok (.aload_n 1, 1) := by decide +kernel
theorem dL_law_956 : decode cL_law 956 = .ok (.aload_n 0, 1) := by decide +kernel
theorem dL_law_957 : decode cL_law 957 = .ok (.iload_n 3, 1) := by decide +kernel
theorem dL_law_958 : decode cL_law 958 = .ok (.iconst 1, 1) := by decide +kernel
theorem dL_law_959 : decode cL_law 959 = .ok (.iadd, 1) := by decide +kernel
theorem dL_law_960 : decode cL_law 960 = .ok (.iaload, 1) := by decide +kernel
theorem dL_law_961 : decode cL_law 961 = .ok (.invokevirtual 146, 3) := by decide +kernel
theorem dL_law_964 : decode cL_law 964 = .ok (.aload_n 2, 1) := by decide +kernel
theorem dL_law_965 : decode cL_law 965 = .ok (.aload_n 0, 1) := by decide +kernel
theorem dL_law_966 : decode cL_law 966 = .ok (.iload_n 3, 1) := by decide +kernel
theorem dL_law_967 : decode cL_law 967 = .ok (.iconst 1, 1) := by decide +kernel
theorem dL_law_968 : decode cL_law 968 = .ok (.iadd, 1) := by decide +kernel
theorem dL_law_969 : decode cL_law 969 = .ok (.iaload, 1) := by decide +kernel
theorem dL_law_970 : decode cL_law 970 = .ok (.invokevirtual 149, 3) := by decide +kernel
theorem dL_law_973 : decode cL_law 973 = .ok (.if_icmp .eq 42, 3) := by decide +kernel
theorem dL_law_976 : decode cL_law 976 = .ok (.iconst 0, 1) := by decide +kernel
theorem dL_law_977 : decode cL_law 977 = .ok (.ireturn, 1) := by decide +kernel
theorem dL_law_978 : decode cL_law 978 = .ok (.aload_n 1, 1) := by decide +kernel
theorem dL_law_979 : decode cL_law 979 = .ok (.aload_n 0, 1) := by decide +kernel
theorem dL_law_980 : decode cL_law 980 = .ok (.iload_n 3, 1) := by decide +kernel
theorem dL_law_981 : decode cL_law 981 = .ok (.iconst 1, 1) := by decide +kernel
theorem dL_law_982 : decode cL_law 982 = .ok (.iadd, 1) := by decide +kernel
theorem dL_law_983 : decode cL_law 983 = .ok (.iaload, 1) := by decide +kernel
theorem dL_law_984 : decode cL_law 984 = .ok (.invokevirtual 150, 3) := by decide +kernel
theorem dL_law_987 : decode cL_law 987 = .ok (.aload_n 2, 1) := by decide +kernel
theorem dL_law_988 : decode cL_law 988 = .ok (.aload_n 0, 1) := by decide +kernel
theorem dL_law_989 : decode cL_law 989 = .ok (.iload_n 3, 1) := by decide +kernel
theorem dL_law_990 : decode cL_law 990 = .ok (.iconst 1, 1) := by decide +kernel
theorem dL_law_991 : decode cL_law 991 = .ok (.iadd, 1) := by decide +kernel
theorem dL_law_992 : decode cL_law 992 = .ok (.iaload, 1) := by decide +kernel
theorem dL_law_993 : decode cL_law 993 = .ok (.invokevirtual 153, 3) := by decide +kernel
theorem dL_law_996 : decode cL_law 996 = .ok (.if_icmp .eq 19, 3) := by decide +kernel
theorem dL_law_999 : decode cL_law 999 = .ok (.iconst 0, 1) := by decide +kernel
theorem dL_law_1000 : decode cL_law 1000 = .ok (.ireturn, 1) := by decide +kernel
theorem dL_law_1001 : decode cL_law 1001 = .ok (.aload_n 1, 1) := by decide +kernel
theorem dL_law_1002 : decode cL_law 1002 = .ok (.invokevirtual 154, 3) := by decide +kernel
theorem dL_law_1005 : decode cL_law 1005 = .ok (.aload_n 2, 1) := by decide +kernel
theorem dL_law_1006 : decode cL_law 1006 = .ok (.invokevirtual 158, 3) := by decide +kernel
theorem dL_law_1009 : decode cL_law 1009 = .ok (.lcmp, 1) := by decide +kernel
theorem dL_law_1010 : decode cL_law 1010 = .ok (.ifCond .eq 5, 3) := by decide +kernel
theorem dL_law_1013 : decode cL_law 1013 = .ok (.iconst 0, 1) := by decide +kernel
theorem dL_law_1014 : decode cL_law 1014 = .ok (.ireturn, 1) := by decide +kernel
theorem dL_law_1015 : decode cL_law 1015 = .ok (.iinc 3 4, 3) := by decide +kernel
theorem dL_law_1018 : decode cL_law 1018 = .ok (.goto (-1000), 3) := by decide +kernel
theorem dL_law_1021 : decode cL_law 1021 = .ok (.iconst 1, 1) := by decide +kernel
theorem dL_law_1022 : decode cL_law 1022 = .ok (.ireturn, 1) := by decide +kernel
end
section
/-! ===== the state of the two objects, and the combinators in which the methods are written as functions ===== -/
abbrev jS : Type := (Nat → Nat → Int32) × (Nat → Nat → Int64)
def jsR (S : jS) (k : Nat) (f : Nat → Int32) : jS := (fun a => if a = k then f else S.1 a, S.2)
def jsI (S : jS) (k j : Nat) (v : Int32) : jS := jsR S k (upd (S.1 k) j v)
def jsL (S : jS) (k j : Nat) (v : Int64) : jS := (S.1, fun a => if a = k then vp_updL (S.2 k) j v else S.2 a)
def jb (i : Int32) (n : Nat) : Bool := decide (¬ (i < 0 ∨ n ≤ i.toNatClampNeg))
theorem jb_in {i : Int32} {n : Nat} (h : jb i n = true) : vp_in i n := by
  unfold jb at h
  show ¬ (i < 0 ∨ n ≤ i.toNatClampNeg)
  exact of_decide_eq_true h
section
variable {α β : Type}
def jld (S : jS) (k : Nat) (i : Int32) (n : Nat) (E : Int32 → Option β) : Option β := if jb i n = true then E (S.1 k i.toNatClampNeg) else none
def jst (S : jS) (k : Nat) (i : Int32) (n : Nat) (v : Int32) (E : jS → Option β) : Option β := if jb i n = true then E (jsI S k i.toNatClampNeg v) else none
def jpt (S : jS) (k j : Nat) (v : Int32) (E : jS → Option β) : Option β := E (jsI S k j v)
def jpl (S : jS) (k j : Nat) (v : Int64) (E : jS → Option β) : Option β := E (jsL S k j v)
def jcl (F : Option (α × jS)) (E : α → jS → Option β) : Option β := match F with
  | none => none
  | some v => E v.1 v.2
def jcv (F : Option jS) (E : jS → Option β) : Option β := match F with
  | none => none
  | some v => E v
def jdv (x y : Int32) (E : Int32 → Option β) : Option β := if y = 0 then none else E (x / y)
def jrm (x y : Int32) (E : Int32 → Option β) : Option β := if y = 0 then none else E (x - x / y * y)
def jdl (x y : Int64) (E : Int64 → Option β) : Option β := if y = 0 then none else E (x / y)
def jrl (x y : Int64) (E : Int64 → Option β) : Option β := if y = 0 then none else E (x - x / y * y)
def jcb (n0 n1 : Nat) (sp dp n : Int32) : Bool := decide (¬ sp < 0 ∧ ¬ dp < 0 ∧ ¬ n < 0 ∧ sp.toNatClampNeg + n.toNatClampNeg ≤ n0 ∧ dp.toNatClampNeg + n.toNatClampNeg ≤ n1)
def jcp (S : jS) (k0 n0 : Nat) (sp : Int32) (k1 n1 : Nat) (dp n : Int32) (E : jS → Option β) : Option β := if jcb n0 n1 sp dp n = true then E (jsR S k1 (va_cpy (S.1 k0) (S.1 k1) sp.toNatClampNeg dp.toNatClampNeg n.toNatClampNeg)) else none
def jzr (v : Int32) (S : jS) : Option (Int32 × jS) := if v &&& 1 = v then some (v, S) else none
def jloop (B : (α → Option β) → α → Option β) : Nat → α → Option β
  | 0, _ => none
  | n + 1, a => B (jloop B n) a
def jN : Nat := 1000000000
theorem jcl_some {F : Option (α × jS)} {E : α → jS → Option β} {z : β} (h : jcl F E = some z) : ∃ v, F = some v ∧ E v.1 v.2 = some z := by
  cases F with
  | none => cases h
  | some v => exact ⟨v, rfl, h⟩
theorem jcv_some {F : Option jS} {E : jS → Option β} {z : β} (h : jcv F E = some z) : ∃ v, F = some v ∧ E v = some z := by
  cases F with
  | none => cases h
  | some v => exact ⟨v, rfl, h⟩
theorem jif_some {c : Prop} {d : Decidable c} {a : Option β} {z : β} (h : @ite _ c d a none = some z) : c ∧ a = some z := by
  by_cases hc : c
  · rw [if_pos hc] at h; exact ⟨hc, h⟩
  · rw [if_neg hc] at h; cases h
theorem jin_some {c : Prop} {d : Decidable c} {a : Option β} {z : β} (h : @ite _ c d none a = some z) : ¬ c ∧ a = some z := by
  by_cases hc : c
  · rw [if_pos hc] at h; cases h
  · rw [if_neg hc] at h; exact ⟨hc, h⟩
/-- a loop's machine part: if each turn leads to the head again, or out -/
theorem jloop_P {B : (α → Option β) → α → Option β} {z : β} {P : α → Prop} (hB : ∀ (g : α → Option β) (a : α), (∀ a', g a' = some z → P a') → B g a = some z → P a) : ∀ (n : Nat) (a : α), jloop B n a = some z → P a := by
  intro n
  induction n with
  | zero => intro a h; cases h
  | succ n ih => intro a h; exact hB (jloop B n) a ih h
end
/-! ===== the judgement: at pc, with the locals lv, the stack st and the state S, the machine comes to Q ===== -/
abbrev jX : Type _ := Program × Launch × Env × Room × State × MethodId × Array Value × List Frame × Method × Code × Nat × Nat × (State → Prop) × Nat
abbrev xp (X : jX) := X.1
abbrev xl (X : jX) := X.2.1
abbrev xe (X : jX) := X.2.2.1
abbrev xR (X : jX) := X.2.2.2.1
abbrev xs (X : jX) := X.2.2.2.2.1
abbrev xm (X : jX) := X.2.2.2.2.2.1
abbrev xa (X : jX) := X.2.2.2.2.2.2.1
abbrev xb (X : jX) := X.2.2.2.2.2.2.2.1
abbrev xh (X : jX) := X.2.2.2.2.2.2.2.2.1
abbrev xc (X : jX) := X.2.2.2.2.2.2.2.2.2.1
abbrev xk (X : jX) := X.2.2.2.2.2.2.2.2.2.2.1
abbrev xn (X : jX) := X.2.2.2.2.2.2.2.2.2.2.2.1
abbrev xQ (X : jX) := X.2.2.2.2.2.2.2.2.2.2.2.2.1
abbrev xL (X : jX) := X.2.2.2.2.2.2.2.2.2.2.2.2.2
/-- a world: slots and classes, the classes' fields, the arrays' types, which addresses are its own, how many cells, their addresses, what they hold, what else holds of a state -/
abbrev jY : Type := va_G × List vw_C × List (ClassId × FieldType) × (Nat → Prop) × Nat × (Nat → Nat) × (Nat → (Nat → Int32) → (Nat → Int64) → va_E) × (State → Prop)
abbrev yD (Y : jY) := Y.1
abbrev ycl (Y : jY) := Y.2.1
abbrev yt (Y : jY) := Y.2.2.1
abbrev yA (Y : jY) := Y.2.2.2.1
abbrev yN (Y : jY) := Y.2.2.2.2.1
abbrev yad (Y : jY) := Y.2.2.2.2.2.1
abbrev yE (Y : jY) := Y.2.2.2.2.2.2.1
abbrev yV (Y : jY) := Y.2.2.2.2.2.2.2
def jw (Y : jY) (S : jS) : va_W := (List.range (yN Y)).map fun k => (yad Y k, yE Y k (S.1 k) (S.2 k))
theorem jw_get (Y : jY) (S : jS) {k : Nat} (h : k < yN Y) : (jw Y S)[k]? = some (yad Y k, yE Y k (S.1 k) (S.2 k)) := by
  unfold jw
  rw [List.getElem?_map, List.getElem?_range h]
  rfl
theorem jw_len (Y : jY) (S : jS) : (jw Y S).length = yN Y := by unfold jw; rw [List.length_map, List.length_range]
theorem jw_none (Y : jY) (S : jS) {k : Nat} (h : ¬ k < yN Y) : (jw Y S)[k]? = none := List.getElem?_eq_none (by rw [jw_len]; omega)
theorem jw_set {Y : jY} {S S' : jS} {k : Nat} {e : va_E} (h : k < yN Y) (he : yE Y k (S'.1 k) (S'.2 k) = e) (ho : ∀ j, j ≠ k → S'.1 j = S.1 j ∧ S'.2 j = S.2 j) : (jw Y S).set k (yad Y k, e) = jw Y S' := by
  apply List.ext_getElem?
  intro i
  by_cases hi : i = k
  · subst hi
    rw [List.getElem?_set_self (by rw [jw_len]; exact h), jw_get Y S' h, he]
  · rw [List.getElem?_set_ne (Ne.symm hi)]
    by_cases hl : i < yN Y
    · rw [jw_get Y S hl, jw_get Y S' hl, (ho i hi).1, (ho i hi).2]
    · rw [jw_none Y S hl, jw_none Y S' hl]
def jOk (Y : jY) : Prop := (∀ i j, i < yN Y → j < yN Y → yad Y i = yad Y j → i = j) ∧ (∀ k, k < yN Y → yA Y (yad Y k)) ∧ (∀ s t : State, yV Y s → s.WarmedH t.vm → s.heap.size ≤ t.heap.size → (∀ q : Nat, q < s.heap.size → ¬ yA Y q → t.heap[q]? = s.heap[q]?) → yV Y t) ∧ (∀ s t : State, yV Y s → s.vm = t.vm → s.heap = t.heap → yV Y t)
theorem jw_D {Y : jY} (h : jOk Y) (S : jS) : va_D (yA Y) (jw Y S) := by
  have key : ∀ (k : Nat) (q : Nat × va_E), (jw Y S)[k]? = some q → k < yN Y ∧ q.1 = yad Y k := by
    intro k q hk
    by_cases hl : k < yN Y
    · rw [jw_get Y S hl] at hk
      cases hk
      exact ⟨hl, rfl⟩
    · rw [jw_none Y S hl] at hk
      cases hk
  refine ⟨fun i j p q hi hj hpq => ?_, fun k q hk => ?_⟩
  · obtain ⟨h1, h2⟩ := key i p hi
    obtain ⟨h3, h4⟩ := key j q hj
    exact h.1 i j h1 h3 (by rw [← h2, ← h4, hpq])
  · obtain ⟨h1, h2⟩ := key k q hk
    rw [h2]
    exact h.2.1 k h1
def jInv (Y : jY) (S : jS) (U : State) : Prop := va_P (yD Y) (ycl Y) (jw Y S) U.heap ∧ va_K (yD Y) (ycl Y) (yt Y) U ∧ yV Y U
def jQ (Y : jY) (z : Option Value × jS) : Array Value → State → Outcome → State → Prop := fun _ st oc t => oc = .returned z.1 ∧ jInv Y z.2 t ∧ va_F (yA Y) st t
def jT : List Cond := lw_tbl.filter goodWord
def jJ (X : jX) (Y : jY) (pc : Nat) (lv : List (Nat × Value)) (st : List Value) (S : jS) : Prop :=
  ∀ (ls : Array Slot) (H : Heap) (locs : List Loc), lv_has ls (xL X) lv → va_P (yD Y) (ycl Y) (jw Y S) H → va_S (yA Y) (xs X).heap H locs → W (xp X) (xl X) (xe X) (xR X) (xs X) (xm X) (xa X) (xb X) (xh X) (xc X) H locs (xk X) (xn X) (xQ X) (F0 (xm X) pc ls st)
def jC (X : jX) (Y : jY) (own : String) (cc : ByteArray) (ret : Option FieldType) (nL fr lo : Nat) : Prop :=
  (xp X).tables.exec = Jvm.exec ∧ (xc X).code = cc ∧ (xc X).maxLocals = nL ∧ (xs X).vm.findClass own = some (xm X).cls ∧ (∀ w ∈ jT, w.before (xa X) (xs X) = true) ∧ va_K (yD Y) (ycl Y) (yt Y) (xs X) ∧ jOk Y ∧ (xh X).locks = false ∧ (xh X).sig.returnType = ret ∧ xL X = nL ∧ (xR X).frames = fr ∧ (xR X).locals = lo ∧ xk X ≤ (xR X).cells ∧ xn X ≤ (xR X).slots ∧ yV Y (xs X)
def jRet (X : jX) (Y : jY) (z : Option Value × jS) : Prop := xQ X = MQ (xb X) (jQ Y z) (xa X) (xs X) (xk X) (xn X) (yA Y)
theorem jT_cons {w c : Cond} (h : w ∈ jT) : w ∈ c :: jT := List.mem_cons_of_mem _ h
theorem jT_goodIn {c d : Cond} (h : d ∈ jT) : GoodIn (c :: jT) (d :: jT) := by
  have hg : ∀ w, w ∈ jT → ((w.onTables && w.keeps) = true ∨ ∃ ty, w = .arrayClass ty) := fun w hw => good_of_word (List.mem_filter.mp hw).2
  intro w hw
  rcases List.mem_cons.mp hw with rfl | hw
  · exact ⟨jT_cons h, hg _ h⟩
  · exact ⟨jT_cons hw, hg _ hw⟩
theorem jT_goodIn0 {d : Cond} (h : d ∈ jT) : GoodIn jT (d :: jT) := by
  have hg : ∀ w, w ∈ jT → ((w.onTables && w.keeps) = true ∨ ∃ ty, w = .arrayClass ty) := fun w hw => good_of_word (List.mem_filter.mp hw).2
  intro w hw
  rcases List.mem_cons.mp hw with rfl | hw
  · exact ⟨h, hg _ h⟩
  · exact ⟨hw, hg _ hw⟩
theorem jT_good {w : Cond} (h : w ∈ jT) : w ∈ jT ∧ ((w.onTables && w.keeps) = true ∨ ∃ ty, w = .arrayClass ty) := ⟨h, good_of_word (List.mem_filter.mp h).2⟩
set_option maxHeartbeats 4000000 in
/-- a contract out of the walk of its body -/
theorem jMet {l : Launch} {Y : jY} (hO : jOk Y) {y : MethodName} {cc : ByteArray} {nL : Nat} {ret : Option FieldType} {fr lo : Nat} {own : String} {av : List Value} {S : jS} {z : Option Value × jS} (hy : plainName y.cls = true) (ho : y.cls = own) (hn : (lg_sl av).length ≤ nL)
    (body : ∀ X, xl X = l → jC X Y own cc ret nL fr lo → jRet X Y z → jJ X Y 0 (lv_args 0 av) [] S) : Met l y (.code y cc nL ret :: jT) { frames := fr, cells := 0, slots := 0, locals := lo } (va_Pc av (jInv Y S)) (jQ Y z) 0 0 (yA Y) := by
  refine Met.ofW (cc := cc) (maxL := nL) (ret := ret) hy rfl ?_
  intro p e s m args below meth c s₁ B hml hv
  obtain ⟨rfl, hP, hK, hV⟩ := hv
  have hts := atoms_spec (ws := .code y cc nL ret :: jT) B.pre
  have hown : s.vm.findClass y.cls = some m.cls := findClass_of_methodNamed B.named
  rw [lg_entry_eq]
  exact body (p, l, e, { frames := fr, cells := 0, slots := 0, locals := lo }, s, m, av.toArray, below, meth, c, 0, 0, MQ below (jQ Y z) av.toArray s 0 0 (yA Y), nL) rfl
    ⟨B.exec, B.bytes, hml, by rw [← ho]; exact hown, fun w h => hts w (jT_cons h), hK, hO, B.notSynchronized, B.returns, rfl, rfl, rfl, Nat.le_refl _, Nat.le_refl _, hV⟩ rfl _ _ _ (lv_entry av hn) hP va_S.rf
section jRows
variable {X : jX} {Y : jY} {own : String} {cc : ByteArray} {ret : Option FieldType} {nL fr lo pc : Nat} {lv : List (Nat × Value)} {st : List Value} {S : jS} {β : Type} {z : β} {E1 E2 : Option β}
theorem j_sub (ks : List Nat) {lv' : List (Nat × Value)} (h : lv_pick lv ks = lv') (K : jJ X Y pc lv' st S) : jJ X Y pc lv st S := fun ls H locs hl hP hS => K ls H locs (lv_sub hl ks h) hP hS
theorem j_iadd (C : jC X Y own cc ret nL fr lo) {x y : Int32} (d : decode cc pc = .ok (.iadd, 1))  (K : jJ X Y (pc + 1) lv (.int (x + y) :: st) S) : jJ X Y pc lv (.int y :: .int x :: st) S := fun ls H locs hl hP hS => lv_iadd C.1 C.2.1 d  (K ls H locs hl hP hS)
theorem j_isub (C : jC X Y own cc ret nL fr lo) {x y : Int32} (d : decode cc pc = .ok (.isub, 1))  (K : jJ X Y (pc + 1) lv (.int (x - y) :: st) S) : jJ X Y pc lv (.int y :: .int x :: st) S := fun ls H locs hl hP hS => lv_isub C.1 C.2.1 d  (K ls H locs hl hP hS)
theorem j_imul (C : jC X Y own cc ret nL fr lo) {x y : Int32} (d : decode cc pc = .ok (.imul, 1))  (K : jJ X Y (pc + 1) lv (.int (x * y) :: st) S) : jJ X Y pc lv (.int y :: .int x :: st) S := fun ls H locs hl hP hS => lv_imul C.1 C.2.1 d  (K ls H locs hl hP hS)
theorem j_iand (C : jC X Y own cc ret nL fr lo) {x y : Int32} (d : decode cc pc = .ok (.iand, 1))  (K : jJ X Y (pc + 1) lv (.int (x &&& y) :: st) S) : jJ X Y pc lv (.int y :: .int x :: st) S := fun ls H locs hl hP hS => lv_iand C.1 C.2.1 d  (K ls H locs hl hP hS)
theorem j_ior (C : jC X Y own cc ret nL fr lo) {x y : Int32} (d : decode cc pc = .ok (.ior, 1))  (K : jJ X Y (pc + 1) lv (.int (x ||| y) :: st) S) : jJ X Y pc lv (.int y :: .int x :: st) S := fun ls H locs hl hP hS => lv_ior C.1 C.2.1 d  (K ls H locs hl hP hS)
theorem j_ixor (C : jC X Y own cc ret nL fr lo) {x y : Int32} (d : decode cc pc = .ok (.ixor, 1))  (K : jJ X Y (pc + 1) lv (.int (x ^^^ y) :: st) S) : jJ X Y pc lv (.int y :: .int x :: st) S := fun ls H locs hl hP hS => lv_ixor C.1 C.2.1 d  (K ls H locs hl hP hS)
theorem j_ladd (C : jC X Y own cc ret nL fr lo) {x y : Int64} (d : decode cc pc = .ok (.ladd, 1))  (K : jJ X Y (pc + 1) lv (.long (x + y) :: st) S) : jJ X Y pc lv (.long y :: .long x :: st) S := fun ls H locs hl hP hS => lv_ladd C.1 C.2.1 d  (K ls H locs hl hP hS)
theorem j_lsub (C : jC X Y own cc ret nL fr lo) {x y : Int64} (d : decode cc pc = .ok (.lsub, 1))  (K : jJ X Y (pc + 1) lv (.long (x - y) :: st) S) : jJ X Y pc lv (.long y :: .long x :: st) S := fun ls H locs hl hP hS => lv_lsub C.1 C.2.1 d  (K ls H locs hl hP hS)
theorem j_lmul (C : jC X Y own cc ret nL fr lo) {x y : Int64} (d : decode cc pc = .ok (.lmul, 1))  (K : jJ X Y (pc + 1) lv (.long (x * y) :: st) S) : jJ X Y pc lv (.long y :: .long x :: st) S := fun ls H locs hl hP hS => lv_lmul C.1 C.2.1 d  (K ls H locs hl hP hS)
theorem j_ishl (C : jC X Y own cc ret nL fr lo) {x y : Int32} (d : decode cc pc = .ok (.ishl, 1))  (K : jJ X Y (pc + 1) lv (.int (x <<< (y &&& 31)) :: st) S) : jJ X Y pc lv (.int y :: .int x :: st) S := fun ls H locs hl hP hS => lv_ishl C.1 C.2.1 d  (K ls H locs hl hP hS)
theorem j_ishr (C : jC X Y own cc ret nL fr lo) {x y : Int32} (d : decode cc pc = .ok (.ishr, 1))  (K : jJ X Y (pc + 1) lv (.int (x >>> (y &&& 31)) :: st) S) : jJ X Y pc lv (.int y :: .int x :: st) S := fun ls H locs hl hP hS => lv_ishr C.1 C.2.1 d  (K ls H locs hl hP hS)
theorem j_ineg (C : jC X Y own cc ret nL fr lo) {x : Int32} (d : decode cc pc = .ok (.ineg, 1))  (K : jJ X Y (pc + 1) lv (.int (-x) :: st) S) : jJ X Y pc lv (.int x :: st) S := fun ls H locs hl hP hS => lv_ineg C.1 C.2.1 d  (K ls H locs hl hP hS)
theorem j_iushr (C : jC X Y own cc ret nL fr lo) {x y : Int32} (d : decode cc pc = .ok (.iushr, 1))  (K : jJ X Y (pc + 1) lv (.int (x.toUInt32 >>> (y.toUInt32 &&& Int32.toUInt32 31)).toInt32 :: st) S) : jJ X Y pc lv (.int y :: .int x :: st) S := fun ls H locs hl hP hS => lv_iushr C.1 C.2.1 d rfl (K ls H locs hl hP hS)
theorem j_lcmp (C : jC X Y own cc ret nL fr lo) {x y : Int64} (d : decode cc pc = .ok (.lcmp, 1))  (K : jJ X Y (pc + 1) lv (.int (lg_cmp x y) :: st) S) : jJ X Y pc lv (.long y :: .long x :: st) S := fun ls H locs hl hP hS => W.lcmp C.1 C.2.1 d  (K ls H locs hl hP hS)
theorem j_i2l (C : jC X Y own cc ret nL fr lo) {x : Int32} (d : decode cc pc = .ok (.i2l, 1))  (K : jJ X Y (pc + 1) lv (.long x.toInt64 :: st) S) : jJ X Y pc lv (.int x :: st) S := fun ls H locs hl hP hS => lv_i2l C.1 C.2.1 d rfl (K ls H locs hl hP hS)
theorem j_l2i (C : jC X Y own cc ret nL fr lo) {x : Int64} (d : decode cc pc = .ok (.l2i, 1))  (K : jJ X Y (pc + 1) lv (.int x.toInt32 :: st) S) : jJ X Y pc lv (.long x :: st) S := fun ls H locs hl hP hS => lv_l2i C.1 C.2.1 d rfl (K ls H locs hl hP hS)
theorem j_i2b (C : jC X Y own cc ret nL fr lo) {x : Int32} (d : decode cc pc = .ok (.i2b, 1))  (K : jJ X Y (pc + 1) lv (.int x.toInt8.toInt32 :: st) S) : jJ X Y pc lv (.int x :: st) S := fun ls H locs hl hP hS => lv_i2b C.1 C.2.1 d rfl (K ls H locs hl hP hS)
theorem j_iconst (C : jC X Y own cc ret nL fr lo) {n : Int} {v : Int32} (d : decode cc pc = .ok (.iconst n, 1)) (hv : Int32.ofInt n = v) (K : jJ X Y (pc + 1) lv (.int v :: st) S) : jJ X Y pc lv (st) S := fun ls H locs hl hP hS => lv_iconst C.1 C.2.1 d hv (K ls H locs hl hP hS)
theorem j_lconst (C : jC X Y own cc ret nL fr lo) {n : Fin 2} {v : Int64} (d : decode cc pc = .ok (.lconst n, 1)) (hv : Int64.ofNat (n : Nat) = v) (K : jJ X Y (pc + 1) lv (.long v :: st) S) : jJ X Y pc lv (st) S := fun ls H locs hl hP hS => lv_lconst C.1 C.2.1 d hv (K ls H locs hl hP hS)
theorem j_bipush (C : jC X Y own cc ret nL fr lo) {n : Int} {v : Int32} (d : decode cc pc = .ok (.bipush n, 2)) (hv : (Int8.ofInt n).toInt32 = v) (K : jJ X Y (pc + 2) lv (.int v :: st) S) : jJ X Y pc lv (st) S := fun ls H locs hl hP hS => lv_bipush C.1 C.2.1 d hv (K ls H locs hl hP hS)
theorem j_sipush (C : jC X Y own cc ret nL fr lo) {n : Int} {v : Int32} (d : decode cc pc = .ok (.sipush n, 3)) (hv : (Int16.ofInt n).toInt32 = v) (K : jJ X Y (pc + 3) lv (.int v :: st) S) : jJ X Y pc lv (st) S := fun ls H locs hl hP hS => lv_sipush C.1 C.2.1 d hv (K ls H locs hl hP hS)
theorem j_dup (C : jC X Y own cc ret nL fr lo) {va : Value} (d : decode cc pc = .ok (.dup, 1)) (hva : va.category = 1) (K : jJ X Y (pc + 1) lv (va :: va :: st) S) : jJ X Y pc lv (va :: st) S := fun ls H locs hl hP hS => lv_dup C.1 C.2.1 d hva (K ls H locs hl hP hS)
theorem j_dup2 (C : jC X Y own cc ret nL fr lo) {va vb : Value} (d : decode cc pc = .ok (.dup2, 1)) (hva : va.category = 1) (hvb : vb.category = 1) (K : jJ X Y (pc + 1) lv (va :: vb :: va :: vb :: st) S) : jJ X Y pc lv (va :: vb :: st) S := fun ls H locs hl hP hS => lv_dup2_11 C.1 C.2.1 d hva hvb (K ls H locs hl hP hS)
theorem j_pop (C : jC X Y own cc ret nL fr lo) {va : Value} (d : decode cc pc = .ok (.pop, 1)) (hva : va.category = 1) (K : jJ X Y (pc + 1) lv (st) S) : jJ X Y pc lv (va :: st) S := fun ls H locs hl hP hS => lv_pop C.1 C.2.1 d hva (K ls H locs hl hP hS)
theorem j_ldc (C : jC X Y own cc ret nL fr lo) {i : Nat} {v : Int32} (d : decode cc pc = .ok (.ldc i, 2)) (hw : Cond.constant own i v ∈ jT) (K : jJ X Y (pc + 2) lv (.int v :: st) S) : jJ X Y pc lv st S := fun ls H locs hl hP hS => lv_ldc C.1 C.2.1 C.2.2.2.1 (C.2.2.2.2.1 _ hw) d (K ls H locs hl hP hS)
theorem j_ldcw (C : jC X Y own cc ret nL fr lo) {i : Nat} {v : Int32} (d : decode cc pc = .ok (.ldc_w i, 3)) (hw : Cond.constant own i v ∈ jT) (K : jJ X Y (pc + 3) lv (.int v :: st) S) : jJ X Y pc lv st S := fun ls H locs hl hP hS => lv_ldcw C.1 C.2.1 C.2.2.2.1 (C.2.2.2.2.1 _ hw) d (K ls H locs hl hP hS)
theorem j_ldc2 (C : jC X Y own cc ret nL fr lo) {i : Nat} {v : Int64} (d : decode cc pc = .ok (.ldc2_w i, 3)) (hw : Cond.constantLong own i v ∈ jT) (K : jJ X Y (pc + 3) lv (.long v :: st) S) : jJ X Y pc lv st S := fun ls H locs hl hP hS => lv_ldc2 C.1 C.2.1 C.2.2.2.1 (C.2.2.2.2.1 _ hw) d (K ls H locs hl hP hS)
theorem j_iload_n (C : jC X Y own cc ret nL fr lo) {k : Fin 4} {x : Int32} (d : decode cc pc = .ok (.iload_n k, 1)) (q : Nat) (h : lv[q]? = some ((k : Nat), .int x)) (K : jJ X Y (pc + 1) lv (.int x :: st) S) : jJ X Y pc lv st S := fun ls H locs hl hP hS => lv_iload_n C.1 C.2.1 d rfl (lv_at hl q h) (K ls H locs hl hP hS)
theorem j_iload (C : jC X Y own cc ret nL fr lo) {i : Nat} {x : Int32} (d : decode cc pc = .ok (.iload i, 2)) (q : Nat) (h : lv[q]? = some (i, .int x)) (K : jJ X Y (pc + 2) lv (.int x :: st) S) : jJ X Y pc lv st S := fun ls H locs hl hP hS => lv_iload C.1 C.2.1 d (lv_at hl q h) (K ls H locs hl hP hS)
theorem j_lload_n (C : jC X Y own cc ret nL fr lo) {k : Fin 4} {x : Int64} (d : decode cc pc = .ok (.lload_n k, 1)) (q : Nat) (h : lv[q]? = some ((k : Nat), .long x)) (K : jJ X Y (pc + 1) lv (.long x :: st) S) : jJ X Y pc lv st S := fun ls H locs hl hP hS => lv_lload_n C.1 C.2.1 d rfl (lv_at hl q h) (K ls H locs hl hP hS)
theorem j_lload (C : jC X Y own cc ret nL fr lo) {i : Nat} {x : Int64} (d : decode cc pc = .ok (.lload i, 2)) (q : Nat) (h : lv[q]? = some (i, .long x)) (K : jJ X Y (pc + 2) lv (.long x :: st) S) : jJ X Y pc lv st S := fun ls H locs hl hP hS => lv_lload C.1 C.2.1 d (lv_at hl q h) (K ls H locs hl hP hS)
theorem j_aload_n (C : jC X Y own cc ret nL fr lo) {k : Fin 4} {x : Nat} (d : decode cc pc = .ok (.aload_n k, 1)) (q : Nat) (h : lv[q]? = some ((k : Nat), .ref x)) (K : jJ X Y (pc + 1) lv (.ref x :: st) S) : jJ X Y pc lv st S := fun ls H locs hl hP hS => lv_aload_n C.1 C.2.1 d rfl (lv_at hl q h) (K ls H locs hl hP hS)
theorem j_aload (C : jC X Y own cc ret nL fr lo) {i : Nat} {x : Nat} (d : decode cc pc = .ok (.aload i, 2)) (q : Nat) (h : lv[q]? = some (i, .ref x)) (K : jJ X Y (pc + 2) lv (.ref x :: st) S) : jJ X Y pc lv st S := fun ls H locs hl hP hS => lv_aload C.1 C.2.1 d (lv_at hl q h) (K ls H locs hl hP hS)
theorem j_istore_n (C : jC X Y own cc ret nL fr lo) {k : Fin 4} {i : Nat} {x : Int32} {lv' : List (Nat × Value)} (d : decode cc pc = .ok (.istore_n k, 1)) (hi : (k : Nat) = i) (hn : i < nL) (hf : (i, Value.int x) :: lv.filter (fun q => !(q.1 == i) && !(q.1 + 1 == i && q.2.category == 2)) = lv') (K : jJ X Y (pc + 1) lv' st S) : jJ X Y pc lv (.int x :: st) S := fun ls H locs hl hP hS => lv_istore_n C.1 C.2.1 d hi hl (by rw [C.2.2.2.2.2.2.2.2.2.1]; exact hn) hf (fun ls' hl' => K ls' H locs hl' hP hS)
theorem j_istore (C : jC X Y own cc ret nL fr lo) {i : Nat} {x : Int32} {lv' : List (Nat × Value)} (d : decode cc pc = .ok (.istore i, 2)) (hn : i < nL) (hf : (i, Value.int x) :: lv.filter (fun q => !(q.1 == i) && !(q.1 + 1 == i && q.2.category == 2)) = lv') (K : jJ X Y (pc + 2) lv' st S) : jJ X Y pc lv (.int x :: st) S := fun ls H locs hl hP hS => lv_istore C.1 C.2.1 d hl (by rw [C.2.2.2.2.2.2.2.2.2.1]; exact hn) hf (fun ls' hl' => K ls' H locs hl' hP hS)
theorem j_lstore_n (C : jC X Y own cc ret nL fr lo) {k : Fin 4} {i : Nat} {x : Int64} {lv' : List (Nat × Value)} (d : decode cc pc = .ok (.lstore_n k, 1)) (hi : (k : Nat) = i) (hn : i + 1 < nL) (hf : (i, Value.long x) :: lv.filter (fun q => !(q.1 == i) && (!(q.1 == i + 1) && !(q.1 + 1 == i && q.2.category == 2))) = lv') (K : jJ X Y (pc + 1) lv' st S) : jJ X Y pc lv (.long x :: st) S := fun ls H locs hl hP hS => lv_lstore_n C.1 C.2.1 d hi hl (by rw [C.2.2.2.2.2.2.2.2.2.1]; exact hn) hf (fun ls' hl' => K ls' H locs hl' hP hS)
theorem j_lstore (C : jC X Y own cc ret nL fr lo) {i : Nat} {x : Int64} {lv' : List (Nat × Value)} (d : decode cc pc = .ok (.lstore i, 2)) (hn : i + 1 < nL) (hf : (i, Value.long x) :: lv.filter (fun q => !(q.1 == i) && (!(q.1 == i + 1) && !(q.1 + 1 == i && q.2.category == 2))) = lv') (K : jJ X Y (pc + 2) lv' st S) : jJ X Y pc lv (.long x :: st) S := fun ls H locs hl hP hS => lv_lstore C.1 C.2.1 d hl (by rw [C.2.2.2.2.2.2.2.2.2.1]; exact hn) hf (fun ls' hl' => K ls' H locs hl' hP hS)
theorem j_astore_n (C : jC X Y own cc ret nL fr lo) {k : Fin 4} {i : Nat} {x : Nat} {lv' : List (Nat × Value)} (d : decode cc pc = .ok (.astore_n k, 1)) (hi : (k : Nat) = i) (hn : i < nL) (hf : (i, Value.ref x) :: lv.filter (fun q => !(q.1 == i) && !(q.1 + 1 == i && q.2.category == 2)) = lv') (K : jJ X Y (pc + 1) lv' st S) : jJ X Y pc lv (.ref x :: st) S := fun ls H locs hl hP hS => lv_astore_n C.1 C.2.1 d hi hl (by rw [C.2.2.2.2.2.2.2.2.2.1]; exact hn) hf (fun ls' hl' => K ls' H locs hl' hP hS)
theorem j_astore (C : jC X Y own cc ret nL fr lo) {i : Nat} {x : Nat} {lv' : List (Nat × Value)} (d : decode cc pc = .ok (.astore i, 2)) (hn : i < nL) (hf : (i, Value.ref x) :: lv.filter (fun q => !(q.1 == i) && !(q.1 + 1 == i && q.2.category == 2)) = lv') (K : jJ X Y (pc + 2) lv' st S) : jJ X Y pc lv (.ref x :: st) S := fun ls H locs hl hP hS => lv_astore C.1 C.2.1 d hl (by rw [C.2.2.2.2.2.2.2.2.2.1]; exact hn) hf (fun ls' hl' => K ls' H locs hl' hP hS)
theorem j_iinc (C : jC X Y own cc ret nL fr lo) {i : Nat} {n : Int} {x v : Int32} {lv' : List (Nat × Value)} (d : decode cc pc = .ok (.iinc i n, 3)) (q : Nat) (h : lv[q]? = some (i, .int x)) (hv : x + Int32.ofInt n = v) (hn : i < nL) (hf : (i, Value.int v) :: lv.filter (fun q => !(q.1 == i) && !(q.1 + 1 == i && q.2.category == 2)) = lv') (K : jJ X Y (pc + 3) lv' st S) : jJ X Y pc lv st S := fun ls H locs hl hP hS => lv_iinc C.1 C.2.1 d hl h hv (by rw [C.2.2.2.2.2.2.2.2.2.1]; exact hn) hf (fun ls' hl' => K ls' H locs hl' hP hS)
theorem j_goto (C : jC X Y own cc ret nL fr lo) {off : Int} {tgt : Nat} (d : decode cc pc = .ok (.goto off, 3)) (ht : (pc : Int) + off = (tgt : Int)) (K : jJ X Y tgt lv st S) : jJ X Y pc lv st S := fun ls H locs hl hP hS => lv_goto C.1 C.2.1 d ht (K ls H locs hl hP hS)
theorem j_ifnonnull (C : jC X Y own cc ret nL fr lo) {x : Nat} {off : Int} {tgt : Nat} (d : decode cc pc = .ok (.ifnonnull off, 3)) (ht : (pc : Int) + off = (tgt : Int)) (K : jJ X Y tgt lv st S) : jJ X Y pc lv (.ref x :: st) S := fun ls H locs hl hP hS => lv_ifnonnull C.1 C.2.1 d ht (K ls H locs hl hP hS)
theorem j_ifnull (C : jC X Y own cc ret nL fr lo) {x : Nat} {off : Int} (d : decode cc pc = .ok (.ifnull off, 3)) (K : jJ X Y (pc + 3) lv st S) : jJ X Y pc lv (.ref x :: st) S := fun ls H locs hl hP hS => lv_ifnull C.1 C.2.1 d (K ls H locs hl hP hS)
theorem j_icmp_eq (C : jC X Y own cc ret nL fr lo) {x y : Int32} {off : Int} {tgt : Nat} (d : decode cc pc = .ok (.if_icmp .eq off, 3)) (ht : (pc : Int) + off = (tgt : Int)) (hE : (if x = y then E1 else E2) = some z) (kt : E1 = some z → jJ X Y tgt lv st S) (kf : E2 = some z → jJ X Y (pc + 3) lv st S) : jJ X Y pc lv (.int y :: .int x :: st) S := fun ls H locs hl hP hS => lv_icmp_eq C.1 C.2.1 d ht (fun c => kt (by rw [if_pos (c)] at hE; exact hE) ls H locs hl hP hS) (fun c => kf (by rw [if_neg (c)] at hE; exact hE) ls H locs hl hP hS)
theorem j_icmp_ne (C : jC X Y own cc ret nL fr lo) {x y : Int32} {off : Int} {tgt : Nat} (d : decode cc pc = .ok (.if_icmp .ne off, 3)) (ht : (pc : Int) + off = (tgt : Int)) (hE : (if x = y then E1 else E2) = some z) (kt : E2 = some z → jJ X Y tgt lv st S) (kf : E1 = some z → jJ X Y (pc + 3) lv st S) : jJ X Y pc lv (.int y :: .int x :: st) S := fun ls H locs hl hP hS => lv_icmp_ne C.1 C.2.1 d ht (fun c => kt (by rw [if_neg (c)] at hE; exact hE) ls H locs hl hP hS) (fun c => kf (by rw [if_pos (c)] at hE; exact hE) ls H locs hl hP hS)
theorem j_icmp_lt (C : jC X Y own cc ret nL fr lo) {x y : Int32} {off : Int} {tgt : Nat} (d : decode cc pc = .ok (.if_icmp .lt off, 3)) (ht : (pc : Int) + off = (tgt : Int)) (hE : (if x < y then E1 else E2) = some z) (kt : E1 = some z → jJ X Y tgt lv st S) (kf : E2 = some z → jJ X Y (pc + 3) lv st S) : jJ X Y pc lv (.int y :: .int x :: st) S := fun ls H locs hl hP hS => lv_icmp_lt C.1 C.2.1 d ht (fun c => kt (by rw [if_pos (c)] at hE; exact hE) ls H locs hl hP hS) (fun c => kf (by rw [if_neg (c)] at hE; exact hE) ls H locs hl hP hS)
theorem j_icmp_ge (C : jC X Y own cc ret nL fr lo) {x y : Int32} {off : Int} {tgt : Nat} (d : decode cc pc = .ok (.if_icmp .ge off, 3)) (ht : (pc : Int) + off = (tgt : Int)) (hE : (if x < y then E1 else E2) = some z) (kt : E2 = some z → jJ X Y tgt lv st S) (kf : E1 = some z → jJ X Y (pc + 3) lv st S) : jJ X Y pc lv (.int y :: .int x :: st) S := fun ls H locs hl hP hS => lv_icmp_ge C.1 C.2.1 d ht (fun c => kt (by rw [if_neg (Int32.not_lt.mpr c)] at hE; exact hE) ls H locs hl hP hS) (fun c => kf (by rw [if_pos (Int32.not_le.mp c)] at hE; exact hE) ls H locs hl hP hS)
theorem j_icmp_gt (C : jC X Y own cc ret nL fr lo) {x y : Int32} {off : Int} {tgt : Nat} (d : decode cc pc = .ok (.if_icmp .gt off, 3)) (ht : (pc : Int) + off = (tgt : Int)) (hE : (if y < x then E1 else E2) = some z) (kt : E1 = some z → jJ X Y tgt lv st S) (kf : E2 = some z → jJ X Y (pc + 3) lv st S) : jJ X Y pc lv (.int y :: .int x :: st) S := fun ls H locs hl hP hS => lv_icmp_gt C.1 C.2.1 d ht (fun c => kt (by rw [if_pos (c)] at hE; exact hE) ls H locs hl hP hS) (fun c => kf (by rw [if_neg (c)] at hE; exact hE) ls H locs hl hP hS)
theorem j_icmp_le (C : jC X Y own cc ret nL fr lo) {x y : Int32} {off : Int} {tgt : Nat} (d : decode cc pc = .ok (.if_icmp .le off, 3)) (ht : (pc : Int) + off = (tgt : Int)) (hE : (if y < x then E1 else E2) = some z) (kt : E2 = some z → jJ X Y tgt lv st S) (kf : E1 = some z → jJ X Y (pc + 3) lv st S) : jJ X Y pc lv (.int y :: .int x :: st) S := fun ls H locs hl hP hS => lv_icmp_le C.1 C.2.1 d ht (fun c => kt (by rw [if_neg (Int32.not_lt.mpr c)] at hE; exact hE) ls H locs hl hP hS) (fun c => kf (by rw [if_pos (Int32.not_le.mp c)] at hE; exact hE) ls H locs hl hP hS)
theorem j_if_eq (C : jC X Y own cc ret nL fr lo) {x : Int32} {off : Int} {tgt : Nat} (d : decode cc pc = .ok (.ifCond .eq off, 3)) (ht : (pc : Int) + off = (tgt : Int)) (hE : (if x = 0 then E1 else E2) = some z) (kt : E1 = some z → jJ X Y tgt lv st S) (kf : E2 = some z → jJ X Y (pc + 3) lv st S) : jJ X Y pc lv (.int x :: st) S := fun ls H locs hl hP hS => lv_if_eq C.1 C.2.1 d ht (fun c => kt (by rw [if_pos (c)] at hE; exact hE) ls H locs hl hP hS) (fun c => kf (by rw [if_neg (c)] at hE; exact hE) ls H locs hl hP hS)
theorem j_if_ne (C : jC X Y own cc ret nL fr lo) {x : Int32} {off : Int} {tgt : Nat} (d : decode cc pc = .ok (.ifCond .ne off, 3)) (ht : (pc : Int) + off = (tgt : Int)) (hE : (if x = 0 then E1 else E2) = some z) (kt : E2 = some z → jJ X Y tgt lv st S) (kf : E1 = some z → jJ X Y (pc + 3) lv st S) : jJ X Y pc lv (.int x :: st) S := fun ls H locs hl hP hS => lv_if_ne C.1 C.2.1 d ht (fun c => kt (by rw [if_neg (c)] at hE; exact hE) ls H locs hl hP hS) (fun c => kf (by rw [if_pos (c)] at hE; exact hE) ls H locs hl hP hS)
theorem j_if_lt (C : jC X Y own cc ret nL fr lo) {x : Int32} {off : Int} {tgt : Nat} (d : decode cc pc = .ok (.ifCond .lt off, 3)) (ht : (pc : Int) + off = (tgt : Int)) (hE : (if x < 0 then E1 else E2) = some z) (kt : E1 = some z → jJ X Y tgt lv st S) (kf : E2 = some z → jJ X Y (pc + 3) lv st S) : jJ X Y pc lv (.int x :: st) S := fun ls H locs hl hP hS => lv_if_lt C.1 C.2.1 d ht (fun c => kt (by rw [if_pos (c)] at hE; exact hE) ls H locs hl hP hS) (fun c => kf (by rw [if_neg (c)] at hE; exact hE) ls H locs hl hP hS)
theorem j_if_ge (C : jC X Y own cc ret nL fr lo) {x : Int32} {off : Int} {tgt : Nat} (d : decode cc pc = .ok (.ifCond .ge off, 3)) (ht : (pc : Int) + off = (tgt : Int)) (hE : (if x < 0 then E1 else E2) = some z) (kt : E2 = some z → jJ X Y tgt lv st S) (kf : E1 = some z → jJ X Y (pc + 3) lv st S) : jJ X Y pc lv (.int x :: st) S := fun ls H locs hl hP hS => lv_if_ge C.1 C.2.1 d ht (fun c => kt (by rw [if_neg (Int32.not_lt.mpr c)] at hE; exact hE) ls H locs hl hP hS) (fun c => kf (by rw [if_pos (Int32.not_le.mp c)] at hE; exact hE) ls H locs hl hP hS)
theorem j_if_gt (C : jC X Y own cc ret nL fr lo) {x : Int32} {off : Int} {tgt : Nat} (d : decode cc pc = .ok (.ifCond .gt off, 3)) (ht : (pc : Int) + off = (tgt : Int)) (hE : (if 0 < x then E1 else E2) = some z) (kt : E1 = some z → jJ X Y tgt lv st S) (kf : E2 = some z → jJ X Y (pc + 3) lv st S) : jJ X Y pc lv (.int x :: st) S := fun ls H locs hl hP hS => lv_if_gt C.1 C.2.1 d ht (fun c => kt (by rw [if_pos (c)] at hE; exact hE) ls H locs hl hP hS) (fun c => kf (by rw [if_neg (c)] at hE; exact hE) ls H locs hl hP hS)
theorem j_if_le (C : jC X Y own cc ret nL fr lo) {x : Int32} {off : Int} {tgt : Nat} (d : decode cc pc = .ok (.ifCond .le off, 3)) (ht : (pc : Int) + off = (tgt : Int)) (hE : (if 0 < x then E1 else E2) = some z) (kt : E2 = some z → jJ X Y tgt lv st S) (kf : E1 = some z → jJ X Y (pc + 3) lv st S) : jJ X Y pc lv (.int x :: st) S := fun ls H locs hl hP hS => lv_if_le C.1 C.2.1 d ht (fun c => kt (by rw [if_neg (Int32.not_lt.mpr c)] at hE; exact hE) ls H locs hl hP hS) (fun c => kf (by rw [if_pos (Int32.not_le.mp c)] at hE; exact hE) ls H locs hl hP hS)
theorem j_idiv (C : jC X Y own cc ret nL fr lo) {x y : Int32} {E : Int32 → Option β} (d : decode cc pc = .ok (.idiv, 1)) (hE : jdv x y E = some z) (K : ∀ v : Int32, E v = some z → jJ X Y (pc + 1) lv (.int v :: st) S) : jJ X Y pc lv (.int y :: .int x :: st) S := fun ls H locs hl hP hS => lv_idiv C.1 C.2.1 d (jin_some hE).1 (K _ (jin_some hE).2 ls H locs hl hP hS)
theorem j_irem (C : jC X Y own cc ret nL fr lo) {x y : Int32} {E : Int32 → Option β} (d : decode cc pc = .ok (.irem, 1)) (hE : jrm x y E = some z) (K : ∀ v : Int32, E v = some z → jJ X Y (pc + 1) lv (.int v :: st) S) : jJ X Y pc lv (.int y :: .int x :: st) S := fun ls H locs hl hP hS => lv_irem C.1 C.2.1 d (jin_some hE).1 (K _ (jin_some hE).2 ls H locs hl hP hS)
theorem j_ldiv (C : jC X Y own cc ret nL fr lo) {x y : Int64} {E : Int64 → Option β} (d : decode cc pc = .ok (.ldiv, 1)) (hE : jdl x y E = some z) (K : ∀ v : Int64, E v = some z → jJ X Y (pc + 1) lv (.long v :: st) S) : jJ X Y pc lv (.long y :: .long x :: st) S := fun ls H locs hl hP hS => lv_ldiv C.1 C.2.1 d (jin_some hE).1 (K _ (jin_some hE).2 ls H locs hl hP hS)
theorem j_lrem (C : jC X Y own cc ret nL fr lo) {x y : Int64} {E : Int64 → Option β} (d : decode cc pc = .ok (.lrem, 1)) (hE : jrl x y E = some z) (K : ∀ v : Int64, E v = some z → jJ X Y (pc + 1) lv (.long v :: st) S) : jJ X Y pc lv (.long y :: .long x :: st) S := fun ls H locs hl hP hS => lv_lrem C.1 C.2.1 d (jin_some hE).1 (K _ (jin_some hE).2 ls H locs hl hP hS)
theorem j_tin (C : jC X Y own cc ret nL fr lo) {dflt a b : Int} {offs : Array Int} {len : Nat} {x : Int32} {off : Int} {tgt : Nat} (d : decode cc pc = .ok (.tableswitch dflt a b offs, len)) (h1 : ¬ x.toInt < a) (h2 : ¬ b < x.toInt) (ho : offs[(x.toInt - a).toNat]? = some off) (ht : (pc : Int) + off = (tgt : Int)) (K : jJ X Y tgt lv st S) : jJ X Y pc lv (.int x :: st) S := fun ls H locs hl hP hS => lv_tableIn C.1 C.2.1 d h1 h2 ho ht (K ls H locs hl hP hS)
theorem j_tout (C : jC X Y own cc ret nL fr lo) {dflt a b : Int} {offs : Array Int} {len : Nat} {x : Int32} {tgt : Nat} (d : decode cc pc = .ok (.tableswitch dflt a b offs, len)) (h : x.toInt < a ∨ b < x.toInt) (ht : (pc : Int) + dflt = (tgt : Int)) (K : jJ X Y tgt lv st S) : jJ X Y pc lv (.int x :: st) S := fun ls H locs hl hP hS => lv_tableOut C.1 C.2.1 d h ht (K ls H locs hl hP hS)
theorem j_case {P : Prop} {x c : Int32} (hE : (if x = c then E1 else E2) = some z) (kt : x = c → E1 = some z → P) (kf : ¬ x = c → E2 = some z → P) : P := by
  by_cases h : x = c
  · rw [if_pos h] at hE; exact kt h hE
  · rw [if_neg h] at hE; exact kf h hE
theorem j_V {X : jX} {Y : jY} {t : State} {H : Heap} {locs : List Loc} (hO : jOk Y) (hV : yV Y (xs X)) (ht : t.heap = H) (hW : (xs X).WarmedH t.vm) (hS : va_S (yA Y) (xs X).heap H locs) : yV Y t := hO.2.2.1 (xs X) t hV hW (by rw [ht]; exact hS.1) (fun q h1 h2 => by rw [ht]; exact hS.2.1 q h1 h2)
theorem j_iret (C : jC X Y own cc (some .int) nL fr lo) {r : Int32} {z : Int32 × jS} (Q : jRet X Y (some (.int z.1), z.2)) (d : decode cc pc = .ok (.ireturn, 1))  (hE : some (r, S) = some z) : jJ X Y pc lv [.int r] S := by
  obtain ⟨hx, hb, hml, hown, hts, hK, hO, hlk, hr, -, -, -, -, -, hV⟩ := C
  
  cases hE
  intro ls H locs hl hP hS
  have h := W.iret (p := xp X) (l := xl X) (e := xe X) (R := xR X) (s := xs X) (m := xm X) (args := xa X) (below := xb X) (meth := xh X) (c := xc X) (H := H) (locs := locs) (cells := xk X) (slots := xn X) (ls := ls) (Qc := jQ Y (some (.int r), S)) (free := yA Y) (v := r) hx hb hr  (fun t ht hW => ⟨rfl, ⟨by rw [ht]; exact hP, va_K.moved hW.alike hK, j_V hO hV ht hW hS⟩, hS.F ht⟩) hS.2.2 d hlk
  unfold jRet at Q
  show W _ _ _ _ _ _ _ _ _ _ _ _ _ _ (xQ X) _
  rw [Q]
  exact h
theorem j_lret (C : jC X Y own cc (some .long) nL fr lo) {r : Int64} {z : Int64 × jS} (Q : jRet X Y (some (.long z.1), z.2)) (d : decode cc pc = .ok (.lreturn, 1))  (hE : some (r, S) = some z) : jJ X Y pc lv [.long r] S := by
  obtain ⟨hx, hb, hml, hown, hts, hK, hO, hlk, hr, -, -, -, -, -, hV⟩ := C
  
  cases hE
  intro ls H locs hl hP hS
  have h := W.lret (p := xp X) (l := xl X) (e := xe X) (R := xR X) (s := xs X) (m := xm X) (args := xa X) (below := xb X) (meth := xh X) (c := xc X) (H := H) (locs := locs) (cells := xk X) (slots := xn X) (ls := ls) (Qc := jQ Y (some (.long r), S)) (free := yA Y) (v := r) hx hb hr  (fun t ht hW => ⟨rfl, ⟨by rw [ht]; exact hP, va_K.moved hW.alike hK, j_V hO hV ht hW hS⟩, hS.F ht⟩) hS.2.2 d hlk
  unfold jRet at Q
  show W _ _ _ _ _ _ _ _ _ _ _ _ _ _ (xQ X) _
  rw [Q]
  exact h
theorem j_vret (C : jC X Y own cc (none) nL fr lo)  {z : jS} (Q : jRet X Y (none, z)) (d : decode cc pc = .ok (.return_, 1))  (hE : some S = some z) : jJ X Y pc lv [] S := by
  obtain ⟨hx, hb, hml, hown, hts, hK, hO, hlk, hr, -, -, -, -, -, hV⟩ := C
  
  cases hE
  intro ls H locs hl hP hS
  have h := W.vret (p := xp X) (l := xl X) (e := xe X) (R := xR X) (s := xs X) (m := xm X) (args := xa X) (below := xb X) (meth := xh X) (c := xc X) (H := H) (locs := locs) (cells := xk X) (slots := xn X) (ls := ls) (Qc := jQ Y (none, S)) (free := yA Y)  hx hb hr  (fun t ht hW => ⟨rfl, ⟨by rw [ht]; exact hP, va_K.moved hW.alike hK, j_V hO hV ht hW hS⟩, hS.F ht⟩) hS.2.2 d hlk
  unfold jRet at Q
  show W _ _ _ _ _ _ _ _ _ _ _ _ _ _ (xQ X) _
  rw [Q]
  exact h
theorem j_zret (C : jC X Y own cc (some .boolean) nL fr lo) {r : Int32} {z : Int32 × jS} (Q : jRet X Y (some (.int z.1), z.2)) (d : decode cc pc = .ok (.ireturn, 1)) (hE : jzr r S = some z) : jJ X Y pc lv [.int r] S := by
  obtain ⟨hx, hb, hml, hown, hts, hK, hO, hlk, hr, -, -, -, -, -, hV⟩ := C
  obtain ⟨hn, hE⟩ := jif_some hE
  cases hE
  intro ls H locs hl hP hS
  have h := W.zret (p := xp X) (l := xl X) (e := xe X) (R := xR X) (s := xs X) (m := xm X) (args := xa X) (below := xb X) (meth := xh X) (c := xc X) (H := H) (locs := locs) (cells := xk X) (slots := xn X) (ls := ls) (Qc := jQ Y (some (.int r), S)) (free := yA Y) (v := r) hx hb hr (by show Value.int (r &&& 1) = _; rw [hn]) (fun t ht hW => ⟨rfl, ⟨by rw [ht]; exact hP, va_K.moved hW.alike hK, j_V hO hV ht hW hS⟩, hS.F ht⟩) hS.2.2 d hlk
  unfold jRet at Q
  show W _ _ _ _ _ _ _ _ _ _ _ _ _ _ (xQ X) _
  rw [Q]
  exact h
theorem jsR_same (S : jS) (k : Nat) (f : Nat → Int32) : (jsR S k f).1 k = f := by unfold jsR; exact if_pos rfl
theorem jsR_other (S : jS) {k j : Nat} (f : Nat → Int32) (h : j ≠ k) : (jsR S k f).1 j = S.1 j ∧ (jsR S k f).2 j = S.2 j := by unfold jsR; exact ⟨if_neg h, rfl⟩
theorem jsL_same (S : jS) (k j : Nat) (v : Int64) : (jsL S k j v).2 k = vp_updL (S.2 k) j v := by unfold jsL; exact if_pos rfl
theorem jsL_other (S : jS) {k i : Nat} (j : Nat) (v : Int64) (h : i ≠ k) : (jsL S k j v).1 i = S.1 i ∧ (jsL S k j v).2 i = S.2 i := by unfold jsL; exact ⟨rfl, if_neg h⟩
/-- a getfield: the k-th cell is an object of the ci-th class, its fields are fs, the f-th of them is v -/
theorem j_get (C : jC X Y own cc ret nL fr lo) {k ci f idx N : Nat} {fs : List Value} {v : Value} {Cn ref : String} {T : u_T} (hk : k < yN Y) (he : yE Y k (S.1 k) (S.2 k) = .inr (ci, fs)) (hc : (ycl Y)[ci]? = some (Cn, T, N)) (hin : ∀ w ∈ u_ws Cn T N, w ∈ jT) (hf : f < N) (hl : Cond.fieldLink own idx ref (T f).2.1 (T f).2.2.1 ∈ jT) (hsame : ref = (T f).1 ∨ Cond.sameField ref (T f).1 (T f).2.1 (T f).2.2.1 ∈ jT) (hv : fs[f]? = some v) (d : decode cc pc = .ok (.getfield idx, 3)) (K : jJ X Y (pc + 3) lv (v :: st) S) : jJ X Y pc lv (.ref (yad Y k) :: st) S := by
  obtain ⟨hx, hb, hml, hown, hts, hK, hO, hlk, hr, -, -, -, -, -, hV⟩ := C
  intro ls H locs hl' hP hS
  refine va_get (D := yD Y) (ci := ci) (v := v) (C := Cn) (T := T) (N := N) hx hb hts hin hown hK hP k (by rw [jw_get Y S hk, he]) hc f hf (hts _ hl) ?_ hv d (K ls H locs hl' hP hS)
  rcases hsame with h | h
  · rw [h]; exact fun _ h9 => h9
  · exact u_same (hts _ h)
theorem j_putI (C : jC X Y own cc ret nL fr lo) {k ci f idx N : Nat} {fs : List Value} {x : Int32} {Cn : String} {T : u_T} {E : jS → Option β} (hk : k < yN Y) (he : yE Y k (S.1 k) (S.2 k) = .inr (ci, fs)) (he' : yE Y k (upd (S.1 k) f x) (S.2 k) = .inr (ci, fs.set f (.int x))) (hc : (ycl Y)[ci]? = some (Cn, T, N)) (hin : ∀ w ∈ u_ws Cn T N, w ∈ jT) (ty0 : Nat → FieldType) (hty : ∀ k, k < N → parseFieldDescriptor (T k).2.2.1 = some (ty0 k)) (hnm : ∀ a, a < N → ∀ b, b < N → a ≠ b → (T a).2.1 ≠ (T b).2.1) (hf : f < N) (hl : Cond.fieldLink own idx (T f).1 (T f).2.1 (T f).2.2.1 ∈ jT) (hfin : (T f).2.2.2 = false) (hd : parseFieldDescriptor (T f).2.2.1 = some .int) (hlen : f < fs.length) (d : decode cc pc = .ok (.putfield idx, 3)) (hE : jpt S k f x E = some z) (K : ∀ S', E S' = some z → jJ X Y (pc + 3) lv st S') : jJ X Y pc lv (.int x :: .ref (yad Y k) :: st) S := by
  obtain ⟨hx, hb, hml, hown, hts, hK, hO, hlk, hr, -, -, -, -, -, hV⟩ := C
  intro ls H locs hl' hP hS
  refine va_put (D := yD Y) (ci := ci) (v := .int x) (ty := .int) (C := Cn) (T := T) (N := N) hx hb hts hin ty0 hty hnm hown hK hP (jw_D hO S) hS k (by rw [jw_get Y S hk, he]) hc f hf (hts _ hl) (fun _ h9 => h9) hfin hd rfl rfl hlen d (fun H1 locs1 hP1 hD1 hS1 => ?_)
  rw [jw_set (S' := jsI S k f x) hk (by unfold jsI; rw [jsR_same]; exact he') (fun j hj => jsR_other S _ hj)] at hP1
  exact K _ hE ls H1 locs1 hl' hP1 hS1
theorem j_putL (C : jC X Y own cc ret nL fr lo) {k ci f idx N : Nat} {fs : List Value} {x : Int64} {Cn : String} {T : u_T} {E : jS → Option β} (hk : k < yN Y) (he : yE Y k (S.1 k) (S.2 k) = .inr (ci, fs)) (he' : yE Y k (S.1 k) (vp_updL (S.2 k) f x) = .inr (ci, fs.set f (.long x))) (hc : (ycl Y)[ci]? = some (Cn, T, N)) (hin : ∀ w ∈ u_ws Cn T N, w ∈ jT) (ty0 : Nat → FieldType) (hty : ∀ k, k < N → parseFieldDescriptor (T k).2.2.1 = some (ty0 k)) (hnm : ∀ a, a < N → ∀ b, b < N → a ≠ b → (T a).2.1 ≠ (T b).2.1) (hf : f < N) (hl : Cond.fieldLink own idx (T f).1 (T f).2.1 (T f).2.2.1 ∈ jT) (hfin : (T f).2.2.2 = false) (hd : parseFieldDescriptor (T f).2.2.1 = some .long) (hlen : f < fs.length) (d : decode cc pc = .ok (.putfield idx, 3)) (hE : jpl S k f x E = some z) (K : ∀ S', E S' = some z → jJ X Y (pc + 3) lv st S') : jJ X Y pc lv (.long x :: .ref (yad Y k) :: st) S := by
  obtain ⟨hx, hb, hml, hown, hts, hK, hO, hlk, hr, -, -, -, -, -, hV⟩ := C
  intro ls H locs hl' hP hS
  refine va_put (D := yD Y) (ci := ci) (v := .long x) (ty := .long) (C := Cn) (T := T) (N := N) hx hb hts hin ty0 hty hnm hown hK hP (jw_D hO S) hS k (by rw [jw_get Y S hk, he]) hc f hf (hts _ hl) (fun _ h9 => h9) hfin hd rfl rfl hlen d (fun H1 locs1 hP1 hD1 hS1 => ?_)
  rw [jw_set (S' := jsL S k f x) hk (by rw [jsL_same]; exact he') (fun j hj => jsL_other S _ _ hj)] at hP1
  exact K _ hE ls H1 locs1 hl' hP1 hS1
theorem j_alen (C : jC X Y own cc ret nL fr lo) {k t n : Nat} {cA : ClassId} {a : vp_A} {ty : FieldType} {v : Int32} (hk : k < yN Y) (he : yE Y k (S.1 k) (S.2 k) = .inl (cA, a)) (ht : (yt Y)[t]? = some (cA, ty)) (hv : Int32.ofNat a.1 = v) (d : decode cc pc = .ok (.arraylength, 1)) (K : jJ X Y (pc + 1) lv (.int v :: st) S) : jJ X Y pc lv (.ref (yad Y k) :: st) S := fun ls H locs hl hP hS => va_alen C.1 C.2.1 C.2.2.2.2.2.1 hP k t (by rw [jw_get Y S hk, he]) ht hv d (K ls H locs hl hP hS)
theorem j_iald (C : jC X Y own cc ret nL fr lo) {k t n : Nat} {cA : ClassId} {i : Int32} {E : Int32 → Option β} (hk : k < yN Y) (he : yE Y k (S.1 k) (S.2 k) = .inl (cA, n, .inl (S.1 k))) (ht : (yt Y)[t]? = some (cA, .int)) (d : decode cc pc = .ok (.iaload, 1)) (hE : jld S k i n E = some z) (K : ∀ v : Int32, E v = some z → jJ X Y (pc + 1) lv (.int v :: st) S) : jJ X Y pc lv (.int i :: .ref (yad Y k) :: st) S := fun ls H locs hl hP hS => va_iald C.1 C.2.1 C.2.2.2.2.2.1 hP k t (by rw [jw_get Y S hk, he]) ht (jb_in (jif_some hE).1) d (K _ (jif_some hE).2 ls H locs hl hP hS)
theorem j_bald (C : jC X Y own cc ret nL fr lo) {k t n : Nat} {cA : ClassId} {i : Int32} {E : Int32 → Option β} (hk : k < yN Y) (he : yE Y k (S.1 k) (S.2 k) = .inl (cA, n, .inl (S.1 k))) (ht : (yt Y)[t]? = some (cA, .byte)) (d : decode cc pc = .ok (.baload, 1)) (hE : jld S k i n E = some z) (K : ∀ v : Int32, E v = some z → jJ X Y (pc + 1) lv (.int v :: st) S) : jJ X Y pc lv (.int i :: .ref (yad Y k) :: st) S := fun ls H locs hl hP hS => va_bald C.1 C.2.1 C.2.2.2.2.2.1 hP k t (by rw [jw_get Y S hk, he]) ht (jb_in (jif_some hE).1) d (K _ (jif_some hE).2 ls H locs hl hP hS)
theorem j_zald (C : jC X Y own cc ret nL fr lo) {k t n : Nat} {cA : ClassId} {i : Int32} {E : Int32 → Option β} (hk : k < yN Y) (he : yE Y k (S.1 k) (S.2 k) = .inl (cA, n, .inl (S.1 k))) (ht : (yt Y)[t]? = some (cA, .boolean)) (d : decode cc pc = .ok (.baload, 1)) (hE : jld S k i n E = some z) (K : ∀ v : Int32, E v = some z → jJ X Y (pc + 1) lv (.int v :: st) S) : jJ X Y pc lv (.int i :: .ref (yad Y k) :: st) S := fun ls H locs hl hP hS => va_zald C.1 C.2.1 C.2.2.2.2.2.1 hP k t (by rw [jw_get Y S hk, he]) ht (jb_in (jif_some hE).1) d (K _ (jif_some hE).2 ls H locs hl hP hS)
theorem j_iast (C : jC X Y own cc ret nL fr lo) {k t n : Nat} {cA : ClassId} {i x : Int32} {E : jS → Option β} (hk : k < yN Y) (he : ∀ f : Nat → Int32, yE Y k f (S.2 k) = .inl (cA, n, .inl f)) (ht : (yt Y)[t]? = some (cA, .int)) (d : decode cc pc = .ok (.iastore, 1)) (hE : jst S k i n (x) E = some z) (K : ∀ S', E S' = some z → jJ X Y (pc + 1) lv st S') : jJ X Y pc lv (.int x :: .int i :: .ref (yad Y k) :: st) S := by
  obtain ⟨hx, hb, hml, hown, hts, hK, hO, hlk, hr, -, -, -, -, -, hV⟩ := C
  intro ls H locs hl hP hS
  refine va_iast hx hb hK hP (jw_D hO S) hS k t (by rw [jw_get Y S hk, he]) ht (jb_in (jif_some hE).1) d (fun H1 locs1 hP1 hD1 hS1 => ?_)
  rw [jw_set (S' := jsI S k i.toNatClampNeg (x)) hk (by unfold jsI; rw [jsR_same]; exact he _) (fun j hj => jsR_other S _ hj)] at hP1
  exact K _ (jif_some hE).2 ls H1 locs1 hl hP1 hS1
theorem j_bast (C : jC X Y own cc ret nL fr lo) {k t n : Nat} {cA : ClassId} {i x : Int32} {E : jS → Option β} (hk : k < yN Y) (he : ∀ f : Nat → Int32, yE Y k f (S.2 k) = .inl (cA, n, .inl f)) (ht : (yt Y)[t]? = some (cA, .byte)) (d : decode cc pc = .ok (.bastore, 1)) (hE : jst S k i n (vp_nar .byte x) E = some z) (K : ∀ S', E S' = some z → jJ X Y (pc + 1) lv st S') : jJ X Y pc lv (.int x :: .int i :: .ref (yad Y k) :: st) S := by
  obtain ⟨hx, hb, hml, hown, hts, hK, hO, hlk, hr, -, -, -, -, -, hV⟩ := C
  intro ls H locs hl hP hS
  refine va_bast hx hb hK hP (jw_D hO S) hS k t (by rw [jw_get Y S hk, he]) ht (jb_in (jif_some hE).1) d (fun H1 locs1 hP1 hD1 hS1 => ?_)
  rw [jw_set (S' := jsI S k i.toNatClampNeg (vp_nar .byte x)) hk (by unfold jsI; rw [jsR_same]; exact he _) (fun j hj => jsR_other S _ hj)] at hP1
  exact K _ (jif_some hE).2 ls H1 locs1 hl hP1 hS1
theorem j_zast (C : jC X Y own cc ret nL fr lo) {k t n : Nat} {cA : ClassId} {i x : Int32} {E : jS → Option β} (hk : k < yN Y) (he : ∀ f : Nat → Int32, yE Y k f (S.2 k) = .inl (cA, n, .inl f)) (ht : (yt Y)[t]? = some (cA, .boolean)) (d : decode cc pc = .ok (.bastore, 1)) (hE : jst S k i n (vp_nar .boolean x) E = some z) (K : ∀ S', E S' = some z → jJ X Y (pc + 1) lv st S') : jJ X Y pc lv (.int x :: .int i :: .ref (yad Y k) :: st) S := by
  obtain ⟨hx, hb, hml, hown, hts, hK, hO, hlk, hr, -, -, -, -, -, hV⟩ := C
  intro ls H locs hl hP hS
  refine va_zast hx hb hK hP (jw_D hO S) hS k t (by rw [jw_get Y S hk, he]) ht (jb_in (jif_some hE).1) d (fun H1 locs1 hP1 hD1 hS1 => ?_)
  rw [jw_set (S' := jsI S k i.toNatClampNeg (vp_nar .boolean x)) hk (by unfold jsI; rw [jsR_same]; exact he _) (fun j hj => jsR_other S _ hj)] at hP1
  exact K _ (jif_some hE).2 ls H1 locs1 hl hP1 hS1
theorem jcb_spec {n0 n1 : Nat} {sp dp n : Int32} (h : jcb n0 n1 sp dp n = true) : ¬ sp < 0 ∧ ¬ dp < 0 ∧ ¬ n < 0 ∧ sp.toNatClampNeg + n.toNatClampNeg ≤ n0 ∧ dp.toNatClampNeg + n.toNatClampNeg ≤ n1 := of_decide_eq_true h
theorem j_copy (C : jC X Y own cc ret nL fr lo) {k0 k1 t n0 n1 idx : Nat} {cA : ClassId} {sp dp n : Int32} {E : jS → Option β} (hk0 : k0 < yN Y) (hk1 : k1 < yN Y) (he0 : yE Y k0 (S.1 k0) (S.2 k0) = .inl (cA, n0, .inl (S.1 k0))) (he1 : ∀ f : Nat → Int32, yE Y k1 f (S.2 k1) = .inl (cA, n1, .inl f)) (ht : (yt Y)[t]? = some (cA, .int)) (hw1 : Cond.methodLink own idx arraycopyName ∈ jT) (hw2 : Cond.native arraycopyName ∈ jT) (hw3 : Cond.static arraycopyName ∈ jT) (hw4 : Cond.initialized "java/lang/System" ∈ jT) (hfr : 1 ≤ fr) (hlo : (st.map fun v => v.category).sum + (nativeFrameWords "java/lang/System" "arraycopy" 5 + 11) ≤ lo) (d : decode cc pc = .ok (.invokestatic idx, 3)) (hE : jcp S k0 n0 sp k1 n1 dp n E = some z) (K : ∀ S', E S' = some z → jJ X Y (pc + 3) lv st S') : jJ X Y pc lv (.int n :: .int dp :: .ref (yad Y k1) :: .int sp :: .ref (yad Y k0) :: st) S := by
  obtain ⟨hx, hb, hml, hown, hts, hK, hO, hlk, hr, hL, hRf, hRl, -, -, hV⟩ := C
  intro ls H locs hl hP hS
  obtain ⟨g1, g2, g3, g4, g5⟩ := jcb_spec (jif_some hE).1
  refine va_copyi (ls := ls) hx hb (by rw [hl.1, hL]; exact hml) hown (hts _ hw1) (hts _ hw2) (hts _ hw3) (hts _ hw4) hK hP (jw_D hO S) hS k0 k1 t t (by rw [jw_get Y S hk0, he0]) (by rw [jw_get Y S hk1, he1]) ht ht rfl g1 g2 g3 g4 g5 (fun _ _ => rfl) (by rw [hRf]; exact hfr) (by rw [hRl]; exact hlo) d (fun H1 locs1 hP1 hD1 hS1 => ?_)
  rw [jw_set (S' := jsR S k1 (va_cpy (S.1 k0) (S.1 k1) sp.toNatClampNeg dp.toNatClampNeg n.toNatClampNeg)) hk1 (by rw [jsR_same]; exact he1 _) (fun j hj => jsR_other S _ hj)] at hP1
  exact K _ (jif_some hE).2 ls H1 locs1 hl hP1 hS1
end jRows
/-- behind a call -/
theorem j_run {X : jX} {Y : jY} {pc : Nat} {lv : List (Nat × Value)} {st0 st : List Value} {a : Array Value} {z0 : Option Value × jS} {ls : Array Slot} {H : Heap} {locs : List Loc} (hr : va_Run (xp X) (xl X) (xe X) (xR X) (xs X) (xm X) (xa X) (xb X) (xh X) (xc X) H locs (xk X) (xn X) 0 0 (F0 (xm X) pc ls st0) st (jQ Y z0 a) (yA Y)) (hl : lv_has ls (xL X) lv) (hS : va_S (yA Y) (xs X).heap H locs) (K : jJ X Y (pc + 3) lv (z0.1.toList ++ st) z0.2) : W (xp X) (xl X) (xe X) (xR X) (xs X) (xm X) (xa X) (xb X) (xh X) (xc X) H locs (xk X) (xn X) (xQ X) (F0 (xm X) pc ls st0) := by
  intro T hT X1
  obtain ⟨v, st₀, t, T', L, h0, X', hL, e1, e2, ⟨hv, ⟨hP, -, -⟩, hz, hk⟩, stp⟩ := hr T hT X1
  cases hv
  rw [h0] at hz hk
  obtain ⟨t2, a1, b1⟩ := K ls T'.heap (locs ++ L) hl (by rw [e1]; exact hP) ⟨Nat.le_trans hS.1 (by rw [e1]; exact hz), fun q h1 h2 => by rw [e1, hk q (Nat.lt_of_lt_of_le h1 hS.1) h2]; exact hS.2.1 q h1 h2, fun q hq => by
      rcases List.mem_append.mp hq with h | h
      · exact hS.2.2 q h
      · exact hL q h⟩ T' rfl X'
  exact ⟨t2, stp t2 a1, b1⟩
theorem j_blind {Y : jY} (hO : jOk Y) {av : List Value} {S : jS} : FrameBlind (va_Pc av (jInv Y S)) := by
  intro a U g mk h
  obtain ⟨h1, hP, hK, hV⟩ := h
  exact ⟨h1, hP, va_K.moved (u := U) (U := U.calling g mk a) (Vm.Alike.refl U.vm) hK, hO.2.2.2 U _ hV rfl rfl⟩
theorem j_preS {X : jX} {Y : jY} (hO : jOk Y) (hK : va_K (yD Y) (ycl Y) (yt Y) (xs X)) (hV : yV Y (xs X)) {av : List Value} {S : jS} {H : Heap} {locs : List Loc} (hP : va_P (yD Y) (ycl Y) (jw Y S) H) (hS : va_S (yA Y) (xs X).heap H locs) : PreS (xs X) H (va_Pc av (jInv Y S)) av := ⟨j_blind hO, fun U hU hW => ⟨rfl, by rw [hU]; exact hP, va_K.moved hW.alike hK, j_V hO hV hU hW hS⟩⟩
section jCalls
variable {X : jX} {Y : jY} {own : String} {cc : ByteArray} {ret : Option FieldType} {nL fr lo pc : Nat} {lv : List (Nat × Value)} {st stk : List Value} {S : jS} {y : MethodName} {bytes : ByteArray} {maxL fr1 lo1 idx n k ci N : Nat} {r : Option FieldType} {Cn : String} {T : u_T} {fs As : List Value} {z0 : Option Value × jS}
theorem j_callV (C : jC X Y own cc ret nL fr lo) (hM : Met (xl X) y (.code y bytes maxL r :: jT) { frames := fr1, cells := 0, slots := 0, locals := lo1 } (va_Pc (.ref (yad Y k) :: As) (jInv Y S)) (jQ Y z0) 0 0 (yA Y)) (hw1 : Cond.methodLink own idx y ∈ jT) (hw2 : Cond.instanceMethod y ∈ jT) (hw3 : Cond.selects Cn y y ∈ jT) (hw4 : Cond.initialized Cn ∈ jT) (hw5 : Cond.code y bytes maxL r ∈ jT) (hd : y.cls = Cn ∧ y.cls ≠ "java/lang/invoke/MethodHandle" ∧ y.cls ≠ "java/lang/invoke/VarHandle" ∧ (parseMethodDescriptor y.desc).map (fun d => d.parameters.length) = some n) (hn : As.length = n) (hk : k < yN Y) (he : yE Y k (S.1 k) (S.2 k) = .inr (ci, fs)) (hc : (ycl Y)[ci]? = some (Cn, T, N)) (hfr : fr1 + 1 ≤ fr) (hlo : 8 + (maxL + 11) + lo1 ≤ lo) (hst : (st.map fun v => v.category).sum ≤ 8) (hs : stk = As.reverse ++ .ref (yad Y k) :: st) (d : decode cc pc = .ok (.invokevirtual idx, 3)) (K : jJ X Y (pc + 3) lv (z0.1.toList ++ st) z0.2) : jJ X Y pc lv stk S := by
  obtain ⟨hx, hb, hml, hown, hts, hK, hO, hlk, hr, hL, hRf, hRl, hc1, hc2, hV⟩ := C
  subst hs
  intro ls H locs hl hP hS
  obtain ⟨p1, p2⟩ := j_preS (av := .ref (yad Y k) :: As) hO hK hV hP hS
  have hG : GoodIn jT (wsV own idx Cn y (.code y bytes maxL r :: jT)) := by
    intro w hw
    unfold wsV at hw
    rcases List.mem_append.mp hw with h | h
    · simp only [List.mem_cons, List.not_mem_nil, or_false] at h
      rcases h with rfl | rfl | rfl | rfl
      · exact jT_good hw1
      · exact jT_good hw2
      · exact jT_good hw3
      · exact jT_good hw4
    · exact jT_goodIn0 hw5 w h
  exact j_run (va_runV (As := As) (rest := st) ⟨hx, hb, by rw [hml, ← hL], hown, hts⟩ hM (cwV n hts hG rfl rfl rfl hd ⟨by rw [hRf]; exact hfr, by rw [hRl]; exact hlo⟩) ⟨p1, va_recv hK hP (q0 := k) hc (by rw [jw_get Y S hk, he]), p2⟩ rfl hn hl.1 rfl (lv_room hst) d ⟨hc1, hc2⟩) hl hS K
theorem j_callS (C : jC X Y own cc ret nL fr lo) (hM : Met (xl X) y (.code y bytes maxL r :: jT) { frames := fr1, cells := 0, slots := 0, locals := lo1 } (va_Pc As (jInv Y S)) (jQ Y z0) 0 0 (yA Y)) (hw1 : Cond.methodLink own idx y ∈ jT) (hw2 : Cond.static y ∈ jT) (hw4 : Cond.initialized y.cls ∈ jT) (hw5 : Cond.code y bytes maxL r ∈ jT) (hd : y.cls ≠ "java/lang/invoke/MethodHandle" ∧ y.cls ≠ "java/lang/invoke/VarHandle" ∧ (parseMethodDescriptor y.desc).map (fun d => d.parameters.length) = some n) (hn : As.length = n) (hfr : fr1 + 1 ≤ fr) (hlo : 8 + (maxL + 11) + lo1 ≤ lo) (hst : (st.map fun v => v.category).sum ≤ 8) (hs : stk = As.reverse ++ st) (d : decode cc pc = .ok (.invokestatic idx, 3)) (K : jJ X Y (pc + 3) lv (z0.1.toList ++ st) z0.2) : jJ X Y pc lv stk S := by
  obtain ⟨hx, hb, hml, hown, hts, hK, hO, hlk, hr, hL, hRf, hRl, hc1, hc2, hV⟩ := C
  subst hs
  intro ls H locs hl hP hS
  have hG : GoodIn jT (va_wsS own idx y (.code y bytes maxL r :: jT)) := by
    intro w hw
    unfold va_wsS at hw
    rcases List.mem_append.mp hw with h | h
    · simp only [List.mem_cons, List.not_mem_nil, or_false] at h
      rcases h with rfl | rfl | rfl
      · exact jT_good hw1
      · exact jT_good hw2
      · exact jT_good hw4
    · exact jT_goodIn0 hw5 w h
  exact j_run (va_runS (As := As) (rest := st) ⟨hx, hb, by rw [hml, ← hL], hown, hts⟩ hM (va_cwS n hts hG rfl rfl rfl hd ⟨by rw [hRf]; exact hfr, by rw [hRl]; exact hlo⟩) (j_preS hO hK hV hP hS) rfl hn hl.1 rfl (lv_room hst) d ⟨hc1, hc2⟩) hl hS K
/-- a nest mate's static method -/
theorem j_callSN (C : jC X Y own cc ret nL fr lo) {host : String} (hM : Met (xl X) y (.code y bytes maxL r :: jT) { frames := fr1, cells := 0, slots := 0, locals := lo1 } (va_Pc As (jInv Y S)) (jQ Y z0) 0 0 (yA Y)) (hw1 : va_Nw (.methodLinkNest own idx y host) (xs X)) (hw2 : Cond.static y ∈ jT) (hw4 : Cond.initialized y.cls ∈ jT) (hw5 : Cond.code y bytes maxL r ∈ jT) (hd : y.cls ≠ "java/lang/invoke/MethodHandle" ∧ y.cls ≠ "java/lang/invoke/VarHandle" ∧ (parseMethodDescriptor y.desc).map (fun d => d.parameters.length) = some n) (hn : As.length = n) (hfr : fr1 + 1 ≤ fr) (hlo : 8 + (maxL + 11) + lo1 ≤ lo) (hst : (st.map fun v => v.category).sum ≤ 8) (hs : stk = As.reverse ++ st) (d : decode cc pc = .ok (.invokestatic idx, 3)) (K : jJ X Y (pc + 3) lv (z0.1.toList ++ st) z0.2) : jJ X Y pc lv stk S := by
  obtain ⟨hx, hb, hml, hown, hts, hK, hO, hlk, hr, hL, hRf, hRl, hc1, hc2, hV⟩ := C
  subst hs
  intro ls H locs hl hP hS
  exact j_run (va_runSN (As := As) (rest := st) ⟨hx, hb, by rw [hml, ← hL], hown, hts⟩ hM ⟨va_cnB n hts (jT_goodIn0 hw5) rfl rfl rfl hw1 (hts _ hw4) hd ⟨by rw [hRf]; exact hfr, by rw [hRl]; exact hlo⟩, hts _ hw2, trivial⟩ (j_preS hO hK hV hP hS) rfl hn hl.1 rfl (lv_room hst) d ⟨hc1, hc2⟩) hl hS K
/-- an overriding method: x is named, y is run -/
theorem j_callO (C : jC X Y own cc ret nL fr lo) {x : MethodName} {owner : String} {b0 : ByteArray} {m0 : Nat} {r0 : Option FieldType} (hM : Met (xl X) y (.code y bytes maxL r :: jT) { frames := fr1, cells := 0, slots := 0, locals := lo1 } (va_Pc (.ref (yad Y k) :: As) (jInv Y S)) (jQ Y z0) 0 0 (yA Y)) (hw1 : Cond.methodLink own idx x ∈ jT) (hw2 : Cond.sameMethod x.cls owner x.name x.desc ∈ jT) (hw3 : Cond.instanceMethod ⟨owner, x.name, x.desc⟩ ∈ jT) (hw4 : Cond.selects Cn x y ∈ jT) (hw5 : Cond.instanceMethod y ∈ jT) (hw6 : Cond.initialized y.cls ∈ jT) (hw7 : Cond.code y bytes maxL r ∈ jT) (h0 : Cond.code ⟨owner, x.name, x.desc⟩ b0 m0 r0 ∈ jT) (hd : owner ≠ "java/lang/invoke/MethodHandle" ∧ owner ≠ "java/lang/invoke/VarHandle" ∧ (parseMethodDescriptor x.desc).map (fun d => d.parameters.length) = some n) (hn : As.length = n) (hk : k < yN Y) (he : yE Y k (S.1 k) (S.2 k) = .inr (ci, fs)) (hc : (ycl Y)[ci]? = some (Cn, T, N)) (hfr : fr1 + 1 ≤ fr) (hlo : 8 + (maxL + 11) + lo1 ≤ lo) (hst : (st.map fun v => v.category).sum ≤ 8) (hs : stk = As.reverse ++ .ref (yad Y k) :: st) (d : decode cc pc = .ok (.invokevirtual idx, 3)) (K : jJ X Y (pc + 3) lv (z0.1.toList ++ st) z0.2) : jJ X Y pc lv stk S := by
  obtain ⟨hx, hb, hml, hown, hts, hK, hO, hlk, hr, hL, hRf, hRl, hc1, hc2, hV⟩ := C
  subst hs
  intro ls H locs hl hP hS
  obtain ⟨p1, p2⟩ := j_preS (av := .ref (yad Y k) :: As) hO hK hV hP hS
  have hG : GoodIn jT (va_wsO own idx Cn owner x y (.code y bytes maxL r :: jT)) := by
    intro w hw
    unfold va_wsO at hw
    rcases List.mem_append.mp hw with h | h
    · simp only [List.mem_cons, List.not_mem_nil, or_false] at h
      rcases h with rfl | rfl | rfl | rfl | rfl | rfl
      · exact jT_good hw1
      · exact jT_good hw2
      · exact jT_good hw3
      · exact jT_good hw4
      · exact jT_good hw5
      · exact jT_good hw6
    · exact jT_goodIn0 hw7 w h
  exact j_run (va_runU (As := As) (rest := st) ⟨hx, hb, by rw [hml, ← hL], hown, hts⟩ hM (va_cwO n hts hG rfl rfl rfl h0 hd ⟨by rw [hRf]; exact hfr, by rw [hRl]; exact hlo⟩) ⟨p1, va_recv hK hP (q0 := k) hc (by rw [jw_get Y S hk, he]), p2⟩ rfl hn hl.1 rfl (lv_room hst) d ⟨hc1, hc2⟩) hl hS K
/-- super.y(..) -/
theorem j_callSU (C : jC X Y own cc ret nL fr lo) (hM : Met (xl X) y (.code y bytes maxL r :: jT) { frames := fr1, cells := 0, slots := 0, locals := lo1 } (va_Pc (.ref (yad Y k) :: As) (jInv Y S)) (jQ Y z0) 0 0 (yA Y)) (hw1 : Cond.methodLink own idx y ∈ jT) (hw2 : Cond.sameMethod y.cls y.cls y.name y.desc ∈ jT) (hw3 : Cond.superclass own y.cls ∈ jT) (hw5 : Cond.instanceMethod y ∈ jT) (hw6 : Cond.initialized y.cls ∈ jT) (hw7 : Cond.code y bytes maxL r ∈ jT) (hd : y.name ≠ "<init>" ∧ (parseMethodDescriptor y.desc).map (fun d => d.parameters.length) = some n) (hn : As.length = n) (hk : k < yN Y) (he : yE Y k (S.1 k) (S.2 k) = .inr (ci, fs)) (hc : (ycl Y)[ci]? = some (Cn, T, N)) (hfr : fr1 + 1 ≤ fr) (hlo : 8 + (maxL + 11) + lo1 ≤ lo) (hst : (st.map fun v => v.category).sum ≤ 8) (hs : stk = As.reverse ++ .ref (yad Y k) :: st) (d : decode cc pc = .ok (.invokespecial idx, 3)) (K : jJ X Y (pc + 3) lv (z0.1.toList ++ st) z0.2) : jJ X Y pc lv stk S := by
  obtain ⟨hx, hb, hml, hown, hts, hK, hO, hlk, hr, hL, hRf, hRl, hc1, hc2, hV⟩ := C
  subst hs
  intro ls H locs hl hP hS
  obtain ⟨p1, p2⟩ := j_preS (av := .ref (yad Y k) :: As) hO hK hV hP hS
  have hG : GoodIn jT (va_wsSU own idx y (.code y bytes maxL r :: jT)) := by
    intro w hw
    unfold va_wsSU at hw
    rcases List.mem_append.mp hw with h | h
    · simp only [List.mem_cons, List.not_mem_nil, or_false] at h
      rcases h with rfl | rfl | rfl | rfl | rfl
      · exact jT_good hw1
      · exact jT_good hw2
      · exact jT_good hw3
      · exact jT_good hw5
      · exact jT_good hw6
    · exact jT_goodIn0 hw7 w h
  exact j_run (va_runSU (As := As) (rest := st) (hK.1 ci _ hc).2 ⟨hx, hb, by rw [hml, ← hL], hown, hts⟩ hM (va_cwSU n hts hG rfl rfl rfl hd ⟨by rw [hRf]; exact hfr, by rw [hRl]; exact hlo⟩) ⟨p1, va_recv hK hP (q0 := k) hc (by rw [jw_get Y S hk, he]), p2⟩ rfl hn hl.1 rfl (lv_room hst) d ⟨hc1, hc2⟩) hl hS K
end jCalls
section jMore
variable {X : jX} {Y : jY} {own : String} {cc : ByteArray} {ret : Option FieldType} {nL fr lo pc : Nat} {lv : List (Nat × Value)} {st : List Value} {S : jS} {β : Type} {z : β} {E1 E2 : Option β}
theorem j_caseN {P : Prop} {x c : Nat} (hE : (if x = c then E1 else E2) = some z) (kt : x = c → E1 = some z → P) (kf : ¬ x = c → E2 = some z → P) : P := by
  by_cases h : x = c
  · rw [if_pos h] at hE; exact kt h hE
  · rw [if_neg h] at hE; exact kf h hE
theorem j_null (C : jC X Y own cc ret nL fr lo) (d : decode cc pc = .ok (.aconst_null, 1)) (K : jJ X Y (pc + 1) lv (.null :: st) S) : jJ X Y pc lv st S := fun ls H locs hl hP hS => lv_null C.1 C.2.1 d (K ls H locs hl hP hS)
theorem j_ifnullN (C : jC X Y own cc ret nL fr lo) {off : Int} {tgt : Nat} (d : decode cc pc = .ok (.ifnull off, 3)) (ht : (pc : Int) + off = (tgt : Int)) (K : jJ X Y tgt lv st S) : jJ X Y pc lv (.null :: st) S := fun ls H locs hl hP hS => lv_ifnullN C.1 C.2.1 d ht (K ls H locs hl hP hS)
theorem j_ifnonnullN (C : jC X Y own cc ret nL fr lo) {off : Int} (d : decode cc pc = .ok (.ifnonnull off, 3)) (K : jJ X Y (pc + 3) lv st S) : jJ X Y pc lv (.null :: st) S := fun ls H locs hl hP hS => lv_ifnonnullN C.1 C.2.1 d (K ls H locs hl hP hS)
theorem j_aload_nN (C : jC X Y own cc ret nL fr lo) {k : Fin 4} (d : decode cc pc = .ok (.aload_n k, 1)) (q : Nat) (h : lv[q]? = some ((k : Nat), .null)) (K : jJ X Y (pc + 1) lv (.null :: st) S) : jJ X Y pc lv st S := fun ls H locs hl hP hS => lv_aload_nN C.1 C.2.1 d rfl (lv_at hl q h) (K ls H locs hl hP hS)
theorem j_astore_nN (C : jC X Y own cc ret nL fr lo) {k : Fin 4} {i : Nat} {lv' : List (Nat × Value)} (d : decode cc pc = .ok (.astore_n k, 1)) (hi : (k : Nat) = i) (hn : i < nL) (hf : (i, Value.null) :: lv.filter (fun q => !(q.1 == i) && !(q.1 + 1 == i && q.2.category == 2)) = lv') (K : jJ X Y (pc + 1) lv' st S) : jJ X Y pc lv (.null :: st) S := fun ls H locs hl hP hS => lv_astore_nN C.1 C.2.1 d hi hl (by rw [C.2.2.2.2.2.2.2.2.2.1]; exact hn) hf (fun ls' hl' => K ls' H locs hl' hP hS)
/-- an answer that is a cell, or none: by the cell's number, 0 for none -/
def jrf (ad : Nat → Nat) (r : Nat) : Value := match r with
  | 0 => .null
  | r + 1 => .ref (ad (r + 1))
theorem j_aret {n : String} (C : jC X Y own cc (some (.object n)) nL fr lo) {ad : Nat → Nat} {r : Nat} {v : Value} {z : Nat × jS} (Q : jRet X Y (some (jrf ad z.1), z.2)) (d : decode cc pc = .ok (.areturn, 1)) (hv : v = jrf ad r) (hE : some (r, S) = some z) : jJ X Y pc lv [v] S := by
  obtain ⟨hx, hb, hml, hown, hts, hK, hO, hlk, hr, -, -, -, -, -, hV⟩ := C
  cases hE
  subst hv
  intro ls H locs hl hP hS
  have h := W.aret (p := xp X) (l := xl X) (e := xe X) (R := xR X) (s := xs X) (m := xm X) (args := xa X) (below := xb X) (meth := xh X) (c := xc X) (H := H) (locs := locs) (cells := xk X) (slots := xn X) (ls := ls) (Qc := jQ Y (some (jrf ad r), S)) (free := yA Y) (v := jrf ad r) hx hb hr (Or.inl ⟨n, rfl⟩) (by cases r with
    | zero => exact Or.inl rfl
    | succ r => exact Or.inr ⟨_, rfl⟩) (fun t ht hW => ⟨rfl, ⟨by rw [ht]; exact hP, va_K.moved hW.alike hK, j_V hO hV ht hW hS⟩, hS.F ht⟩) hS.2.2 d hlk
  unfold jRet at Q
  show W _ _ _ _ _ _ _ _ _ _ _ _ _ _ (xQ X) _
  rw [Q]
  exact h
theorem j_aldq (C : jC X Y own cc ret nL fr lo) {k t n : Nat} {cA : ClassId} {Cn : String} {f : Nat → Option Nat} {i : Int32} {v : Value} (hk : k < yN Y) (he : yE Y k (S.1 k) (S.2 k) = .inl (cA, n, .inr (.inr (.inr (.inr f))))) (ht : (yt Y)[t]? = some (cA, .object Cn)) (hin : jb i n = true) (hv : va_rf (f i.toNatClampNeg) = v) (d : decode cc pc = .ok (.aaload, 1)) (K : jJ X Y (pc + 1) lv (v :: st) S) : jJ X Y pc lv (.int i :: .ref (yad Y k) :: st) S := by
  subst hv
  exact fun ls H locs hl hP hS => va_aldq C.1 C.2.1 C.2.2.2.2.2.1 hP k t (by rw [jw_get Y S hk, he]) ht (jb_in hin) d (K ls H locs hl hP hS)
end jMore
end
