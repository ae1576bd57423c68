section
-- PART A (given for pasting), then the names (given for pasting), then words by their places
-- ===== PART A: goes FIRST, ahead of the names: the tables' words, and 'selects' of the private methods out of them =====
/-- a private method of a class that the tables say can be made, by its rows of tables_1 -/
def lw_okq (q : MethodName × Nat) : Prop := (q.1.cls ≠ "java/lang/invoke/MethodHandle" ∧ q.1.cls ≠ "java/lang/invoke/VarHandle") ∧ Cond.instantiable q.1.cls q.2 ∈ tables_1 ∧ Cond.privateMethod q.1 ∈ tables_1 ∧ Cond.instanceMethod q.1 ∈ tables_1
theorem lw_p0 : lw_okq (⟨"WeddingReasons$Reader", "skipBlanks", "()V"⟩, 6) := ⟨⟨by decide +kernel, by decide +kernel⟩, List.mem_of_getElem? (i := 39) (by decide +kernel), List.mem_of_getElem? (i := 240) (by decide +kernel), List.mem_of_getElem? (i := 241) (by decide +kernel)⟩
theorem lw_p1 : lw_okq (⟨"WeddingReasons$Reader", "readClause", "()V"⟩, 6) := ⟨⟨by decide +kernel, by decide +kernel⟩, List.mem_of_getElem? (i := 39) (by decide +kernel), List.mem_of_getElem? (i := 244) (by decide +kernel), List.mem_of_getElem? (i := 245) (by decide +kernel)⟩
theorem lw_p2 : lw_okq (⟨"WeddingReasons$Reader", "faultOfWord", "(I)I"⟩, 6) := ⟨⟨by decide +kernel, by decide +kernel⟩, List.mem_of_getElem? (i := 39) (by decide +kernel), List.mem_of_getElem? (i := 248) (by decide +kernel), List.mem_of_getElem? (i := 249) (by decide +kernel)⟩
theorem lw_p3 : lw_okq (⟨"WeddingReasons$Reader", "fail", "(II)V"⟩, 6) := ⟨⟨by decide +kernel, by decide +kernel⟩, List.mem_of_getElem? (i := 39) (by decide +kernel), List.mem_of_getElem? (i := 267) (by decide +kernel), List.mem_of_getElem? (i := 268) (by decide +kernel)⟩
theorem lw_p4 : lw_okq (⟨"WeddingReasons$Reader", "readLeast", "()V"⟩, 6) := ⟨⟨by decide +kernel, by decide +kernel⟩, List.mem_of_getElem? (i := 39) (by decide +kernel), List.mem_of_getElem? (i := 271) (by decide +kernel), List.mem_of_getElem? (i := 272) (by decide +kernel)⟩
theorem lw_p5 : lw_okq (⟨"WeddingReasons$Reader", "number", "(II)I"⟩, 6) := ⟨⟨by decide +kernel, by decide +kernel⟩, List.mem_of_getElem? (i := 39) (by decide +kernel), List.mem_of_getElem? (i := 275) (by decide +kernel), List.mem_of_getElem? (i := 276) (by decide +kernel)⟩
theorem lw_p6 : lw_okq (⟨"WeddingReasons$Reader", "expect", "(I)V"⟩, 6) := ⟨⟨by decide +kernel, by decide +kernel⟩, List.mem_of_getElem? (i := 39) (by decide +kernel), List.mem_of_getElem? (i := 282) (by decide +kernel), List.mem_of_getElem? (i := 283) (by decide +kernel)⟩
theorem lw_p7 : lw_okq (⟨"WeddingReasons$Reader", "readCouple", "()V"⟩, 6) := ⟨⟨by decide +kernel, by decide +kernel⟩, List.mem_of_getElem? (i := 39) (by decide +kernel), List.mem_of_getElem? (i := 290) (by decide +kernel), List.mem_of_getElem? (i := 291) (by decide +kernel)⟩
theorem lw_p8 : lw_okq (⟨"WeddingReasons$Reader", "readObjector", "()V"⟩, 6) := ⟨⟨by decide +kernel, by decide +kernel⟩, List.mem_of_getElem? (i := 39) (by decide +kernel), List.mem_of_getElem? (i := 306) (by decide +kernel), List.mem_of_getElem? (i := 307) (by decide +kernel)⟩
theorem lw_p9 : lw_okq (⟨"WeddingReasons$Cover", "weddable", "(LWeddingReasons$Parish;I)Z"⟩, 1) := ⟨⟨by decide +kernel, by decide +kernel⟩, List.mem_of_getElem? (i := 136) (by decide +kernel), List.mem_of_getElem? (i := 452) (by decide +kernel), List.mem_of_getElem? (i := 453) (by decide +kernel)⟩
theorem lw_p10 : lw_okq (⟨"WeddingReasons$Parish", "putIntoBox", "(III)V"⟩, 1) := ⟨⟨by decide +kernel, by decide +kernel⟩, List.mem_of_getElem? (i := 27) (by decide +kernel), List.mem_of_getElem? (i := 528) (by decide +kernel), List.mem_of_getElem? (i := 529) (by decide +kernel)⟩
theorem lw_p11 : lw_okq (⟨"WeddingReasons", "refusalOfYears", "(I)I"⟩, 10) := ⟨⟨by decide +kernel, by decide +kernel⟩, List.mem_of_getElem? (i := 19) (by decide +kernel), List.mem_of_getElem? (i := 537) (by decide +kernel), List.mem_of_getElem? (i := 538) (by decide +kernel)⟩
theorem lw_p12 : lw_okq (⟨"WeddingReasons$Draws", "draw", "(I)I"⟩, 1) := ⟨⟨by decide +kernel, by decide +kernel⟩, List.mem_of_getElem? (i := 102) (by decide +kernel), List.mem_of_getElem? (i := 585) (by decide +kernel), List.mem_of_getElem? (i := 586) (by decide +kernel)⟩
theorem lw_p13 : lw_okq (⟨"WeddingReasons$Matching", "weighPairs", "(LWeddingReasons$Parish;)V"⟩, 2) := ⟨⟨by decide +kernel, by decide +kernel⟩, List.mem_of_getElem? (i := 113) (by decide +kernel), List.mem_of_getElem? (i := 622) (by decide +kernel), List.mem_of_getElem? (i := 623) (by decide +kernel)⟩
theorem lw_p14 : lw_okq (⟨"WeddingReasons$Matching", "bestFrom", "(LWeddingReasons$Parish;II)I"⟩, 2) := ⟨⟨by decide +kernel, by decide +kernel⟩, List.mem_of_getElem? (i := 113) (by decide +kernel), List.mem_of_getElem? (i := 631) (by decide +kernel), List.mem_of_getElem? (i := 632) (by decide +kernel)⟩
theorem lw_p15 : lw_okq (⟨"WeddingReasons$Matching", "isFree", "(III)Z"⟩, 2) := ⟨⟨by decide +kernel, by decide +kernel⟩, List.mem_of_getElem? (i := 113) (by decide +kernel), List.mem_of_getElem? (i := 635) (by decide +kernel), List.mem_of_getElem? (i := 636) (by decide +kernel)⟩
def lw_privs_1 : List (MethodName × Nat) := [(⟨"WeddingReasons$Reader", "skipBlanks", "()V"⟩, 6), (⟨"WeddingReasons$Reader", "readClause", "()V"⟩, 6), (⟨"WeddingReasons$Reader", "faultOfWord", "(I)I"⟩, 6), (⟨"WeddingReasons$Reader", "fail", "(II)V"⟩, 6), (⟨"WeddingReasons$Reader", "readLeast", "()V"⟩, 6), (⟨"WeddingReasons$Reader", "number", "(II)I"⟩, 6), (⟨"WeddingReasons$Reader", "expect", "(I)V"⟩, 6), (⟨"WeddingReasons$Reader", "readCouple", "()V"⟩, 6), (⟨"WeddingReasons$Reader", "readObjector", "()V"⟩, 6), (⟨"WeddingReasons$Cover", "weddable", "(LWeddingReasons$Parish;I)Z"⟩, 1), (⟨"WeddingReasons$Parish", "putIntoBox", "(III)V"⟩, 1), (⟨"WeddingReasons", "refusalOfYears", "(I)I"⟩, 10), (⟨"WeddingReasons$Draws", "draw", "(I)I"⟩, 1), (⟨"WeddingReasons$Matching", "weighPairs", "(LWeddingReasons$Parish;)V"⟩, 2), (⟨"WeddingReasons$Matching", "bestFrom", "(LWeddingReasons$Parish;II)I"⟩, 2), (⟨"WeddingReasons$Matching", "isFree", "(III)Z"⟩, 2)]
theorem lw_r1 : ∀ q ∈ lw_privs_1, lw_okq q := List.forall_mem_cons.mpr ⟨lw_p0, List.forall_mem_cons.mpr ⟨lw_p1, List.forall_mem_cons.mpr ⟨lw_p2, List.forall_mem_cons.mpr ⟨lw_p3, List.forall_mem_cons.mpr ⟨lw_p4, List.forall_mem_cons.mpr ⟨lw_p5, List.forall_mem_cons.mpr ⟨lw_p6, List.forall_mem_cons.mpr ⟨lw_p7, List.forall_mem_cons.mpr ⟨lw_p8, List.forall_mem_cons.mpr ⟨lw_p9, List.forall_mem_cons.mpr ⟨lw_p10, List.forall_mem_cons.mpr ⟨lw_p11, List.forall_mem_cons.mpr ⟨lw_p12, List.forall_mem_cons.mpr ⟨lw_p13, List.forall_mem_cons.mpr ⟨lw_p14, List.forall_mem_cons.mpr ⟨lw_p15, fun _ h => absurd h List.not_mem_nil⟩⟩⟩⟩⟩⟩⟩⟩⟩⟩⟩⟩⟩⟩⟩⟩
theorem lw_p16 : lw_okq (⟨"WeddingReasons$Matching", "valueOf", "(III)I"⟩, 2) := ⟨⟨by decide +kernel, by decide +kernel⟩, List.mem_of_getElem? (i := 113) (by decide +kernel), List.mem_of_getElem? (i := 639) (by decide +kernel), List.mem_of_getElem? (i := 640) (by decide +kernel)⟩
theorem lw_p17 : lw_okq (⟨"WeddingReasons$Matching", "firstChoice", "(LWeddingReasons$Parish;II)I"⟩, 2) := ⟨⟨by decide +kernel, by decide +kernel⟩, List.mem_of_getElem? (i := 113) (by decide +kernel), List.mem_of_getElem? (i := 656) (by decide +kernel), List.mem_of_getElem? (i := 657) (by decide +kernel)⟩
theorem lw_p18 : lw_okq (⟨"WeddingReasons$Round", "bestOf", "(LWeddingReasons$Parish;III)I"⟩, 1) := ⟨⟨by decide +kernel, by decide +kernel⟩, List.mem_of_getElem? (i := 126) (by decide +kernel), List.mem_of_getElem? (i := 672) (by decide +kernel), List.mem_of_getElem? (i := 673) (by decide +kernel)⟩
theorem lw_p19 : lw_okq (⟨"WeddingReasons$Round", "valueOf", "(LWeddingReasons$Parish;IIII)I"⟩, 1) := ⟨⟨by decide +kernel, by decide +kernel⟩, List.mem_of_getElem? (i := 126) (by decide +kernel), List.mem_of_getElem? (i := 677) (by decide +kernel), List.mem_of_getElem? (i := 678) (by decide +kernel)⟩
theorem lw_p20 : lw_okq (⟨"WeddingReasons$Round", "firstChoice", "(LWeddingReasons$Parish;III)I"⟩, 1) := ⟨⟨by decide +kernel, by decide +kernel⟩, List.mem_of_getElem? (i := 126) (by decide +kernel), List.mem_of_getElem? (i := 692) (by decide +kernel), List.mem_of_getElem? (i := 693) (by decide +kernel)⟩
theorem lw_p21 : lw_okq (⟨"WeddingReasons$Sayings", "fits", "(I)Z"⟩, 2) := ⟨⟨by decide +kernel, by decide +kernel⟩, List.mem_of_getElem? (i := 146) (by decide +kernel), List.mem_of_getElem? (i := 730) (by decide +kernel), List.mem_of_getElem? (i := 731) (by decide +kernel)⟩
theorem lw_p22 : lw_okq (⟨"WeddingReasons$Sayings", "greatestPart", "(I)I"⟩, 2) := ⟨⟨by decide +kernel, by decide +kernel⟩, List.mem_of_getElem? (i := 146) (by decide +kernel), List.mem_of_getElem? (i := 752) (by decide +kernel), List.mem_of_getElem? (i := 753) (by decide +kernel)⟩
theorem lw_p23 : lw_okq (⟨"WeddingReasons$Sayings", "partOf", "(II)I"⟩, 2) := ⟨⟨by decide +kernel, by decide +kernel⟩, List.mem_of_getElem? (i := 146) (by decide +kernel), List.mem_of_getElem? (i := 756) (by decide +kernel), List.mem_of_getElem? (i := 757) (by decide +kernel)⟩
theorem lw_p24 : lw_okq (⟨"WeddingReasonsModel", "begins", "()V"⟩, 24) := ⟨⟨by decide +kernel, by decide +kernel⟩, List.mem_of_getElem? (i := 812) (by decide +kernel), List.mem_of_getElem? (i := 818) (by decide +kernel), List.mem_of_getElem? (i := 819) (by decide +kernel)⟩
theorem lw_p25 : lw_okq (⟨"WeddingReasonsModel", "step", "()V"⟩, 24) := ⟨⟨by decide +kernel, by decide +kernel⟩, List.mem_of_getElem? (i := 812) (by decide +kernel), List.mem_of_getElem? (i := 915) (by decide +kernel), List.mem_of_getElem? (i := 916) (by decide +kernel)⟩
theorem lw_p26 : lw_okq (⟨"WeddingReasonsModel", "here", "()I"⟩, 24) := ⟨⟨by decide +kernel, by decide +kernel⟩, List.mem_of_getElem? (i := 812) (by decide +kernel), List.mem_of_getElem? (i := 919) (by decide +kernel), List.mem_of_getElem? (i := 920) (by decide +kernel)⟩
theorem lw_p27 : lw_okq (⟨"WeddingReasonsModel", "readsClause", "()Z"⟩, 24) := ⟨⟨by decide +kernel, by decide +kernel⟩, List.mem_of_getElem? (i := 812) (by decide +kernel), List.mem_of_getElem? (i := 925) (by decide +kernel), List.mem_of_getElem? (i := 926) (by decide +kernel)⟩
theorem lw_p28 : lw_okq (⟨"WeddingReasonsModel", "fails", "(I)Z"⟩, 24) := ⟨⟨by decide +kernel, by decide +kernel⟩, List.mem_of_getElem? (i := 812) (by decide +kernel), List.mem_of_getElem? (i := 929) (by decide +kernel), List.mem_of_getElem? (i := 930) (by decide +kernel)⟩
theorem lw_p29 : lw_okq (⟨"WeddingReasonsModel", "number", "(III)Z"⟩, 24) := ⟨⟨by decide +kernel, by decide +kernel⟩, List.mem_of_getElem? (i := 812) (by decide +kernel), List.mem_of_getElem? (i := 933) (by decide +kernel), List.mem_of_getElem? (i := 934) (by decide +kernel)⟩
theorem lw_p30 : lw_okq (⟨"WeddingReasonsModel", "ends", "()Z"⟩, 24) := ⟨⟨by decide +kernel, by decide +kernel⟩, List.mem_of_getElem? (i := 812) (by decide +kernel), List.mem_of_getElem? (i := 937) (by decide +kernel), List.mem_of_getElem? (i := 938) (by decide +kernel)⟩
theorem lw_p31 : lw_okq (⟨"WeddingReasonsModel", "readsCouple", "()Z"⟩, 24) := ⟨⟨by decide +kernel, by decide +kernel⟩, List.mem_of_getElem? (i := 812) (by decide +kernel), List.mem_of_getElem? (i := 941) (by decide +kernel), List.mem_of_getElem? (i := 942) (by decide +kernel)⟩
def lw_privs_2 : List (MethodName × Nat) := [(⟨"WeddingReasons$Matching", "valueOf", "(III)I"⟩, 2), (⟨"WeddingReasons$Matching", "firstChoice", "(LWeddingReasons$Parish;II)I"⟩, 2), (⟨"WeddingReasons$Round", "bestOf", "(LWeddingReasons$Parish;III)I"⟩, 1), (⟨"WeddingReasons$Round", "valueOf", "(LWeddingReasons$Parish;IIII)I"⟩, 1), (⟨"WeddingReasons$Round", "firstChoice", "(LWeddingReasons$Parish;III)I"⟩, 1), (⟨"WeddingReasons$Sayings", "fits", "(I)Z"⟩, 2), (⟨"WeddingReasons$Sayings", "greatestPart", "(I)I"⟩, 2), (⟨"WeddingReasons$Sayings", "partOf", "(II)I"⟩, 2), (⟨"WeddingReasonsModel", "begins", "()V"⟩, 24), (⟨"WeddingReasonsModel", "step", "()V"⟩, 24), (⟨"WeddingReasonsModel", "here", "()I"⟩, 24), (⟨"WeddingReasonsModel", "readsClause", "()Z"⟩, 24), (⟨"WeddingReasonsModel", "fails", "(I)Z"⟩, 24), (⟨"WeddingReasonsModel", "number", "(III)Z"⟩, 24), (⟨"WeddingReasonsModel", "ends", "()Z"⟩, 24), (⟨"WeddingReasonsModel", "readsCouple", "()Z"⟩, 24)]
theorem lw_r2 : ∀ q ∈ lw_privs_2, lw_okq q := List.forall_mem_cons.mpr ⟨lw_p16, List.forall_mem_cons.mpr ⟨lw_p17, List.forall_mem_cons.mpr ⟨lw_p18, List.forall_mem_cons.mpr ⟨lw_p19, List.forall_mem_cons.mpr ⟨lw_p20, List.forall_mem_cons.mpr ⟨lw_p21, List.forall_mem_cons.mpr ⟨lw_p22, List.forall_mem_cons.mpr ⟨lw_p23, List.forall_mem_cons.mpr ⟨lw_p24, List.forall_mem_cons.mpr ⟨lw_p25, List.forall_mem_cons.mpr ⟨lw_p26, List.forall_mem_cons.mpr ⟨lw_p27, List.forall_mem_cons.mpr ⟨lw_p28, List.forall_mem_cons.mpr ⟨lw_p29, List.forall_mem_cons.mpr ⟨lw_p30, List.forall_mem_cons.mpr ⟨lw_p31, fun _ h => absurd h List.not_mem_nil⟩⟩⟩⟩⟩⟩⟩⟩⟩⟩⟩⟩⟩⟩⟩⟩
theorem lw_p32 : lw_okq (⟨"WeddingReasonsModel", "readsObjector", "()Z"⟩, 24) := ⟨⟨by decide +kernel, by decide +kernel⟩, List.mem_of_getElem? (i := 812) (by decide +kernel), List.mem_of_getElem? (i := 945) (by decide +kernel), List.mem_of_getElem? (i := 946) (by decide +kernel)⟩
theorem lw_p33 : lw_okq (⟨"WeddingReasonsModel", "those", "(I)I"⟩, 24) := ⟨⟨by decide +kernel, by decide +kernel⟩, List.mem_of_getElem? (i := 812) (by decide +kernel), List.mem_of_getElem? (i := 957) (by decide +kernel), List.mem_of_getElem? (i := 958) (by decide +kernel)⟩
theorem lw_p34 : lw_okq (⟨"WeddingReasonsModel", "plain", "()I"⟩, 24) := ⟨⟨by decide +kernel, by decide +kernel⟩, List.mem_of_getElem? (i := 812) (by decide +kernel), List.mem_of_getElem? (i := 961) (by decide +kernel), List.mem_of_getElem? (i := 962) (by decide +kernel)⟩
theorem lw_p35 : lw_okq (⟨"WeddingReasonsModel", "counts", "([III)Z"⟩, 24) := ⟨⟨by decide +kernel, by decide +kernel⟩, List.mem_of_getElem? (i := 812) (by decide +kernel), List.mem_of_getElem? (i := 965) (by decide +kernel), List.mem_of_getElem? (i := 966) (by decide +kernel)⟩
theorem lw_p36 : lw_okq (⟨"WeddingReasonsModel", "strengthOn", "([III)I"⟩, 24) := ⟨⟨by decide +kernel, by decide +kernel⟩, List.mem_of_getElem? (i := 812) (by decide +kernel), List.mem_of_getElem? (i := 969) (by decide +kernel), List.mem_of_getElem? (i := 970) (by decide +kernel)⟩
theorem lw_p37 : lw_okq (⟨"WeddingReasonsModel", "reasonOn", "([III)I"⟩, 24) := ⟨⟨by decide +kernel, by decide +kernel⟩, List.mem_of_getElem? (i := 812) (by decide +kernel), List.mem_of_getElem? (i := 973) (by decide +kernel), List.mem_of_getElem? (i := 974) (by decide +kernel)⟩
theorem lw_p38 : lw_okq (⟨"WeddingReasonsModel", "firmest", "()I"⟩, 24) := ⟨⟨by decide +kernel, by decide +kernel⟩, List.mem_of_getElem? (i := 812) (by decide +kernel), List.mem_of_getElem? (i := 983) (by decide +kernel), List.mem_of_getElem? (i := 984) (by decide +kernel)⟩
theorem lw_p39 : lw_okq (⟨"WeddingReasonsModel", "few", "()I"⟩, 24) := ⟨⟨by decide +kernel, by decide +kernel⟩, List.mem_of_getElem? (i := 812) (by decide +kernel), List.mem_of_getElem? (i := 987) (by decide +kernel), List.mem_of_getElem? (i := 988) (by decide +kernel)⟩
theorem lw_p40 : lw_okq (⟨"WeddingReasonsModel", "can", "(I)I"⟩, 24) := ⟨⟨by decide +kernel, by decide +kernel⟩, List.mem_of_getElem? (i := 812) (by decide +kernel), List.mem_of_getElem? (i := 991) (by decide +kernel), List.mem_of_getElem? (i := 992) (by decide +kernel)⟩
theorem lw_p41 : lw_okq (⟨"WeddingReasonsModel", "weds", "([III)Z"⟩, 24) := ⟨⟨by decide +kernel, by decide +kernel⟩, List.mem_of_getElem? (i := 812) (by decide +kernel), List.mem_of_getElem? (i := 995) (by decide +kernel), List.mem_of_getElem? (i := 996) (by decide +kernel)⟩
theorem lw_p42 : lw_okq (⟨"WeddingReasonsModel", "isCouple", "(I)Z"⟩, 24) := ⟨⟨by decide +kernel, by decide +kernel⟩, List.mem_of_getElem? (i := 812) (by decide +kernel), List.mem_of_getElem? (i := 1006) (by decide +kernel), List.mem_of_getElem? (i := 1007) (by decide +kernel)⟩
theorem lw_p43 : lw_okq (⟨"WeddingReasonsModel", "weakest", "(I)I"⟩, 24) := ⟨⟨by decide +kernel, by decide +kernel⟩, List.mem_of_getElem? (i := 812) (by decide +kernel), List.mem_of_getElem? (i := 1011) (by decide +kernel), List.mem_of_getElem? (i := 1012) (by decide +kernel)⟩
theorem lw_p44 : lw_okq (⟨"WeddingReasonsModel", "isObjector", "(I)Z"⟩, 24) := ⟨⟨by decide +kernel, by decide +kernel⟩, List.mem_of_getElem? (i := 812) (by decide +kernel), List.mem_of_getElem? (i := 1019) (by decide +kernel), List.mem_of_getElem? (i := 1020) (by decide +kernel)⟩
theorem lw_p45 : lw_okq (⟨"WeddingReasonsModel", "mayStand", "(II)Z"⟩, 24) := ⟨⟨by decide +kernel, by decide +kernel⟩, List.mem_of_getElem? (i := 812) (by decide +kernel), List.mem_of_getElem? (i := 1036) (by decide +kernel), List.mem_of_getElem? (i := 1037) (by decide +kernel)⟩
theorem lw_p46 : lw_okq (⟨"WeddingReasonsModel", "remember", "()V"⟩, 24) := ⟨⟨by decide +kernel, by decide +kernel⟩, List.mem_of_getElem? (i := 812) (by decide +kernel), List.mem_of_getElem? (i := 1041) (by decide +kernel), List.mem_of_getElem? (i := 1042) (by decide +kernel)⟩
theorem lw_p47 : lw_okq (⟨"WeddingReasonsModel", "stands", "([III)Z"⟩, 24) := ⟨⟨by decide +kernel, by decide +kernel⟩, List.mem_of_getElem? (i := 812) (by decide +kernel), List.mem_of_getElem? (i := 1045) (by decide +kernel), List.mem_of_getElem? (i := 1046) (by decide +kernel)⟩
def lw_privs_3 : List (MethodName × Nat) := [(⟨"WeddingReasonsModel", "readsObjector", "()Z"⟩, 24), (⟨"WeddingReasonsModel", "those", "(I)I"⟩, 24), (⟨"WeddingReasonsModel", "plain", "()I"⟩, 24), (⟨"WeddingReasonsModel", "counts", "([III)Z"⟩, 24), (⟨"WeddingReasonsModel", "strengthOn", "([III)I"⟩, 24), (⟨"WeddingReasonsModel", "reasonOn", "([III)I"⟩, 24), (⟨"WeddingReasonsModel", "firmest", "()I"⟩, 24), (⟨"WeddingReasonsModel", "few", "()I"⟩, 24), (⟨"WeddingReasonsModel", "can", "(I)I"⟩, 24), (⟨"WeddingReasonsModel", "weds", "([III)Z"⟩, 24), (⟨"WeddingReasonsModel", "isCouple", "(I)Z"⟩, 24), (⟨"WeddingReasonsModel", "weakest", "(I)I"⟩, 24), (⟨"WeddingReasonsModel", "isObjector", "(I)Z"⟩, 24), (⟨"WeddingReasonsModel", "mayStand", "(II)Z"⟩, 24), (⟨"WeddingReasonsModel", "remember", "()V"⟩, 24), (⟨"WeddingReasonsModel", "stands", "([III)Z"⟩, 24)]
theorem lw_r3 : ∀ q ∈ lw_privs_3, lw_okq q := List.forall_mem_cons.mpr ⟨lw_p32, List.forall_mem_cons.mpr ⟨lw_p33, List.forall_mem_cons.mpr ⟨lw_p34, List.forall_mem_cons.mpr ⟨lw_p35, List.forall_mem_cons.mpr ⟨lw_p36, List.forall_mem_cons.mpr ⟨lw_p37, List.forall_mem_cons.mpr ⟨lw_p38, List.forall_mem_cons.mpr ⟨lw_p39, List.forall_mem_cons.mpr ⟨lw_p40, List.forall_mem_cons.mpr ⟨lw_p41, List.forall_mem_cons.mpr ⟨lw_p42, List.forall_mem_cons.mpr ⟨lw_p43, List.forall_mem_cons.mpr ⟨lw_p44, List.forall_mem_cons.mpr ⟨lw_p45, List.forall_mem_cons.mpr ⟨lw_p46, List.forall_mem_cons.mpr ⟨lw_p47, fun _ h => absurd h List.not_mem_nil⟩⟩⟩⟩⟩⟩⟩⟩⟩⟩⟩⟩⟩⟩⟩⟩
theorem lw_p48 : lw_okq (⟨"WeddingReasonsModel", "boxes", "([III)V"⟩, 24) := ⟨⟨by decide +kernel, by decide +kernel⟩, List.mem_of_getElem? (i := 812) (by decide +kernel), List.mem_of_getElem? (i := 1049) (by decide +kernel), List.mem_of_getElem? (i := 1050) (by decide +kernel)⟩
theorem lw_p49 : lw_okq (⟨"WeddingReasonsModel", "refuses", "(I)I"⟩, 24) := ⟨⟨by decide +kernel, by decide +kernel⟩, List.mem_of_getElem? (i := 812) (by decide +kernel), List.mem_of_getElem? (i := 1057) (by decide +kernel), List.mem_of_getElem? (i := 1058) (by decide +kernel)⟩
theorem lw_p50 : lw_okq (⟨"WeddingReasonsModel", "yearGoes", "([I)V"⟩, 24) := ⟨⟨by decide +kernel, by decide +kernel⟩, List.mem_of_getElem? (i := 812) (by decide +kernel), List.mem_of_getElem? (i := 1062) (by decide +kernel), List.mem_of_getElem? (i := 1063) (by decide +kernel)⟩
theorem lw_p51 : lw_okq (⟨"WeddingReasonsModel", "draws", "()V"⟩, 24) := ⟨⟨by decide +kernel, by decide +kernel⟩, List.mem_of_getElem? (i := 812) (by decide +kernel), List.mem_of_getElem? (i := 1092) (by decide +kernel), List.mem_of_getElem? (i := 1093) (by decide +kernel)⟩
theorem lw_p52 : lw_okq (⟨"WeddingReasonsModel", "draw", "(I)I"⟩, 24) := ⟨⟨by decide +kernel, by decide +kernel⟩, List.mem_of_getElem? (i := 812) (by decide +kernel), List.mem_of_getElem? (i := 1096) (by decide +kernel), List.mem_of_getElem? (i := 1097) (by decide +kernel)⟩
theorem lw_p53 : lw_okq (⟨"WeddingReasonsModel", "layAside", "()V"⟩, 24) := ⟨⟨by decide +kernel, by decide +kernel⟩, List.mem_of_getElem? (i := 812) (by decide +kernel), List.mem_of_getElem? (i := 1112) (by decide +kernel), List.mem_of_getElem? (i := 1113) (by decide +kernel)⟩
theorem lw_p54 : lw_okq (⟨"WeddingReasonsModel", "weighsMatches", "()V"⟩, 24) := ⟨⟨by decide +kernel, by decide +kernel⟩, List.mem_of_getElem? (i := 812) (by decide +kernel), List.mem_of_getElem? (i := 1121) (by decide +kernel), List.mem_of_getElem? (i := 1122) (by decide +kernel)⟩
theorem lw_p55 : lw_okq (⟨"WeddingReasonsModel", "matched", "(I)I"⟩, 24) := ⟨⟨by decide +kernel, by decide +kernel⟩, List.mem_of_getElem? (i := 812) (by decide +kernel), List.mem_of_getElem? (i := 1128) (by decide +kernel), List.mem_of_getElem? (i := 1129) (by decide +kernel)⟩
theorem lw_p56 : lw_okq (⟨"WeddingReasonsModel", "nextOrder", "(I)Z"⟩, 24) := ⟨⟨by decide +kernel, by decide +kernel⟩, List.mem_of_getElem? (i := 812) (by decide +kernel), List.mem_of_getElem? (i := 1136) (by decide +kernel), List.mem_of_getElem? (i := 1137) (by decide +kernel)⟩
theorem lw_p57 : lw_okq (⟨"WeddingReasonsModel", "isSo", "(I)Z"⟩, 24) := ⟨⟨by decide +kernel, by decide +kernel⟩, List.mem_of_getElem? (i := 812) (by decide +kernel), List.mem_of_getElem? (i := 1159) (by decide +kernel), List.mem_of_getElem? (i := 1160) (by decide +kernel)⟩
def lw_privs_4 : List (MethodName × Nat) := [(⟨"WeddingReasonsModel", "boxes", "([III)V"⟩, 24), (⟨"WeddingReasonsModel", "refuses", "(I)I"⟩, 24), (⟨"WeddingReasonsModel", "yearGoes", "([I)V"⟩, 24), (⟨"WeddingReasonsModel", "draws", "()V"⟩, 24), (⟨"WeddingReasonsModel", "draw", "(I)I"⟩, 24), (⟨"WeddingReasonsModel", "layAside", "()V"⟩, 24), (⟨"WeddingReasonsModel", "weighsMatches", "()V"⟩, 24), (⟨"WeddingReasonsModel", "matched", "(I)I"⟩, 24), (⟨"WeddingReasonsModel", "nextOrder", "(I)Z"⟩, 24), (⟨"WeddingReasonsModel", "isSo", "(I)Z"⟩, 24)]
theorem lw_r4 : ∀ q ∈ lw_privs_4, lw_okq q := List.forall_mem_cons.mpr ⟨lw_p48, List.forall_mem_cons.mpr ⟨lw_p49, List.forall_mem_cons.mpr ⟨lw_p50, List.forall_mem_cons.mpr ⟨lw_p51, List.forall_mem_cons.mpr ⟨lw_p52, List.forall_mem_cons.mpr ⟨lw_p53, List.forall_mem_cons.mpr ⟨lw_p54, List.forall_mem_cons.mpr ⟨lw_p55, List.forall_mem_cons.mpr ⟨lw_p56, List.forall_mem_cons.mpr ⟨lw_p57, fun _ h => absurd h List.not_mem_nil⟩⟩⟩⟩⟩⟩⟩⟩⟩⟩
def lw_privs : List (MethodName × Nat) := lw_privs_1 ++ (lw_privs_2 ++ (lw_privs_3 ++ (lw_privs_4)))
def lw_tbl : List Cond := k2_sels lw_privs ++ tables_1
theorem lw_privs_ok : ∀ q ∈ lw_privs, lw_okq q := by
  show ∀ q ∈ lw_privs_1 ++ (lw_privs_2 ++ (lw_privs_3 ++ (lw_privs_4))), lw_okq q
  exact List.forall_mem_append.mpr ⟨lw_r1, List.forall_mem_append.mpr ⟨lw_r2, List.forall_mem_append.mpr ⟨lw_r3, lw_r4⟩⟩⟩
def RX0 : String := "WeddingReasons$Book"
def TX0 : u_T := fun k => match k with
  | 0 => ("WeddingReasons$Book", "count", "I", false)
  | 1 => ("WeddingReasons$Book", "couples", "[I", true)
  | _ => ("WeddingReasons$Book", "answers", "[I", true)
def tyX0 : Nat → FieldType := fun k => match k with
  | 0 => .int
  | 1 => .array .int
  | _ => .array .int
abbrev wsX00 : List Cond := u_ws RX0 TX0 3
theorem nmX0 : ∀ a, a < 3 → ∀ b, b < 3 → a ≠ b → (TX0 a).2.1 ≠ (TX0 b).2.1 := by decide +kernel
theorem tyX0_ok : ∀ k, k < 3 → parseFieldDescriptor (TX0 k).2.2.1 = some (tyX0 k) := by decide +kernel
abbrev cX0_init : ByteArray := prog_2_method_1_code
def yX0_init : MethodName := ⟨RX0, "<init>", "()V"⟩
abbrev cX0_clear : ByteArray := prog_2_method_2_code
def yX0_clear : MethodName := ⟨RX0, "clear", "()V"⟩
abbrev cX0_isFull : ByteArray := prog_2_method_3_code
def yX0_isFull : MethodName := ⟨RX0, "isFull", "()Z"⟩
abbrev cX0_add : ByteArray := prog_2_method_4_code
def yX0_add : MethodName := ⟨RX0, "add", "(II)I"⟩
abbrev cX0_firstWrong : ByteArray := prog_2_method_5_code
def yX0_firstWrong : MethodName := ⟨RX0, "firstWrong", "(LWeddingReasons$Parish;)I"⟩
def RX1 : String := "WeddingReasons$Cover"
def TX1 : u_T := fun k => match k with
  | _ => ("WeddingReasons$Cover", "cans", "[I", true)
def tyX1 : Nat → FieldType := fun k => match k with
  | _ => .array .int
abbrev wsX10 : List Cond := u_ws RX1 TX1 1
theorem nmX1 : ∀ a, a < 1 → ∀ b, b < 1 → a ≠ b → (TX1 a).2.1 ≠ (TX1 b).2.1 := by decide +kernel
theorem tyX1_ok : ∀ k, k < 1 → parseFieldDescriptor (TX1 k).2.2.1 = some (tyX1 k) := by decide +kernel
abbrev cX1_init : ByteArray := prog_3_method_1_code
def yX1_init : MethodName := ⟨RX1, "<init>", "()V"⟩
abbrev cX1_few : ByteArray := prog_3_method_2_code
def yX1_few : MethodName := ⟨RX1, "few", "(LWeddingReasons$Parish;)I"⟩
abbrev cX1_weddable : ByteArray := prog_3_method_3_code
def yX1_weddable : MethodName := ⟨RX1, "weddable", "(LWeddingReasons$Parish;I)Z"⟩
def RX2 : String := "WeddingReasons$Draws"
def TX2 : u_T := fun k => match k with
  | _ => ("WeddingReasons$Draws", "state", "I", false)
def tyX2 : Nat → FieldType := fun k => match k with
  | _ => .int
abbrev wsX20 : List Cond := u_ws RX2 TX2 1
theorem nmX2 : ∀ a, a < 1 → ∀ b, b < 1 → a ≠ b → (TX2 a).2.1 ≠ (TX2 b).2.1 := by decide +kernel
theorem tyX2_ok : ∀ k, k < 1 → parseFieldDescriptor (TX2 k).2.2.1 = some (tyX2 k) := by decide +kernel
abbrev cX2_init : ByteArray := prog_4_method_1_code
def yX2_init : MethodName := ⟨RX2, "<init>", "()V"⟩
abbrev cX2_draw : ByteArray := prog_4_method_2_code
def yX2_draw : MethodName := ⟨RX2, "draw", "(I)I"⟩
abbrev cX2_stir : ByteArray := prog_4_method_3_code
def yX2_stir : MethodName := ⟨RX2, "stir", "(LWeddingReasons$Parish;)V"⟩
abbrev cX2_oddsOfDry : ByteArray := prog_4_method_4_code
def yX2_oddsOfDry : MethodName := ⟨RX2, "oddsOfDry", "(II)I"⟩
def RX3 : String := "WeddingReasons$Images"
def TX3 : u_T := fun k => match k with
  | 0 => ("WeddingReasons$Images", "rows", "[I", true)
  | 1 => ("WeddingReasons$Images", "seeds", "[I", true)
  | _ => ("WeddingReasons$Images", "kept", "I", false)
def tyX3 : Nat → FieldType := fun k => match k with
  | 0 => .array .int
  | 1 => .array .int
  | _ => .int
abbrev wsX30 : List Cond := u_ws RX3 TX3 3
theorem nmX3 : ∀ a, a < 3 → ∀ b, b < 3 → a ≠ b → (TX3 a).2.1 ≠ (TX3 b).2.1 := by decide +kernel
theorem tyX3_ok : ∀ k, k < 3 → parseFieldDescriptor (TX3 k).2.2.1 = some (tyX3 k) := by decide +kernel
abbrev cX3_init : ByteArray := prog_5_method_1_code
def yX3_init : MethodName := ⟨RX3, "<init>", "()V"⟩
abbrev cX3_store : ByteArray := prog_5_method_2_code
def yX3_store : MethodName := ⟨RX3, "store", "(ILWeddingReasons$Parish;I)V"⟩
abbrev cX3_isKept : ByteArray := prog_5_method_3_code
def yX3_isKept : MethodName := ⟨RX3, "isKept", "(I)Z"⟩
abbrev cX3_fetch : ByteArray := prog_5_method_4_code
def yX3_fetch : MethodName := ⟨RX3, "fetch", "(ILWeddingReasons$Parish;)I"⟩
abbrev cX3_forget : ByteArray := prog_5_method_5_code
def yX3_forget : MethodName := ⟨RX3, "forget", "()V"⟩
def RX4 : String := "WeddingReasons$Matching"
def TX4 : u_T := fun k => match k with
  | 0 => ("WeddingReasons$Matching", "best", "[I", true)
  | _ => ("WeddingReasons$Matching", "gains", "[I", true)
def tyX4 : Nat → FieldType := fun k => match k with
  | 0 => .array .int
  | _ => .array .int
abbrev wsX40 : List Cond := u_ws RX4 TX4 2
theorem nmX4 : ∀ a, a < 2 → ∀ b, b < 2 → a ≠ b → (TX4 a).2.1 ≠ (TX4 b).2.1 := by decide +kernel
theorem tyX4_ok : ∀ k, k < 2 → parseFieldDescriptor (TX4 k).2.2.1 = some (tyX4 k) := by decide +kernel
abbrev cX4_init : ByteArray := prog_6_method_1_code
def yX4_init : MethodName := ⟨RX4, "<init>", "()V"⟩
abbrev cX4_weigh : ByteArray := prog_6_method_2_code
def yX4_weigh : MethodName := ⟨RX4, "weigh", "(LWeddingReasons$Parish;)V"⟩
abbrev cX4_weighPairs : ByteArray := prog_6_method_3_code
def yX4_weighPairs : MethodName := ⟨RX4, "weighPairs", "(LWeddingReasons$Parish;)V"⟩
abbrev cX4_bestFrom : ByteArray := prog_6_method_4_code
def yX4_bestFrom : MethodName := ⟨RX4, "bestFrom", "(LWeddingReasons$Parish;II)I"⟩
abbrev cX4_isFree : ByteArray := prog_6_method_5_code
def yX4_isFree : MethodName := ⟨RX4, "isFree", "(III)Z"⟩
abbrev cX4_valueOf : ByteArray := prog_6_method_6_code
def yX4_valueOf : MethodName := ⟨RX4, "valueOf", "(III)I"⟩
abbrev cX4_howMany : ByteArray := prog_6_method_7_code
def yX4_howMany : MethodName := ⟨RX4, "howMany", "()I"⟩
abbrev cX4_together : ByteArray := prog_6_method_8_code
def yX4_together : MethodName := ⟨RX4, "together", "()I"⟩
abbrev cX4_objectorFor : ByteArray := prog_6_method_9_code
def yX4_objectorFor : MethodName := ⟨RX4, "objectorFor", "(LWeddingReasons$Parish;I)I"⟩
abbrev cX4_firstChoice : ByteArray := prog_6_method_10_code
def yX4_firstChoice : MethodName := ⟨RX4, "firstChoice", "(LWeddingReasons$Parish;II)I"⟩
def RX5 : String := "WeddingReasons$Parish"
def TX5 : u_T := fun k => match k with
  | _ => ("WeddingReasons$Parish", "row", "[I", true)
def tyX5 : Nat → FieldType := fun k => match k with
  | _ => .array .int
abbrev wsX50 : List Cond := u_ws RX5 TX5 1
theorem nmX5 : ∀ a, a < 1 → ∀ b, b < 1 → a ≠ b → (TX5 a).2.1 ≠ (TX5 b).2.1 := by decide +kernel
theorem tyX5_ok : ∀ k, k < 1 → parseFieldDescriptor (TX5 k).2.2.1 = some (tyX5 k) := by decide +kernel
abbrev cX5_init : ByteArray := prog_7_method_1_code
def yX5_init : MethodName := ⟨RX5, "<init>", "()V"⟩
abbrev cX5_clear : ByteArray := prog_7_method_2_code
def yX5_clear : MethodName := ⟨RX5, "clear", "()V"⟩
abbrev cX5_copyFrom : ByteArray := prog_7_method_3_code
def yX5_copyFrom : MethodName := ⟨RX5, "copyFrom", "([II)V"⟩
abbrev cX5_copyTo : ByteArray := prog_7_method_4_code
def yX5_copyTo : MethodName := ⟨RX5, "copyTo", "([II)V"⟩
abbrev cX5_least : ByteArray := prog_7_method_5_code
def yX5_least : MethodName := ⟨RX5, "least", "()I"⟩
abbrev cX5_setLeast : ByteArray := prog_7_method_6_code
def yX5_setLeast : MethodName := ⟨RX5, "setLeast", "(I)V"⟩
abbrev cX5_couples : ByteArray := prog_7_method_7_code
def yX5_couples : MethodName := ⟨RX5, "couples", "()I"⟩
abbrev cX5_objectors : ByteArray := prog_7_method_8_code
def yX5_objectors : MethodName := ⟨RX5, "objectors", "()I"⟩
abbrev cX5_years : ByteArray := prog_7_method_9_code
def yX5_years : MethodName := ⟨RX5, "years", "()I"⟩
abbrev cX5_stood : ByteArray := prog_7_method_10_code
def yX5_stood : MethodName := ⟨RX5, "stood", "()I"⟩
abbrev cX5_boxed : ByteArray := prog_7_method_11_code
def yX5_boxed : MethodName := ⟨RX5, "boxed", "()I"⟩
abbrev cX5_hasCouple : ByteArray := prog_7_method_12_code
def yX5_hasCouple : MethodName := ⟨RX5, "hasCouple", "(I)Z"⟩
abbrev cX5_hasObjector : ByteArray := prog_7_method_13_code
def yX5_hasObjector : MethodName := ⟨RX5, "hasObjector", "(I)Z"⟩
abbrev cX5_answer : ByteArray := prog_7_method_14_code
def yX5_answer : MethodName := ⟨RX5, "answer", "(I)I"⟩
abbrev cX5_setAnswer : ByteArray := prog_7_method_15_code
def yX5_setAnswer : MethodName := ⟨RX5, "setAnswer", "(II)V"⟩
abbrev cX5_fate : ByteArray := prog_7_method_16_code
def yX5_fate : MethodName := ⟨RX5, "fate", "(I)I"⟩
abbrev cX5_waits : ByteArray := prog_7_method_17_code
def yX5_waits : MethodName := ⟨RX5, "waits", "(I)Z"⟩
abbrev cX5_strong : ByteArray := prog_7_method_18_code
def yX5_strong : MethodName := ⟨RX5, "strong", "(I)I"⟩
abbrev cX5_weight : ByteArray := prog_7_method_19_code
def yX5_weight : MethodName := ⟨RX5, "weight", "(II)I"⟩
abbrev cX5_setWeight : ByteArray := prog_7_method_20_code
def yX5_setWeight : MethodName := ⟨RX5, "setWeight", "(III)V"⟩
abbrev cX5_kind : ByteArray := prog_7_method_21_code
def yX5_kind : MethodName := ⟨RX5, "kind", "(I)I"⟩
abbrev cX5_skill : ByteArray := prog_7_method_22_code
def yX5_skill : MethodName := ⟨RX5, "skill", "(I)I"⟩
abbrev cX5_setSkill : ByteArray := prog_7_method_23_code
def yX5_setSkill : MethodName := ⟨RX5, "setSkill", "(II)V"⟩
abbrev cX5_known : ByteArray := prog_7_method_24_code
def yX5_known : MethodName := ⟨RX5, "known", "(I)I"⟩
abbrev cX5_setKnown : ByteArray := prog_7_method_25_code
def yX5_setKnown : MethodName := ⟨RX5, "setKnown", "(II)V"⟩
abbrev cX5_hasStood : ByteArray := prog_7_method_26_code
def yX5_hasStood : MethodName := ⟨RX5, "hasStood", "(I)Z"⟩
abbrev cX5_fromBox : ByteArray := prog_7_method_27_code
def yX5_fromBox : MethodName := ⟨RX5, "fromBox", "(II)I"⟩
abbrev cX5_addCouple : ByteArray := prog_7_method_28_code
def yX5_addCouple : MethodName := ⟨RX5, "addCouple", "()V"⟩
abbrev cX5_addObjector : ByteArray := prog_7_method_29_code
def yX5_addObjector : MethodName := ⟨RX5, "addObjector", "(III)V"⟩
abbrev cX5_couplesThat : ByteArray := prog_7_method_30_code
def yX5_couplesThat : MethodName := ⟨RX5, "couplesThat", "(I)I"⟩
abbrev cX5_reasonOf : ByteArray := prog_7_method_31_code
def yX5_reasonOf : MethodName := ⟨RX5, "reasonOf", "(II)I"⟩
abbrev cX5_strengthIn : ByteArray := prog_7_method_32_code
def yX5_strengthIn : MethodName := ⟨RX5, "strengthIn", "(III)I"⟩
abbrev cX5_objects : ByteArray := prog_7_method_33_code
def yX5_objects : MethodName := ⟨RX5, "objects", "(II)Z"⟩
abbrev cX5_wedIn : ByteArray := prog_7_method_34_code
def yX5_wedIn : MethodName := ⟨RX5, "wedIn", "(III)Z"⟩
abbrev cX5_mayStand : ByteArray := prog_7_method_35_code
def yX5_mayStand : MethodName := ⟨RX5, "mayStand", "(II)Z"⟩
abbrev cX5_standUp : ByteArray := prog_7_method_36_code
def yX5_standUp : MethodName := ⟨RX5, "standUp", "(II)V"⟩
abbrev cX5_putIntoBox : ByteArray := prog_7_method_37_code
def yX5_putIntoBox : MethodName := ⟨RX5, "putIntoBox", "(III)V"⟩
abbrev cX5_passYear : ByteArray := prog_7_method_38_code
def yX5_passYear : MethodName := ⟨RX5, "passYear", "()V"⟩
def RX6 : String := "WeddingReasons$Past"
def TX6 : u_T := fun k => match k with
  | 0 => ("WeddingReasons$Past", "count", "I", false)
  | 1 => ("WeddingReasons$Past", "next", "I", false)
  | _ => ("WeddingReasons$Past", "rows", "[I", true)
def tyX6 : Nat → FieldType := fun k => match k with
  | 0 => .int
  | 1 => .int
  | _ => .array .int
abbrev wsX60 : List Cond := u_ws RX6 TX6 3
theorem nmX6 : ∀ a, a < 3 → ∀ b, b < 3 → a ≠ b → (TX6 a).2.1 ≠ (TX6 b).2.1 := by decide +kernel
theorem tyX6_ok : ∀ k, k < 3 → parseFieldDescriptor (TX6 k).2.2.1 = some (tyX6 k) := by decide +kernel
abbrev cX6_init : ByteArray := prog_8_method_1_code
def yX6_init : MethodName := ⟨RX6, "<init>", "()V"⟩
abbrev cX6_remember : ByteArray := prog_8_method_2_code
def yX6_remember : MethodName := ⟨RX6, "remember", "(LWeddingReasons$Parish;)V"⟩
abbrev cX6_restore : ByteArray := prog_8_method_3_code
def yX6_restore : MethodName := ⟨RX6, "restore", "(LWeddingReasons$Parish;)V"⟩
abbrev cX6_forget : ByteArray := prog_8_method_4_code
def yX6_forget : MethodName := ⟨RX6, "forget", "()V"⟩
def RX7 : String := "WeddingReasons$Reader"
def TX7 : u_T := fun k => match k with
  | 0 => ("WeddingReasons$Reader", "made", "LWeddingReasons$Parish;", true)
  | 1 => ("WeddingReasons$Reader", "length", "I", false)
  | 2 => ("WeddingReasons$Reader", "faultAt", "I", false)
  | 3 => ("WeddingReasons$Reader", "text", "[I", true)
  | 4 => ("WeddingReasons$Reader", "at", "I", false)
  | _ => ("WeddingReasons$Reader", "faultNumber", "I", false)
def tyX7 : Nat → FieldType := fun k => match k with
  | 0 => .object "WeddingReasons$Parish"
  | 1 => .int
  | 2 => .int
  | 3 => .array .int
  | 4 => .int
  | _ => .int
abbrev wsX70 : List Cond := u_ws RX7 TX7 6
theorem nmX7 : ∀ a, a < 6 → ∀ b, b < 6 → a ≠ b → (TX7 a).2.1 ≠ (TX7 b).2.1 := by decide +kernel
theorem tyX7_ok : ∀ k, k < 6 → parseFieldDescriptor (TX7 k).2.2.1 = some (tyX7 k) := by decide +kernel
abbrev cX7_init : ByteArray := prog_9_method_1_code
def yX7_init : MethodName := ⟨RX7, "<init>", "()V"⟩
abbrev cX7_isFull : ByteArray := prog_9_method_2_code
def yX7_isFull : MethodName := ⟨RX7, "isFull", "()Z"⟩
abbrev cX7_put : ByteArray := prog_9_method_3_code
def yX7_put : MethodName := ⟨RX7, "put", "(I)I"⟩
abbrev cX7_readText : ByteArray := prog_9_method_4_code
def yX7_readText : MethodName := ⟨RX7, "readText", "()I"⟩
abbrev cX7_readClause : ByteArray := prog_9_method_5_code
def yX7_readClause : MethodName := ⟨RX7, "readClause", "()V"⟩
abbrev cX7_faultOfWord : ByteArray := prog_9_method_6_code
def yX7_faultOfWord : MethodName := ⟨RX7, "faultOfWord", "(I)I"⟩
abbrev cX7_faultOfMore : ByteArray := prog_9_method_7_code
def yX7_faultOfMore : MethodName := ⟨RX7, "faultOfMore", "(ZZ)I"⟩
abbrev cX7_readLeast : ByteArray := prog_9_method_8_code
def yX7_readLeast : MethodName := ⟨RX7, "readLeast", "()V"⟩
abbrev cX7_readCouple : ByteArray := prog_9_method_9_code
def yX7_readCouple : MethodName := ⟨RX7, "readCouple", "()V"⟩
abbrev cX7_readObjector : ByteArray := prog_9_method_10_code
def yX7_readObjector : MethodName := ⟨RX7, "readObjector", "()V"⟩
abbrev cX7_number : ByteArray := prog_9_method_11_code
def yX7_number : MethodName := ⟨RX7, "number", "(II)I"⟩
abbrev cX7_expect : ByteArray := prog_9_method_12_code
def yX7_expect : MethodName := ⟨RX7, "expect", "(I)V"⟩
abbrev cX7_skipBlanks : ByteArray := prog_9_method_13_code
def yX7_skipBlanks : MethodName := ⟨RX7, "skipBlanks", "()V"⟩
abbrev cX7_isFigure : ByteArray := prog_9_method_14_code
def yX7_isFigure : MethodName := ⟨RX7, "isFigure", "(I)Z"⟩
abbrev cX7_fail : ByteArray := prog_9_method_15_code
def yX7_fail : MethodName := ⟨RX7, "fail", "(II)V"⟩
def RX8 : String := "WeddingReasons$Round"
def TX8 : u_T := fun k => match k with
  | _ => ("WeddingReasons$Round", "best", "[I", true)
def tyX8 : Nat → FieldType := fun k => match k with
  | _ => .array .int
abbrev wsX80 : List Cond := u_ws RX8 TX8 1
theorem nmX8 : ∀ a, a < 1 → ∀ b, b < 1 → a ≠ b → (TX8 a).2.1 ≠ (TX8 b).2.1 := by decide +kernel
theorem tyX8_ok : ∀ k, k < 1 → parseFieldDescriptor (TX8 k).2.2.1 = some (tyX8 k) := by decide +kernel
abbrev cX8_init : ByteArray := prog_10_method_1_code
def yX8_init : MethodName := ⟨RX8, "<init>", "()V"⟩
abbrev cX8_weigh : ByteArray := prog_10_method_2_code
def yX8_weigh : MethodName := ⟨RX8, "weigh", "(LWeddingReasons$Parish;II)V"⟩
abbrev cX8_bestOf : ByteArray := prog_10_method_3_code
def yX8_bestOf : MethodName := ⟨RX8, "bestOf", "(LWeddingReasons$Parish;III)I"⟩
abbrev cX8_valueOf : ByteArray := prog_10_method_4_code
def yX8_valueOf : MethodName := ⟨RX8, "valueOf", "(LWeddingReasons$Parish;IIII)I"⟩
abbrev cX8_howMany : ByteArray := prog_10_method_5_code
def yX8_howMany : MethodName := ⟨RX8, "howMany", "(I)I"⟩
abbrev cX8_figures : ByteArray := prog_10_method_6_code
def yX8_figures : MethodName := ⟨RX8, "figures", "(LWeddingReasons$Parish;II)I"⟩
abbrev cX8_firstChoice : ByteArray := prog_10_method_7_code
def yX8_firstChoice : MethodName := ⟨RX8, "firstChoice", "(LWeddingReasons$Parish;III)I"⟩
def RX9 : String := "WeddingReasons$Sayings"
def TX9 : u_T := fun k => match k with
  | 0 => ("WeddingReasons$Sayings", "count", "I", false)
  | _ => ("WeddingReasons$Sayings", "said", "[I", true)
def tyX9 : Nat → FieldType := fun k => match k with
  | 0 => .int
  | _ => .array .int
abbrev wsX90 : List Cond := u_ws RX9 TX9 2
theorem nmX9 : ∀ a, a < 2 → ∀ b, b < 2 → a ≠ b → (TX9 a).2.1 ≠ (TX9 b).2.1 := by decide +kernel
theorem tyX9_ok : ∀ k, k < 2 → parseFieldDescriptor (TX9 k).2.2.1 = some (tyX9 k) := by decide +kernel
abbrev cX9_init : ByteArray := prog_11_method_1_code
def yX9_init : MethodName := ⟨RX9, "<init>", "()V"⟩
abbrev cX9_clear : ByteArray := prog_11_method_2_code
def yX9_clear : MethodName := ⟨RX9, "clear", "()V"⟩
abbrev cX9_isFull : ByteArray := prog_11_method_3_code
def yX9_isFull : MethodName := ⟨RX9, "isFull", "()Z"⟩
abbrev cX9_add : ByteArray := prog_11_method_4_code
def yX9_add : MethodName := ⟨RX9, "add", "(III)I"⟩
abbrev cX9_fits : ByteArray := prog_11_method_5_code
def yX9_fits : MethodName := ⟨RX9, "fits", "(I)Z"⟩
abbrev cX9_howManyFit : ByteArray := prog_11_method_6_code
def yX9_howManyFit : MethodName := ⟨RX9, "howManyFit", "()I"⟩
abbrev cX9_leastThatFits : ByteArray := prog_11_method_7_code
def yX9_leastThatFits : MethodName := ⟨RX9, "leastThatFits", "()I"⟩
abbrev cX9_greatestThatFits : ByteArray := prog_11_method_8_code
def yX9_greatestThatFits : MethodName := ⟨RX9, "greatestThatFits", "()I"⟩
abbrev cX9_bestKind : ByteArray := prog_11_method_9_code
def yX9_bestKind : MethodName := ⟨RX9, "bestKind", "()I"⟩
abbrev cX9_greatestPart : ByteArray := prog_11_method_10_code
def yX9_greatestPart : MethodName := ⟨RX9, "greatestPart", "(I)I"⟩
abbrev cX9_partOf : ByteArray := prog_11_method_11_code
def yX9_partOf : MethodName := ⟨RX9, "partOf", "(II)I"⟩
def RX10 : String := "WeddingReasons$Tried"
def TX10 : u_T := fun k => match k with
  | _ => ("", "", "", false)
def tyX10 : Nat → FieldType := fun k => match k with
  | _ => .int
abbrev wsX100 : List Cond := u_ws RX10 TX10 0
theorem nmX10 : ∀ a, a < 0 → ∀ b, b < 0 → a ≠ b → (TX10 a).2.1 ≠ (TX10 b).2.1 := by decide +kernel
theorem tyX10_ok : ∀ k, k < 0 → parseFieldDescriptor (TX10 k).2.2.1 = some (tyX10 k) := by decide +kernel
abbrev cX10_can : ByteArray := prog_12_method_2_code
def yX10_can : MethodName := ⟨RX10, "can", "(LWeddingReasons$Parish;I)I"⟩
abbrev cX10_firstYear : ByteArray := prog_12_method_3_code
def yX10_firstYear : MethodName := ⟨RX10, "firstYear", "(LWeddingReasons$Parish;II)I"⟩
abbrev cX10_safeAnswer : ByteArray := prog_12_method_4_code
def yX10_safeAnswer : MethodName := ⟨RX10, "safeAnswer", "(LWeddingReasons$Parish;II)I"⟩
abbrev cX10_plain : ByteArray := prog_12_method_5_code
def yX10_plain : MethodName := ⟨RX10, "plain", "(LWeddingReasons$Parish;)I"⟩
abbrev cX10_firmest : ByteArray := prog_12_method_6_code
def yX10_firmest : MethodName := ⟨RX10, "firmest", "(LWeddingReasons$Parish;)I"⟩
abbrev cX10_weakest : ByteArray := prog_12_method_7_code
def yX10_weakest : MethodName := ⟨RX10, "weakest", "(LWeddingReasons$Parish;I)I"⟩
def RX11 : String := "WeddingReasons"
def TX11 : u_T := fun k => match k with
  | 0 => ("WeddingReasons", "now", "LWeddingReasons$Parish;", true)
  | 1 => ("WeddingReasons", "reader", "LWeddingReasons$Reader;", true)
  | 2 => ("WeddingReasons", "past", "LWeddingReasons$Past;", true)
  | 3 => ("WeddingReasons", "images", "LWeddingReasons$Images;", true)
  | 4 => ("WeddingReasons", "draws", "LWeddingReasons$Draws;", true)
  | 5 => ("WeddingReasons", "matching", "LWeddingReasons$Matching;", true)
  | 6 => ("WeddingReasons", "round", "LWeddingReasons$Round;", true)
  | 7 => ("WeddingReasons", "cover", "LWeddingReasons$Cover;", true)
  | 8 => ("WeddingReasons", "sayings", "LWeddingReasons$Sayings;", true)
  | _ => ("WeddingReasons", "book", "LWeddingReasons$Book;", true)
def tyX11 : Nat → FieldType := fun k => match k with
  | 0 => .object "WeddingReasons$Parish"
  | 1 => .object "WeddingReasons$Reader"
  | 2 => .object "WeddingReasons$Past"
  | 3 => .object "WeddingReasons$Images"
  | 4 => .object "WeddingReasons$Draws"
  | 5 => .object "WeddingReasons$Matching"
  | 6 => .object "WeddingReasons$Round"
  | 7 => .object "WeddingReasons$Cover"
  | 8 => .object "WeddingReasons$Sayings"
  | _ => .object "WeddingReasons$Book"
abbrev wsX110 : List Cond := u_ws RX11 TX11 10
theorem nmX11 : ∀ a, a < 10 → ∀ b, b < 10 → a ≠ b → (TX11 a).2.1 ≠ (TX11 b).2.1 := by decide +kernel
theorem tyX11_ok : ∀ k, k < 10 → parseFieldDescriptor (TX11 k).2.2.1 = some (tyX11 k) := by decide +kernel
abbrev cX11_init : ByteArray := prog_1_method_1_code
def yX11_init : MethodName := ⟨RX11, "<init>", "()V"⟩
abbrev cX11_feed : ByteArray := prog_1_method_2_code
def yX11_feed : MethodName := ⟨RX11, "feed", "(I)I"⟩
abbrev cX11_deanery : ByteArray := prog_1_method_3_code
def yX11_deanery : MethodName := ⟨RX11, "deanery", "()I"⟩
abbrev cX11_fault : ByteArray := prog_1_method_4_code
def yX11_fault : MethodName := ⟨RX11, "fault", "()I"⟩
abbrev cX11_told : ByteArray := prog_1_method_5_code
def yX11_told : MethodName := ⟨RX11, "told", "(I)I"⟩
abbrev cX11_couple : ByteArray := prog_1_method_6_code
def yX11_couple : MethodName := ⟨RX11, "couple", "(II)I"⟩
abbrev cX11_objector : ByteArray := prog_1_method_7_code
def yX11_objector : MethodName := ⟨RX11, "objector", "(II)I"⟩
abbrev cX11_box : ByteArray := prog_1_method_8_code
def yX11_box : MethodName := ⟨RX11, "box", "(II)I"⟩
abbrev cX11_against : ByteArray := prog_1_method_9_code
def yX11_against : MethodName := ⟨RX11, "against", "(III)I"⟩
abbrev cX11_stand : ByteArray := prog_1_method_10_code
def yX11_stand : MethodName := ⟨RX11, "stand", "(II)I"⟩
abbrev cX11_year : ByteArray := prog_1_method_11_code
def yX11_year : MethodName := ⟨RX11, "year", "(I)I"⟩
abbrev cX11_teach : ByteArray := prog_1_method_12_code
def yX11_teach : MethodName := ⟨RX11, "teach", "(IIZ)I"⟩
abbrev cX11_hear : ByteArray := prog_1_method_13_code
def yX11_hear : MethodName := ⟨RX11, "hear", "(III)I"⟩
abbrev cX11_practise : ByteArray := prog_1_method_14_code
def yX11_practise : MethodName := ⟨RX11, "practise", "(II)I"⟩
abbrev cX11_sour : ByteArray := prog_1_method_15_code
def yX11_sour : MethodName := ⟨RX11, "sour", "(II)I"⟩
abbrev cX11_drift : ByteArray := prog_1_method_16_code
def yX11_drift : MethodName := ⟨RX11, "drift", "(I)I"⟩
abbrev cX11_undo : ByteArray := prog_1_method_17_code
def yX11_undo : MethodName := ⟨RX11, "undo", "()I"⟩
abbrev cX11_soonest : ByteArray := prog_1_method_18_code
def yX11_soonest : MethodName := ⟨RX11, "soonest", "(II)I"⟩
abbrev cX11_match : ByteArray := prog_1_method_19_code
def yX11_match : MethodName := ⟨RX11, "match", "(I)I"⟩
abbrev cX11_rounds : ByteArray := prog_1_method_20_code
def yX11_rounds : MethodName := ⟨RX11, "rounds", "(III)I"⟩
abbrev cX11_holds : ByteArray := prog_1_method_21_code
def yX11_holds : MethodName := ⟨RX11, "holds", "(II)I"⟩
abbrev cX11_dry : ByteArray := prog_1_method_22_code
def yX11_dry : MethodName := ⟨RX11, "dry", "(II)I"⟩
abbrev cX11_say : ByteArray := prog_1_method_23_code
def yX11_say : MethodName := ⟨RX11, "say", "(III)I"⟩
abbrev cX11_weights : ByteArray := prog_1_method_24_code
def yX11_weights : MethodName := ⟨RX11, "weights", "(I)I"⟩
abbrev cX11_ask : ByteArray := prog_1_method_25_code
def yX11_ask : MethodName := ⟨RX11, "ask", "()I"⟩
abbrev cX11_write : ByteArray := prog_1_method_26_code
def yX11_write : MethodName := ⟨RX11, "write", "(II)I"⟩
abbrev cX11_tear : ByteArray := prog_1_method_27_code
def yX11_tear : MethodName := ⟨RX11, "tear", "()I"⟩
abbrev cX11_judge : ByteArray := prog_1_method_28_code
def yX11_judge : MethodName := ⟨RX11, "judge", "()I"⟩
abbrev cX11_seed : ByteArray := prog_1_method_29_code
def yX11_seed : MethodName := ⟨RX11, "seed", "(I)I"⟩
abbrev cX11_keep : ByteArray := prog_1_method_30_code
def yX11_keep : MethodName := ⟨RX11, "keep", "(I)I"⟩
abbrev cX11_goBack : ByteArray := prog_1_method_31_code
def yX11_goBack : MethodName := ⟨RX11, "goBack", "(I)I"⟩
abbrev cX11_refusalOfYears : ByteArray := prog_1_method_32_code
def yX11_refusalOfYears : MethodName := ⟨RX11, "refusalOfYears", "(I)I"⟩
abbrev cX11_isOutside : ByteArray := prog_1_method_33_code
def yX11_isOutside : MethodName := ⟨RX11, "isOutside", "(III)Z"⟩
abbrev cX11_isSetOf : ByteArray := prog_1_method_34_code
def yX11_isSetOf : MethodName := ⟨RX11, "isSetOf", "(II)Z"⟩
abbrev cX11_strengthBy : ByteArray := prog_1_method_35_code
def yX11_strengthBy : MethodName := ⟨RX11, "strengthBy", "(III)I"⟩
def RX12 : String := "WeddingReasonsModel"
def TX12 : u_T := fun k => match k with
  | 0 => ("WeddingReasonsModel", "deanery", "[I", true)
  | 1 => ("WeddingReasonsModel", "read", "[I", true)
  | 2 => ("WeddingReasonsModel", "now", "[I", true)
  | 3 => ("WeddingReasonsModel", "aside", "[I", true)
  | 4 => ("WeddingReasonsModel", "past", "[I", true)
  | 5 => ("WeddingReasonsModel", "undos", "I", false)
  | 6 => ("WeddingReasonsModel", "images", "[I", true)
  | 7 => ("WeddingReasonsModel", "kept", "[Z", true)
  | 8 => ("WeddingReasonsModel", "seed", "J", false)
  | 9 => ("WeddingReasonsModel", "text", "[I", true)
  | 10 => ("WeddingReasonsModel", "size", "I", false)
  | 11 => ("WeddingReasonsModel", "fault", "I", false)
  | 12 => ("WeddingReasonsModel", "said", "[I", true)
  | 13 => ("WeddingReasonsModel", "saidMany", "I", false)
  | 14 => ("WeddingReasonsModel", "book", "[I", true)
  | 15 => ("WeddingReasonsModel", "bookMany", "I", false)
  | 16 => ("WeddingReasonsModel", "at", "I", false)
  | 17 => ("WeddingReasonsModel", "begin", "I", false)
  | 18 => ("WeddingReasonsModel", "sign", "I", false)
  | 19 => ("WeddingReasonsModel", "figures", "I", false)
  | 20 => ("WeddingReasonsModel", "value", "I", false)
  | 21 => ("WeddingReasonsModel", "wrong", "I", false)
  | 22 => ("WeddingReasonsModel", "best", "[I", true)
  | _ => ("WeddingReasonsModel", "row", "[I", true)
def tyX12 : Nat → FieldType := fun k => match k with
  | 0 => .array .int
  | 1 => .array .int
  | 2 => .array .int
  | 3 => .array .int
  | 4 => .array .int
  | 5 => .int
  | 6 => .array .int
  | 7 => .array .boolean
  | 8 => .long
  | 9 => .array .int
  | 10 => .int
  | 11 => .int
  | 12 => .array .int
  | 13 => .int
  | 14 => .array .int
  | 15 => .int
  | 16 => .int
  | 17 => .int
  | 18 => .int
  | 19 => .int
  | 20 => .int
  | 21 => .int
  | 22 => .array .int
  | _ => .array .int
abbrev wsX120 : List Cond := u_ws RX12 TX12 24
theorem nmX12 : ∀ a, a < 24 → ∀ b, b < 24 → a ≠ b → (TX12 a).2.1 ≠ (TX12 b).2.1 := by decide +kernel
theorem tyX12_ok : ∀ k, k < 24 → parseFieldDescriptor (TX12 k).2.2.1 = some (tyX12 k) := by decide +kernel
abbrev cX12_init : ByteArray := prog_14_method_1_code
def yX12_init : MethodName := ⟨RX12, "<init>", "()V"⟩
abbrev cX12_in : ByteArray := prog_14_method_3_code
def yX12_in : MethodName := ⟨RX12, "in", "(JJJ)Z"⟩
abbrev cX12_has : ByteArray := prog_14_method_4_code
def yX12_has : MethodName := ⟨RX12, "has", "(II)Z"⟩
abbrev cX12_bits : ByteArray := prog_14_method_5_code
def yX12_bits : MethodName := ⟨RX12, "bits", "(I)I"⟩
abbrev cX12_lesser : ByteArray := prog_14_method_6_code
def yX12_lesser : MethodName := ⟨RX12, "lesser", "(II)I"⟩
abbrev cX12_greater : ByteArray := prog_14_method_7_code
def yX12_greater : MethodName := ⟨RX12, "greater", "(II)I"⟩
abbrev cX12_copies : ByteArray := prog_14_method_8_code
def yX12_copies : MethodName := ⟨RX12, "copies", "([II[III)V"⟩
abbrev cX12_begins : ByteArray := prog_14_method_9_code
def yX12_begins : MethodName := ⟨RX12, "begins", "()V"⟩
abbrev cX12_feed : ByteArray := prog_14_method_10_code
def yX12_feed : MethodName := ⟨RX12, "feed", "(I)I"⟩
abbrev cX12_here : ByteArray := prog_14_method_11_code
def yX12_here : MethodName := ⟨RX12, "here", "()I"⟩
abbrev cX12_step : ByteArray := prog_14_method_12_code
def yX12_step : MethodName := ⟨RX12, "step", "()V"⟩
abbrev cX12_fails : ByteArray := prog_14_method_13_code
def yX12_fails : MethodName := ⟨RX12, "fails", "(I)Z"⟩
abbrev cX12_number : ByteArray := prog_14_method_14_code
def yX12_number : MethodName := ⟨RX12, "number", "(III)Z"⟩
abbrev cX12_ends : ByteArray := prog_14_method_15_code
def yX12_ends : MethodName := ⟨RX12, "ends", "()Z"⟩
abbrev cX12_readsCouple : ByteArray := prog_14_method_16_code
def yX12_readsCouple : MethodName := ⟨RX12, "readsCouple", "()Z"⟩
abbrev cX12_readsObjector : ByteArray := prog_14_method_17_code
def yX12_readsObjector : MethodName := ⟨RX12, "readsObjector", "()Z"⟩
abbrev cX12_readsClause : ByteArray := prog_14_method_18_code
def yX12_readsClause : MethodName := ⟨RX12, "readsClause", "()Z"⟩
abbrev cX12_deanery : ByteArray := prog_14_method_19_code
def yX12_deanery : MethodName := ⟨RX12, "deanery", "()I"⟩
abbrev cX12_fault : ByteArray := prog_14_method_20_code
def yX12_fault : MethodName := ⟨RX12, "fault", "()I"⟩
abbrev cX12_isCouple : ByteArray := prog_14_method_21_code
def yX12_isCouple : MethodName := ⟨RX12, "isCouple", "(I)Z"⟩
abbrev cX12_isObjector : ByteArray := prog_14_method_22_code
def yX12_isObjector : MethodName := ⟨RX12, "isObjector", "(I)Z"⟩
abbrev cX12_reasonOn : ByteArray := prog_14_method_23_code
def yX12_reasonOn : MethodName := ⟨RX12, "reasonOn", "([III)I"⟩
abbrev cX12_strengthBy : ByteArray := prog_14_method_24_code
def yX12_strengthBy : MethodName := ⟨RX12, "strengthBy", "(III)I"⟩
abbrev cX12_strengthOn : ByteArray := prog_14_method_25_code
def yX12_strengthOn : MethodName := ⟨RX12, "strengthOn", "([III)I"⟩
abbrev cX12_counts : ByteArray := prog_14_method_26_code
def yX12_counts : MethodName := ⟨RX12, "counts", "([III)Z"⟩
abbrev cX12_weds : ByteArray := prog_14_method_27_code
def yX12_weds : MethodName := ⟨RX12, "weds", "([III)Z"⟩
abbrev cX12_those : ByteArray := prog_14_method_28_code
def yX12_those : MethodName := ⟨RX12, "those", "(I)I"⟩
abbrev cX12_can : ByteArray := prog_14_method_29_code
def yX12_can : MethodName := ⟨RX12, "can", "(I)I"⟩
abbrev cX12_plain : ByteArray := prog_14_method_30_code
def yX12_plain : MethodName := ⟨RX12, "plain", "()I"⟩
abbrev cX12_firmest : ByteArray := prog_14_method_31_code
def yX12_firmest : MethodName := ⟨RX12, "firmest", "()I"⟩
abbrev cX12_weakest : ByteArray := prog_14_method_32_code
def yX12_weakest : MethodName := ⟨RX12, "weakest", "(I)I"⟩
abbrev cX12_few : ByteArray := prog_14_method_33_code
def yX12_few : MethodName := ⟨RX12, "few", "()I"⟩
abbrev cX12_told : ByteArray := prog_14_method_34_code
def yX12_told : MethodName := ⟨RX12, "told", "(I)I"⟩
abbrev cX12_couple : ByteArray := prog_14_method_35_code
def yX12_couple : MethodName := ⟨RX12, "couple", "(II)I"⟩
abbrev cX12_objector : ByteArray := prog_14_method_36_code
def yX12_objector : MethodName := ⟨RX12, "objector", "(II)I"⟩
abbrev cX12_box : ByteArray := prog_14_method_37_code
def yX12_box : MethodName := ⟨RX12, "box", "(II)I"⟩
abbrev cX12_against : ByteArray := prog_14_method_38_code
def yX12_against : MethodName := ⟨RX12, "against", "(III)I"⟩
abbrev cX12_remember : ByteArray := prog_14_method_39_code
def yX12_remember : MethodName := ⟨RX12, "remember", "()V"⟩
abbrev cX12_boxes : ByteArray := prog_14_method_40_code
def yX12_boxes : MethodName := ⟨RX12, "boxes", "([III)V"⟩
abbrev cX12_mayStand : ByteArray := prog_14_method_41_code
def yX12_mayStand : MethodName := ⟨RX12, "mayStand", "(II)Z"⟩
abbrev cX12_stands : ByteArray := prog_14_method_42_code
def yX12_stands : MethodName := ⟨RX12, "stands", "([III)Z"⟩
abbrev cX12_stand : ByteArray := prog_14_method_43_code
def yX12_stand : MethodName := ⟨RX12, "stand", "(II)I"⟩
abbrev cX12_yearGoes : ByteArray := prog_14_method_44_code
def yX12_yearGoes : MethodName := ⟨RX12, "yearGoes", "([I)V"⟩
abbrev cX12_refuses : ByteArray := prog_14_method_45_code
def yX12_refuses : MethodName := ⟨RX12, "refuses", "(I)I"⟩
abbrev cX12_year : ByteArray := prog_14_method_46_code
def yX12_year : MethodName := ⟨RX12, "year", "(I)I"⟩
abbrev cX12_teach : ByteArray := prog_14_method_47_code
def yX12_teach : MethodName := ⟨RX12, "teach", "(IIZ)I"⟩
abbrev cX12_hear : ByteArray := prog_14_method_48_code
def yX12_hear : MethodName := ⟨RX12, "hear", "(III)I"⟩
abbrev cX12_practise : ByteArray := prog_14_method_49_code
def yX12_practise : MethodName := ⟨RX12, "practise", "(II)I"⟩
abbrev cX12_sour : ByteArray := prog_14_method_50_code
def yX12_sour : MethodName := ⟨RX12, "sour", "(II)I"⟩
abbrev cX12_draw : ByteArray := prog_14_method_51_code
def yX12_draw : MethodName := ⟨RX12, "draw", "(I)I"⟩
abbrev cX12_draws : ByteArray := prog_14_method_52_code
def yX12_draws : MethodName := ⟨RX12, "draws", "()V"⟩
abbrev cX12_drift : ByteArray := prog_14_method_53_code
def yX12_drift : MethodName := ⟨RX12, "drift", "(I)I"⟩
abbrev cX12_undo : ByteArray := prog_14_method_54_code
def yX12_undo : MethodName := ⟨RX12, "undo", "()I"⟩
abbrev cX12_layAside : ByteArray := prog_14_method_55_code
def yX12_layAside : MethodName := ⟨RX12, "layAside", "()V"⟩
abbrev cX12_soonest : ByteArray := prog_14_method_56_code
def yX12_soonest : MethodName := ⟨RX12, "soonest", "(II)I"⟩
abbrev cX12_weighsMatches : ByteArray := prog_14_method_57_code
def yX12_weighsMatches : MethodName := ⟨RX12, "weighsMatches", "()V"⟩
abbrev cX12_matched : ByteArray := prog_14_method_58_code
def yX12_matched : MethodName := ⟨RX12, "matched", "(I)I"⟩
abbrev cX12_match : ByteArray := prog_14_method_59_code
def yX12_match : MethodName := ⟨RX12, "match", "(I)I"⟩
abbrev cX12_nextOrder : ByteArray := prog_14_method_60_code
def yX12_nextOrder : MethodName := ⟨RX12, "nextOrder", "(I)Z"⟩
abbrev cX12_rounds : ByteArray := prog_14_method_61_code
def yX12_rounds : MethodName := ⟨RX12, "rounds", "(III)I"⟩
abbrev cX12_holds : ByteArray := prog_14_method_62_code
def yX12_holds : MethodName := ⟨RX12, "holds", "(II)I"⟩
abbrev cX12_dry : ByteArray := prog_14_method_63_code
def yX12_dry : MethodName := ⟨RX12, "dry", "(II)I"⟩
abbrev cX12_say : ByteArray := prog_14_method_64_code
def yX12_say : MethodName := ⟨RX12, "say", "(III)I"⟩
abbrev cX12_isSo : ByteArray := prog_14_method_65_code
def yX12_isSo : MethodName := ⟨RX12, "isSo", "(I)Z"⟩
abbrev cX12_weights : ByteArray := prog_14_method_66_code
def yX12_weights : MethodName := ⟨RX12, "weights", "(I)I"⟩
abbrev cX12_ask : ByteArray := prog_14_method_67_code
def yX12_ask : MethodName := ⟨RX12, "ask", "()I"⟩
abbrev cX12_write : ByteArray := prog_14_method_68_code
def yX12_write : MethodName := ⟨RX12, "write", "(II)I"⟩
abbrev cX12_tear : ByteArray := prog_14_method_69_code
def yX12_tear : MethodName := ⟨RX12, "tear", "()I"⟩
abbrev cX12_judge : ByteArray := prog_14_method_70_code
def yX12_judge : MethodName := ⟨RX12, "judge", "()I"⟩
abbrev cX12_seed : ByteArray := prog_14_method_71_code
def yX12_seed : MethodName := ⟨RX12, "seed", "(I)I"⟩
abbrev cX12_keep : ByteArray := prog_14_method_72_code
def yX12_keep : MethodName := ⟨RX12, "keep", "(I)I"⟩
abbrev cX12_goBack : ByteArray := prog_14_method_73_code
def yX12_goBack : MethodName := ⟨RX12, "goBack", "(I)I"⟩
def RJ6 : String := "java/lang/Integer"
def TJ6 : u_T := fun k => match k with
  | _ => ("", "", "", false)
def tyJ6 : Nat → FieldType := fun k => match k with
  | _ => .int
abbrev wsJ60 : List Cond := u_ws RJ6 TJ6 0
theorem nmJ6 : ∀ a, a < 0 → ∀ b, b < 0 → a ≠ b → (TJ6 a).2.1 ≠ (TJ6 b).2.1 := by decide +kernel
theorem tyJ6_ok : ∀ k, k < 0 → parseFieldDescriptor (TJ6 k).2.2.1 = some (tyJ6 k) := by decide +kernel
abbrev cJ6_bitCount_0f7a4 : ByteArray := prog_15_method_49_code
def yJ6_bitCount_0f7a4 : MethodName := ⟨RJ6, "bitCount", "(I)I"⟩
def RJ9 : String := "java/lang/Math"
def TJ9 : u_T := fun k => match k with
  | _ => ("", "", "", false)
def tyJ9 : Nat → FieldType := fun k => match k with
  | _ => .int
abbrev wsJ90 : List Cond := u_ws RJ9 TJ9 0
theorem nmJ9 : ∀ a, a < 0 → ∀ b, b < 0 → a ≠ b → (TJ9 a).2.1 ≠ (TJ9 b).2.1 := by decide +kernel
theorem tyJ9_ok : ∀ k, k < 0 → parseFieldDescriptor (TJ9 k).2.2.1 = some (tyJ9 k) := by decide +kernel
abbrev cJ9_max_7cf53 : ByteArray := prog_16_method_65_code
def yJ9_max_7cf53 : MethodName := ⟨RJ9, "max", "(II)I"⟩
abbrev cJ9_min_7cf53 : ByteArray := prog_16_method_69_code
def yJ9_min_7cf53 : MethodName := ⟨RJ9, "min", "(II)I"⟩
def RJ10 : String := "java/lang/System"
def TJ10 : u_T := fun k => match k with
  | _ => ("", "", "", false)
def tyJ10 : Nat → FieldType := fun k => match k with
  | _ => .int
abbrev wsJ100 : List Cond := u_ws RJ10 TJ10 0
theorem nmJ10 : ∀ a, a < 0 → ∀ b, b < 0 → a ≠ b → (TJ10 a).2.1 ≠ (TJ10 b).2.1 := by decide +kernel
theorem tyJ10_ok : ∀ k, k < 0 → parseFieldDescriptor (TJ10 k).2.2.1 = some (tyJ10 k) := by decide +kernel
def RJ7 : String := "java/util/Arrays"
def TJ7 : u_T := fun k => match k with
  | _ => ("", "", "", false)
def tyJ7 : Nat → FieldType := fun k => match k with
  | _ => .int
abbrev wsJ70 : List Cond := u_ws RJ7 TJ7 0
theorem nmJ7 : ∀ a, a < 0 → ∀ b, b < 0 → a ≠ b → (TJ7 a).2.1 ≠ (TJ7 b).2.1 := by decide +kernel
theorem tyJ7_ok : ∀ k, k < 0 → parseFieldDescriptor (TJ7 k).2.2.1 = some (tyJ7 k) := by decide +kernel
abbrev cJ7_fill_53178 : ByteArray := prog_18_method_103_code
def yJ7_fill_53178 : MethodName := ⟨RJ7, "fill", "([II)V"⟩
def RL : String := "WeddingReasonsLaw"
abbrev cL_law : ByteArray := code
def yL_law : MethodName := ⟨RL, "law", "([I)Z"⟩
abbrev vwCl : List vw_C := [(RX0, TX0, 3), (RX1, TX1, 1), (RX2, TX2, 1), (RX3, TX3, 3), (RX4, TX4, 2), (RX5, TX5, 1), (RX6, TX6, 3), (RX7, TX7, 6), (RX8, TX8, 1), (RX9, TX9, 2), (RX11, TX11, 10), (RX12, TX12, 24)]
def qT : List Cond := lw_tbl.filter goodWord
theorem qin {w : Cond} (i : Nat) (h : lw_tbl[i]? = some w) (g : goodWord w = true) : w ∈ qT := List.mem_filter.mpr ⟨List.mem_of_getElem? h, g⟩
theorem qinT {w : Cond} (i : Nat) (h : lw_tbl[i]? = some w) : w ∈ lw_tbl := List.mem_of_getElem? h
abbrev qY : Type := MethodName × ByteArray × Nat × Option FieldType
/-- what a call needs of an instance method, of a static one, of a constructor -/
def qOKc (Y : qY) (n : Nat) : Prop := Cond.code Y.1 Y.2.1 Y.2.2.1 Y.2.2.2 ∈ qT ∧ Cond.initialized Y.1.cls ∈ qT ∧ (Y.1.cls ≠ "java/lang/invoke/MethodHandle" ∧ Y.1.cls ≠ "java/lang/invoke/VarHandle" ∧ (parseMethodDescriptor Y.1.desc).map (fun d => d.parameters.length) = some n) ∧ plainName Y.1.cls = true ∧ Y.2.2.1 ≤ 20
def qOKv (Y : qY) (n : Nat) : Prop := qOKc Y n ∧ Cond.instanceMethod Y.1 ∈ qT ∧ Cond.selects Y.1.cls Y.1 Y.1 ∈ qT
def qOKs (Y : qY) (n : Nat) : Prop := qOKc Y n ∧ Cond.static Y.1 ∈ qT
def qOKi (Y : qY) (n : Nat) : Prop := qOKc Y n ∧ Y.1.name = "<init>" ∧ Y.2.2.2 = none ∧ Cond.instanceMethod Y.1 ∈ qT
abbrev YX0_init : qY := (yX0_init, cX0_init, 1, none)
abbrev YX0_clear : qY := (yX0_clear, cX0_clear, 1, none)
abbrev YX0_isFull : qY := (yX0_isFull, cX0_isFull, 1, (some .boolean))
abbrev YX0_add : qY := (yX0_add, cX0_add, 3, (some .int))
abbrev YX0_firstWrong : qY := (yX0_firstWrong, cX0_firstWrong, 3, (some .int))
abbrev YX1_init : qY := (yX1_init, cX1_init, 1, none)
abbrev YX1_few : qY := (yX1_few, cX1_few, 5, (some .int))
abbrev YX1_weddable : qY := (yX1_weddable, cX1_weddable, 4, (some .boolean))
abbrev YX2_init : qY := (yX2_init, cX2_init, 1, none)
abbrev YX2_draw : qY := (yX2_draw, cX2_draw, 2, (some .int))
abbrev YX2_stir : qY := (yX2_stir, cX2_stir, 6, none)
abbrev YX2_oddsOfDry : qY := (yX2_oddsOfDry, cX2_oddsOfDry, 5, (some .int))
abbrev YX3_init : qY := (yX3_init, cX3_init, 1, none)
abbrev YX3_store : qY := (yX3_store, cX3_store, 4, none)
abbrev YX3_isKept : qY := (yX3_isKept, cX3_isKept, 2, (some .boolean))
abbrev YX3_fetch : qY := (yX3_fetch, cX3_fetch, 3, (some .int))
abbrev YX3_forget : qY := (yX3_forget, cX3_forget, 1, none)
abbrev YX4_init : qY := (yX4_init, cX4_init, 1, none)
abbrev YX4_weigh : qY := (yX4_weigh, cX4_weigh, 4, none)
abbrev YX4_weighPairs : qY := (yX4_weighPairs, cX4_weighPairs, 5, none)
abbrev YX4_bestFrom : qY := (yX4_bestFrom, cX4_bestFrom, 6, (some .int))
abbrev YX4_isFree : qY := (yX4_isFree, cX4_isFree, 4, (some .boolean))
abbrev YX4_valueOf : qY := (yX4_valueOf, cX4_valueOf, 4, (some .int))
abbrev YX4_howMany : qY := (yX4_howMany, cX4_howMany, 1, (some .int))
abbrev YX4_together : qY := (yX4_together, cX4_together, 1, (some .int))
abbrev YX4_objectorFor : qY := (yX4_objectorFor, cX4_objectorFor, 6, (some .int))
abbrev YX4_firstChoice : qY := (yX4_firstChoice, cX4_firstChoice, 5, (some .int))
abbrev YX5_init : qY := (yX5_init, cX5_init, 1, none)
abbrev YX5_clear : qY := (yX5_clear, cX5_clear, 1, none)
abbrev YX5_copyFrom : qY := (yX5_copyFrom, cX5_copyFrom, 3, none)
abbrev YX5_copyTo : qY := (yX5_copyTo, cX5_copyTo, 3, none)
abbrev YX5_least : qY := (yX5_least, cX5_least, 1, (some .int))
abbrev YX5_setLeast : qY := (yX5_setLeast, cX5_setLeast, 2, none)
abbrev YX5_couples : qY := (yX5_couples, cX5_couples, 1, (some .int))
abbrev YX5_objectors : qY := (yX5_objectors, cX5_objectors, 1, (some .int))
abbrev YX5_years : qY := (yX5_years, cX5_years, 1, (some .int))
abbrev YX5_stood : qY := (yX5_stood, cX5_stood, 1, (some .int))
abbrev YX5_boxed : qY := (yX5_boxed, cX5_boxed, 1, (some .int))
abbrev YX5_hasCouple : qY := (yX5_hasCouple, cX5_hasCouple, 2, (some .boolean))
abbrev YX5_hasObjector : qY := (yX5_hasObjector, cX5_hasObjector, 2, (some .boolean))
abbrev YX5_answer : qY := (yX5_answer, cX5_answer, 2, (some .int))
abbrev YX5_setAnswer : qY := (yX5_setAnswer, cX5_setAnswer, 3, none)
abbrev YX5_fate : qY := (yX5_fate, cX5_fate, 2, (some .int))
abbrev YX5_waits : qY := (yX5_waits, cX5_waits, 2, (some .boolean))
abbrev YX5_strong : qY := (yX5_strong, cX5_strong, 2, (some .int))
abbrev YX5_weight : qY := (yX5_weight, cX5_weight, 3, (some .int))
abbrev YX5_setWeight : qY := (yX5_setWeight, cX5_setWeight, 4, none)
abbrev YX5_kind : qY := (yX5_kind, cX5_kind, 2, (some .int))
abbrev YX5_skill : qY := (yX5_skill, cX5_skill, 2, (some .int))
abbrev YX5_setSkill : qY := (yX5_setSkill, cX5_setSkill, 3, none)
abbrev YX5_known : qY := (yX5_known, cX5_known, 2, (some .int))
abbrev YX5_setKnown : qY := (yX5_setKnown, cX5_setKnown, 3, none)
abbrev YX5_hasStood : qY := (yX5_hasStood, cX5_hasStood, 2, (some .boolean))
abbrev YX5_fromBox : qY := (yX5_fromBox, cX5_fromBox, 3, (some .int))
abbrev YX5_addCouple : qY := (yX5_addCouple, cX5_addCouple, 1, none)
abbrev YX5_addObjector : qY := (yX5_addObjector, cX5_addObjector, 5, none)
abbrev YX5_couplesThat : qY := (yX5_couplesThat, cX5_couplesThat, 4, (some .int))
abbrev YX5_reasonOf : qY := (yX5_reasonOf, cX5_reasonOf, 6, (some .int))
abbrev YX5_strengthIn : qY := (yX5_strengthIn, cX5_strengthIn, 7, (some .int))
abbrev YX5_objects : qY := (yX5_objects, cX5_objects, 3, (some .boolean))
abbrev YX5_wedIn : qY := (yX5_wedIn, cX5_wedIn, 6, (some .boolean))
abbrev YX5_mayStand : qY := (yX5_mayStand, cX5_mayStand, 3, (some .boolean))
abbrev YX5_standUp : qY := (yX5_standUp, cX5_standUp, 4, none)
abbrev YX5_putIntoBox : qY := (yX5_putIntoBox, cX5_putIntoBox, 5, none)
abbrev YX5_passYear : qY := (yX5_passYear, cX5_passYear, 2, none)
abbrev YX6_init : qY := (yX6_init, cX6_init, 1, none)
abbrev YX6_remember : qY := (yX6_remember, cX6_remember, 2, none)
abbrev YX6_restore : qY := (yX6_restore, cX6_restore, 2, none)
abbrev YX6_forget : qY := (yX6_forget, cX6_forget, 1, none)
abbrev YX7_init : qY := (yX7_init, cX7_init, 1, none)
abbrev YX7_isFull : qY := (yX7_isFull, cX7_isFull, 1, (some .boolean))
abbrev YX7_put : qY := (yX7_put, cX7_put, 2, (some .int))
abbrev YX7_readText : qY := (yX7_readText, cX7_readText, 2, (some .int))
abbrev YX7_readClause : qY := (yX7_readClause, cX7_readClause, 3, none)
abbrev YX7_faultOfWord : qY := (yX7_faultOfWord, cX7_faultOfWord, 3, (some .int))
abbrev YX7_faultOfMore : qY := (yX7_faultOfMore, cX7_faultOfMore, 2, (some .int))
abbrev YX7_readLeast : qY := (yX7_readLeast, cX7_readLeast, 2, none)
abbrev YX7_readCouple : qY := (yX7_readCouple, cX7_readCouple, 3, none)
abbrev YX7_readObjector : qY := (yX7_readObjector, cX7_readObjector, 4, none)
abbrev YX7_number : qY := (yX7_number, cX7_number, 5, (some .int))
abbrev YX7_expect : qY := (yX7_expect, cX7_expect, 2, none)
abbrev YX7_skipBlanks : qY := (yX7_skipBlanks, cX7_skipBlanks, 1, none)
abbrev YX7_isFigure : qY := (yX7_isFigure, cX7_isFigure, 1, (some .boolean))
abbrev YX7_fail : qY := (yX7_fail, cX7_fail, 3, none)
abbrev YX8_init : qY := (yX8_init, cX8_init, 1, none)
abbrev YX8_weigh : qY := (yX8_weigh, cX8_weigh, 5, none)
abbrev YX8_bestOf : qY := (yX8_bestOf, cX8_bestOf, 7, (some .int))
abbrev YX8_valueOf : qY := (yX8_valueOf, cX8_valueOf, 7, (some .int))
abbrev YX8_howMany : qY := (yX8_howMany, cX8_howMany, 2, (some .int))
abbrev YX8_figures : qY := (yX8_figures, cX8_figures, 8, (some .int))
abbrev YX8_firstChoice : qY := (yX8_firstChoice, cX8_firstChoice, 6, (some .int))
abbrev YX9_init : qY := (yX9_init, cX9_init, 1, none)
abbrev YX9_clear : qY := (yX9_clear, cX9_clear, 1, none)
abbrev YX9_isFull : qY := (yX9_isFull, cX9_isFull, 1, (some .boolean))
abbrev YX9_add : qY := (yX9_add, cX9_add, 4, (some .int))
abbrev YX9_fits : qY := (yX9_fits, cX9_fits, 3, (some .boolean))
abbrev YX9_howManyFit : qY := (yX9_howManyFit, cX9_howManyFit, 3, (some .int))
abbrev YX9_leastThatFits : qY := (yX9_leastThatFits, cX9_leastThatFits, 2, (some .int))
abbrev YX9_greatestThatFits : qY := (yX9_greatestThatFits, cX9_greatestThatFits, 2, (some .int))
abbrev YX9_bestKind : qY := (yX9_bestKind, cX9_bestKind, 5, (some .int))
abbrev YX9_greatestPart : qY := (yX9_greatestPart, cX9_greatestPart, 4, (some .int))
abbrev YX9_partOf : qY := (yX9_partOf, cX9_partOf, 6, (some .int))
abbrev YX10_can : qY := (yX10_can, cX10_can, 4, (some .int))
abbrev YX10_firstYear : qY := (yX10_firstYear, cX10_firstYear, 4, (some .int))
abbrev YX10_safeAnswer : qY := (yX10_safeAnswer, cX10_safeAnswer, 5, (some .int))
abbrev YX10_plain : qY := (yX10_plain, cX10_plain, 4, (some .int))
abbrev YX10_firmest : qY := (yX10_firmest, cX10_firmest, 3, (some .int))
abbrev YX10_weakest : qY := (yX10_weakest, cX10_weakest, 4, (some .int))
abbrev YX11_init : qY := (yX11_init, cX11_init, 1, none)
abbrev YX11_feed : qY := (yX11_feed, cX11_feed, 2, (some .int))
abbrev YX11_deanery : qY := (yX11_deanery, cX11_deanery, 2, (some .int))
abbrev YX11_fault : qY := (yX11_fault, cX11_fault, 1, (some .int))
abbrev YX11_told : qY := (yX11_told, cX11_told, 2, (some .int))
abbrev YX11_couple : qY := (yX11_couple, cX11_couple, 3, (some .int))
abbrev YX11_objector : qY := (yX11_objector, cX11_objector, 3, (some .int))
abbrev YX11_box : qY := (yX11_box, cX11_box, 3, (some .int))
abbrev YX11_against : qY := (yX11_against, cX11_against, 4, (some .int))
abbrev YX11_stand : qY := (yX11_stand, cX11_stand, 3, (some .int))
abbrev YX11_year : qY := (yX11_year, cX11_year, 4, (some .int))
abbrev YX11_teach : qY := (yX11_teach, cX11_teach, 4, (some .int))
abbrev YX11_hear : qY := (yX11_hear, cX11_hear, 5, (some .int))
abbrev YX11_practise : qY := (yX11_practise, cX11_practise, 4, (some .int))
abbrev YX11_sour : qY := (yX11_sour, cX11_sour, 4, (some .int))
abbrev YX11_drift : qY := (yX11_drift, cX11_drift, 4, (some .int))
abbrev YX11_undo : qY := (yX11_undo, cX11_undo, 1, (some .int))
abbrev YX11_soonest : qY := (yX11_soonest, cX11_soonest, 3, (some .int))
abbrev YX11_match : qY := (yX11_match, cX11_match, 2, (some .int))
abbrev YX11_rounds : qY := (yX11_rounds, cX11_rounds, 4, (some .int))
abbrev YX11_holds : qY := (yX11_holds, cX11_holds, 3, (some .int))
abbrev YX11_dry : qY := (yX11_dry, cX11_dry, 3, (some .int))
abbrev YX11_say : qY := (yX11_say, cX11_say, 4, (some .int))
abbrev YX11_weights : qY := (yX11_weights, cX11_weights, 2, (some .int))
abbrev YX11_ask : qY := (yX11_ask, cX11_ask, 1, (some .int))
abbrev YX11_write : qY := (yX11_write, cX11_write, 3, (some .int))
abbrev YX11_tear : qY := (yX11_tear, cX11_tear, 2, (some .int))
abbrev YX11_judge : qY := (yX11_judge, cX11_judge, 1, (some .int))
abbrev YX11_seed : qY := (yX11_seed, cX11_seed, 3, (some .int))
abbrev YX11_keep : qY := (yX11_keep, cX11_keep, 2, (some .int))
abbrev YX11_goBack : qY := (yX11_goBack, cX11_goBack, 2, (some .int))
abbrev YX11_refusalOfYears : qY := (yX11_refusalOfYears, cX11_refusalOfYears, 2, (some .int))
abbrev YX11_isOutside : qY := (yX11_isOutside, cX11_isOutside, 3, (some .boolean))
abbrev YX11_isSetOf : qY := (yX11_isSetOf, cX11_isSetOf, 2, (some .boolean))
abbrev YX11_strengthBy : qY := (yX11_strengthBy, cX11_strengthBy, 3, (some .int))
abbrev YX12_init : qY := (yX12_init, cX12_init, 1, none)
abbrev YX12_in : qY := (yX12_in, cX12_in, 6, (some .boolean))
abbrev YX12_has : qY := (yX12_has, cX12_has, 2, (some .boolean))
abbrev YX12_bits : qY := (yX12_bits, cX12_bits, 3, (some .int))
abbrev YX12_lesser : qY := (yX12_lesser, cX12_lesser, 2, (some .int))
abbrev YX12_greater : qY := (yX12_greater, cX12_greater, 2, (some .int))
abbrev YX12_copies : qY := (yX12_copies, cX12_copies, 6, none)
abbrev YX12_begins : qY := (yX12_begins, cX12_begins, 2, none)
abbrev YX12_feed : qY := (yX12_feed, cX12_feed, 2, (some .int))
abbrev YX12_here : qY := (yX12_here, cX12_here, 1, (some .int))
abbrev YX12_step : qY := (yX12_step, cX12_step, 1, none)
abbrev YX12_fails : qY := (yX12_fails, cX12_fails, 2, (some .boolean))
abbrev YX12_number : qY := (yX12_number, cX12_number, 4, (some .boolean))
abbrev YX12_ends : qY := (yX12_ends, cX12_ends, 1, (some .boolean))
abbrev YX12_readsCouple : qY := (yX12_readsCouple, cX12_readsCouple, 3, (some .boolean))
abbrev YX12_readsObjector : qY := (yX12_readsObjector, cX12_readsObjector, 2, (some .boolean))
abbrev YX12_readsClause : qY := (yX12_readsClause, cX12_readsClause, 1, (some .boolean))
abbrev YX12_deanery : qY := (yX12_deanery, cX12_deanery, 2, (some .int))
abbrev YX12_fault : qY := (yX12_fault, cX12_fault, 1, (some .int))
abbrev YX12_isCouple : qY := (yX12_isCouple, cX12_isCouple, 2, (some .boolean))
abbrev YX12_isObjector : qY := (yX12_isObjector, cX12_isObjector, 2, (some .boolean))
abbrev YX12_reasonOn : qY := (yX12_reasonOn, cX12_reasonOn, 7, (some .int))
abbrev YX12_strengthBy : qY := (yX12_strengthBy, cX12_strengthBy, 3, (some .int))
abbrev YX12_strengthOn : qY := (yX12_strengthOn, cX12_strengthOn, 5, (some .int))
abbrev YX12_counts : qY := (yX12_counts, cX12_counts, 4, (some .boolean))
abbrev YX12_weds : qY := (yX12_weds, cX12_weds, 4, (some .boolean))
abbrev YX12_those : qY := (yX12_those, cX12_those, 4, (some .int))
abbrev YX12_can : qY := (yX12_can, cX12_can, 4, (some .int))
abbrev YX12_plain : qY := (yX12_plain, cX12_plain, 4, (some .int))
abbrev YX12_firmest : qY := (yX12_firmest, cX12_firmest, 4, (some .int))
abbrev YX12_weakest : qY := (yX12_weakest, cX12_weakest, 4, (some .int))
abbrev YX12_few : qY := (yX12_few, cX12_few, 5, (some .int))
abbrev YX12_told : qY := (yX12_told, cX12_told, 2, (some .int))
abbrev YX12_couple : qY := (yX12_couple, cX12_couple, 3, (some .int))
abbrev YX12_objector : qY := (yX12_objector, cX12_objector, 3, (some .int))
abbrev YX12_box : qY := (yX12_box, cX12_box, 3, (some .int))
abbrev YX12_against : qY := (yX12_against, cX12_against, 4, (some .int))
abbrev YX12_remember : qY := (yX12_remember, cX12_remember, 2, none)
abbrev YX12_boxes : qY := (yX12_boxes, cX12_boxes, 5, none)
abbrev YX12_mayStand : qY := (yX12_mayStand, cX12_mayStand, 3, (some .boolean))
abbrev YX12_stands : qY := (yX12_stands, cX12_stands, 5, (some .boolean))
abbrev YX12_stand : qY := (yX12_stand, cX12_stand, 3, (some .int))
abbrev YX12_yearGoes : qY := (yX12_yearGoes, cX12_yearGoes, 3, none)
abbrev YX12_refuses : qY := (yX12_refuses, cX12_refuses, 2, (some .int))
abbrev YX12_year : qY := (yX12_year, cX12_year, 4, (some .int))
abbrev YX12_teach : qY := (yX12_teach, cX12_teach, 4, (some .int))
abbrev YX12_hear : qY := (yX12_hear, cX12_hear, 5, (some .int))
abbrev YX12_practise : qY := (yX12_practise, cX12_practise, 4, (some .int))
abbrev YX12_sour : qY := (yX12_sour, cX12_sour, 4, (some .int))
abbrev YX12_draw : qY := (yX12_draw, cX12_draw, 2, (some .int))
abbrev YX12_draws : qY := (yX12_draws, cX12_draws, 5, none)
abbrev YX12_drift : qY := (yX12_drift, cX12_drift, 4, (some .int))
abbrev YX12_undo : qY := (yX12_undo, cX12_undo, 1, (some .int))
abbrev YX12_layAside : qY := (yX12_layAside, cX12_layAside, 1, none)
abbrev YX12_soonest : qY := (yX12_soonest, cX12_soonest, 4, (some .int))
abbrev YX12_weighsMatches : qY := (yX12_weighsMatches, cX12_weighsMatches, 7, none)
abbrev YX12_matched : qY := (yX12_matched, cX12_matched, 8, (some .int))
abbrev YX12_match : qY := (yX12_match, cX12_match, 2, (some .int))
abbrev YX12_nextOrder : qY := (yX12_nextOrder, cX12_nextOrder, 7, (some .boolean))
abbrev YX12_rounds : qY := (yX12_rounds, cX12_rounds, 11, (some .int))
abbrev YX12_holds : qY := (yX12_holds, cX12_holds, 5, (some .int))
abbrev YX12_dry : qY := (yX12_dry, cX12_dry, 6, (some .int))
abbrev YX12_say : qY := (yX12_say, cX12_say, 4, (some .int))
abbrev YX12_isSo : qY := (yX12_isSo, cX12_isSo, 4, (some .boolean))
abbrev YX12_weights : qY := (yX12_weights, cX12_weights, 6, (some .int))
abbrev YX12_ask : qY := (yX12_ask, cX12_ask, 8, (some .int))
abbrev YX12_write : qY := (yX12_write, cX12_write, 3, (some .int))
abbrev YX12_tear : qY := (yX12_tear, cX12_tear, 2, (some .int))
abbrev YX12_judge : qY := (yX12_judge, cX12_judge, 2, (some .int))
abbrev YX12_seed : qY := (yX12_seed, cX12_seed, 3, (some .int))
abbrev YX12_keep : qY := (yX12_keep, cX12_keep, 2, (some .int))
abbrev YX12_goBack : qY := (yX12_goBack, cX12_goBack, 2, (some .int))
abbrev YJ6_bitCount_0f7a4 : qY := (yJ6_bitCount_0f7a4, cJ6_bitCount_0f7a4, 1, (some .int))
abbrev YJ9_max_7cf53 : qY := (yJ9_max_7cf53, cJ9_max_7cf53, 2, (some .int))
abbrev YJ9_min_7cf53 : qY := (yJ9_min_7cf53, cJ9_min_7cf53, 2, (some .int))
abbrev YJ7_fill_53178 : qY := (yJ7_fill_53178, cJ7_fill_53178, 4, none)
abbrev YL_law : qY := (yL_law, cL_law, 4, (some .boolean))
theorem okX0_init : qOKi YX0_init 0 := ⟨⟨qin 221 (by decide +kernel) rfl, qin 69 (by decide +kernel) rfl, ⟨by decide +kernel, by decide +kernel, by decide +kernel⟩, by decide +kernel, by decide⟩, rfl, rfl, qin 220 (by decide +kernel) rfl⟩
theorem okX0_clear : qOKv YX0_clear 0 := ⟨⟨qin 393 (by decide +kernel) rfl, qin 69 (by decide +kernel) rfl, ⟨by decide +kernel, by decide +kernel, by decide +kernel⟩, by decide +kernel, by decide⟩, qin 391 (by decide +kernel) rfl, qin 392 (by decide +kernel) rfl⟩
theorem okX0_isFull : qOKv YX0_isFull 0 := ⟨⟨qin 825 (by decide +kernel) rfl, qin 69 (by decide +kernel) rfl, ⟨by decide +kernel, by decide +kernel, by decide +kernel⟩, by decide +kernel, by decide⟩, qin 823 (by decide +kernel) rfl, qin 824 (by decide +kernel) rfl⟩
theorem okX0_add : qOKv YX0_add 2 := ⟨⟨qin 829 (by decide +kernel) rfl, qin 69 (by decide +kernel) rfl, ⟨by decide +kernel, by decide +kernel, by decide +kernel⟩, by decide +kernel, by decide⟩, qin 827 (by decide +kernel) rfl, qin 828 (by decide +kernel) rfl⟩
theorem okX0_firstWrong : qOKv YX0_firstWrong 1 := ⟨⟨qin 841 (by decide +kernel) rfl, qin 69 (by decide +kernel) rfl, ⟨by decide +kernel, by decide +kernel, by decide +kernel⟩, by decide +kernel, by decide⟩, qin 839 (by decide +kernel) rfl, qin 840 (by decide +kernel) rfl⟩
theorem okX1_init : qOKi YX1_init 0 := ⟨⟨qin 197 (by decide +kernel) rfl, qin 67 (by decide +kernel) rfl, ⟨by decide +kernel, by decide +kernel, by decide +kernel⟩, by decide +kernel, by decide⟩, rfl, rfl, qin 196 (by decide +kernel) rfl⟩
theorem okX1_few : qOKv YX1_few 1 := ⟨⟨qin 488 (by decide +kernel) rfl, qin 67 (by decide +kernel) rfl, ⟨by decide +kernel, by decide +kernel, by decide +kernel⟩, by decide +kernel, by decide⟩, qin 486 (by decide +kernel) rfl, qin 487 (by decide +kernel) rfl⟩
theorem okX1_weddable : qOKv YX1_weddable 2 := ⟨⟨qin 512 (by decide +kernel) rfl, qin 67 (by decide +kernel) rfl, ⟨by decide +kernel, by decide +kernel, by decide +kernel⟩, by decide +kernel, by decide⟩, qin 511 (by decide +kernel) rfl, qin 9 (by decide +kernel) rfl⟩
theorem okX2_init : qOKi YX2_init 0 := ⟨⟨qin 163 (by decide +kernel) rfl, qin 64 (by decide +kernel) rfl, ⟨by decide +kernel, by decide +kernel, by decide +kernel⟩, by decide +kernel, by decide⟩, rfl, rfl, qin 162 (by decide +kernel) rfl⟩
theorem okX2_draw : qOKv YX2_draw 1 := ⟨⟨qin 645 (by decide +kernel) rfl, qin 64 (by decide +kernel) rfl, ⟨by decide +kernel, by decide +kernel, by decide +kernel⟩, by decide +kernel, by decide⟩, qin 644 (by decide +kernel) rfl, qin 12 (by decide +kernel) rfl⟩
theorem okX2_stir : qOKv YX2_stir 1 := ⟨⟨qin 639 (by decide +kernel) rfl, qin 64 (by decide +kernel) rfl, ⟨by decide +kernel, by decide +kernel, by decide +kernel⟩, by decide +kernel, by decide⟩, qin 637 (by decide +kernel) rfl, qin 638 (by decide +kernel) rfl⟩
theorem okX2_oddsOfDry : qOKs YX2_oddsOfDry 2 := ⟨⟨qin 764 (by decide +kernel) rfl, qin 64 (by decide +kernel) rfl, ⟨by decide +kernel, by decide +kernel, by decide +kernel⟩, by decide +kernel, by decide⟩, qin 763 (by decide +kernel) rfl⟩
theorem okX3_init : qOKi YX3_init 0 := ⟨⟨qin 147 (by decide +kernel) rfl, qin 63 (by decide +kernel) rfl, ⟨by decide +kernel, by decide +kernel, by decide +kernel⟩, by decide +kernel, by decide⟩, rfl, rfl, qin 146 (by decide +kernel) rfl⟩
theorem okX3_store : qOKv YX3_store 3 := ⟨⟨qin 854 (by decide +kernel) rfl, qin 63 (by decide +kernel) rfl, ⟨by decide +kernel, by decide +kernel, by decide +kernel⟩, by decide +kernel, by decide⟩, qin 852 (by decide +kernel) rfl, qin 853 (by decide +kernel) rfl⟩
theorem okX3_isKept : qOKv YX3_isKept 1 := ⟨⟨qin 863 (by decide +kernel) rfl, qin 63 (by decide +kernel) rfl, ⟨by decide +kernel, by decide +kernel, by decide +kernel⟩, by decide +kernel, by decide⟩, qin 861 (by decide +kernel) rfl, qin 862 (by decide +kernel) rfl⟩
theorem okX3_fetch : qOKv YX3_fetch 2 := ⟨⟨qin 867 (by decide +kernel) rfl, qin 63 (by decide +kernel) rfl, ⟨by decide +kernel, by decide +kernel, by decide +kernel⟩, by decide +kernel, by decide⟩, qin 865 (by decide +kernel) rfl, qin 866 (by decide +kernel) rfl⟩
theorem okX3_forget : qOKv YX3_forget 0 := ⟨⟨qin 385 (by decide +kernel) rfl, qin 63 (by decide +kernel) rfl, ⟨by decide +kernel, by decide +kernel, by decide +kernel⟩, by decide +kernel, by decide⟩, qin 383 (by decide +kernel) rfl, qin 384 (by decide +kernel) rfl⟩
theorem okX4_init : qOKi YX4_init 0 := ⟨⟨qin 174 (by decide +kernel) rfl, qin 65 (by decide +kernel) rfl, ⟨by decide +kernel, by decide +kernel, by decide +kernel⟩, by decide +kernel, by decide⟩, rfl, rfl, qin 173 (by decide +kernel) rfl⟩
theorem okX4_weigh : qOKv YX4_weigh 1 := ⟨⟨qin 678 (by decide +kernel) rfl, qin 65 (by decide +kernel) rfl, ⟨by decide +kernel, by decide +kernel, by decide +kernel⟩, by decide +kernel, by decide⟩, qin 676 (by decide +kernel) rfl, qin 677 (by decide +kernel) rfl⟩
theorem okX4_weighPairs : qOKv YX4_weighPairs 1 := ⟨⟨qin 682 (by decide +kernel) rfl, qin 65 (by decide +kernel) rfl, ⟨by decide +kernel, by decide +kernel, by decide +kernel⟩, by decide +kernel, by decide⟩, qin 681 (by decide +kernel) rfl, qin 13 (by decide +kernel) rfl⟩
theorem okX4_bestFrom : qOKv YX4_bestFrom 3 := ⟨⟨qin 691 (by decide +kernel) rfl, qin 65 (by decide +kernel) rfl, ⟨by decide +kernel, by decide +kernel, by decide +kernel⟩, by decide +kernel, by decide⟩, qin 690 (by decide +kernel) rfl, qin 14 (by decide +kernel) rfl⟩
theorem okX4_isFree : qOKv YX4_isFree 3 := ⟨⟨qin 695 (by decide +kernel) rfl, qin 65 (by decide +kernel) rfl, ⟨by decide +kernel, by decide +kernel, by decide +kernel⟩, by decide +kernel, by decide⟩, qin 694 (by decide +kernel) rfl, qin 15 (by decide +kernel) rfl⟩
theorem okX4_valueOf : qOKv YX4_valueOf 3 := ⟨⟨qin 699 (by decide +kernel) rfl, qin 65 (by decide +kernel) rfl, ⟨by decide +kernel, by decide +kernel, by decide +kernel⟩, by decide +kernel, by decide⟩, qin 698 (by decide +kernel) rfl, qin 16 (by decide +kernel) rfl⟩
theorem okX4_howMany : qOKv YX4_howMany 0 := ⟨⟨qin 704 (by decide +kernel) rfl, qin 65 (by decide +kernel) rfl, ⟨by decide +kernel, by decide +kernel, by decide +kernel⟩, by decide +kernel, by decide⟩, qin 702 (by decide +kernel) rfl, qin 703 (by decide +kernel) rfl⟩
theorem okX4_together : qOKv YX4_together 0 := ⟨⟨qin 708 (by decide +kernel) rfl, qin 65 (by decide +kernel) rfl, ⟨by decide +kernel, by decide +kernel, by decide +kernel⟩, by decide +kernel, by decide⟩, qin 706 (by decide +kernel) rfl, qin 707 (by decide +kernel) rfl⟩
theorem okX4_objectorFor : qOKv YX4_objectorFor 2 := ⟨⟨qin 712 (by decide +kernel) rfl, qin 65 (by decide +kernel) rfl, ⟨by decide +kernel, by decide +kernel, by decide +kernel⟩, by decide +kernel, by decide⟩, qin 710 (by decide +kernel) rfl, qin 711 (by decide +kernel) rfl⟩
theorem okX4_firstChoice : qOKv YX4_firstChoice 3 := ⟨⟨qin 716 (by decide +kernel) rfl, qin 65 (by decide +kernel) rfl, ⟨by decide +kernel, by decide +kernel, by decide +kernel⟩, by decide +kernel, by decide⟩, qin 715 (by decide +kernel) rfl, qin 17 (by decide +kernel) rfl⟩
theorem okX5_init : qOKi YX5_init 0 := ⟨⟨qin 88 (by decide +kernel) rfl, qin 60 (by decide +kernel) rfl, ⟨by decide +kernel, by decide +kernel, by decide +kernel⟩, by decide +kernel, by decide⟩, rfl, rfl, qin 87 (by decide +kernel) rfl⟩
theorem okX5_clear : qOKv YX5_clear 0 := ⟨⟨qin 293 (by decide +kernel) rfl, qin 60 (by decide +kernel) rfl, ⟨by decide +kernel, by decide +kernel, by decide +kernel⟩, by decide +kernel, by decide⟩, qin 291 (by decide +kernel) rfl, qin 292 (by decide +kernel) rfl⟩
theorem okX5_copyFrom : qOKv YX5_copyFrom 2 := ⟨⟨qin 374 (by decide +kernel) rfl, qin 60 (by decide +kernel) rfl, ⟨by decide +kernel, by decide +kernel, by decide +kernel⟩, by decide +kernel, by decide⟩, qin 372 (by decide +kernel) rfl, qin 373 (by decide +kernel) rfl⟩
theorem okX5_copyTo : qOKv YX5_copyTo 2 := ⟨⟨qin 578 (by decide +kernel) rfl, qin 60 (by decide +kernel) rfl, ⟨by decide +kernel, by decide +kernel, by decide +kernel⟩, by decide +kernel, by decide⟩, qin 576 (by decide +kernel) rfl, qin 577 (by decide +kernel) rfl⟩
theorem okX5_least : qOKv YX5_least 0 := ⟨⟨qin 312 (by decide +kernel) rfl, qin 60 (by decide +kernel) rfl, ⟨by decide +kernel, by decide +kernel, by decide +kernel⟩, by decide +kernel, by decide⟩, qin 310 (by decide +kernel) rfl, qin 311 (by decide +kernel) rfl⟩
theorem okX5_setLeast : qOKv YX5_setLeast 1 := ⟨⟨qin 346 (by decide +kernel) rfl, qin 60 (by decide +kernel) rfl, ⟨by decide +kernel, by decide +kernel, by decide +kernel⟩, by decide +kernel, by decide⟩, qin 344 (by decide +kernel) rfl, qin 345 (by decide +kernel) rfl⟩
theorem okX5_couples : qOKv YX5_couples 0 := ⟨⟨qin 316 (by decide +kernel) rfl, qin 60 (by decide +kernel) rfl, ⟨by decide +kernel, by decide +kernel, by decide +kernel⟩, by decide +kernel, by decide⟩, qin 314 (by decide +kernel) rfl, qin 315 (by decide +kernel) rfl⟩
theorem okX5_objectors : qOKv YX5_objectors 0 := ⟨⟨qin 323 (by decide +kernel) rfl, qin 60 (by decide +kernel) rfl, ⟨by decide +kernel, by decide +kernel, by decide +kernel⟩, by decide +kernel, by decide⟩, qin 321 (by decide +kernel) rfl, qin 322 (by decide +kernel) rfl⟩
theorem okX5_years : qOKv YX5_years 0 := ⟨⟨qin 408 (by decide +kernel) rfl, qin 60 (by decide +kernel) rfl, ⟨by decide +kernel, by decide +kernel, by decide +kernel⟩, by decide +kernel, by decide⟩, qin 406 (by decide +kernel) rfl, qin 407 (by decide +kernel) rfl⟩
theorem okX5_stood : qOKv YX5_stood 0 := ⟨⟨qin 421 (by decide +kernel) rfl, qin 60 (by decide +kernel) rfl, ⟨by decide +kernel, by decide +kernel, by decide +kernel⟩, by decide +kernel, by decide⟩, qin 419 (by decide +kernel) rfl, qin 420 (by decide +kernel) rfl⟩
theorem okX5_boxed : qOKv YX5_boxed 0 := ⟨⟨qin 425 (by decide +kernel) rfl, qin 60 (by decide +kernel) rfl, ⟨by decide +kernel, by decide +kernel, by decide +kernel⟩, by decide +kernel, by decide⟩, qin 423 (by decide +kernel) rfl, qin 424 (by decide +kernel) rfl⟩
theorem okX5_hasCouple : qOKv YX5_hasCouple 1 := ⟨⟨qin 521 (by decide +kernel) rfl, qin 60 (by decide +kernel) rfl, ⟨by decide +kernel, by decide +kernel, by decide +kernel⟩, by decide +kernel, by decide⟩, qin 519 (by decide +kernel) rfl, qin 520 (by decide +kernel) rfl⟩
theorem okX5_hasObjector : qOKv YX5_hasObjector 1 := ⟨⟨qin 538 (by decide +kernel) rfl, qin 60 (by decide +kernel) rfl, ⟨by decide +kernel, by decide +kernel, by decide +kernel⟩, by decide +kernel, by decide⟩, qin 536 (by decide +kernel) rfl, qin 537 (by decide +kernel) rfl⟩
theorem okX5_answer : qOKv YX5_answer 1 := ⟨⟨qin 500 (by decide +kernel) rfl, qin 60 (by decide +kernel) rfl, ⟨by decide +kernel, by decide +kernel, by decide +kernel⟩, by decide +kernel, by decide⟩, qin 498 (by decide +kernel) rfl, qin 499 (by decide +kernel) rfl⟩
theorem okX5_setAnswer : qOKv YX5_setAnswer 2 := ⟨⟨qin 354 (by decide +kernel) rfl, qin 60 (by decide +kernel) rfl, ⟨by decide +kernel, by decide +kernel, by decide +kernel⟩, by decide +kernel, by decide⟩, qin 352 (by decide +kernel) rfl, qin 353 (by decide +kernel) rfl⟩
theorem okX5_fate : qOKv YX5_fate 1 := ⟨⟨qin 417 (by decide +kernel) rfl, qin 60 (by decide +kernel) rfl, ⟨by decide +kernel, by decide +kernel, by decide +kernel⟩, by decide +kernel, by decide⟩, qin 415 (by decide +kernel) rfl, qin 416 (by decide +kernel) rfl⟩
theorem okX5_waits : qOKv YX5_waits 1 := ⟨⟨qin 434 (by decide +kernel) rfl, qin 60 (by decide +kernel) rfl, ⟨by decide +kernel, by decide +kernel, by decide +kernel⟩, by decide +kernel, by decide⟩, qin 432 (by decide +kernel) rfl, qin 433 (by decide +kernel) rfl⟩
theorem okX5_strong : qOKv YX5_strong 1 := ⟨⟨qin 484 (by decide +kernel) rfl, qin 60 (by decide +kernel) rfl, ⟨by decide +kernel, by decide +kernel, by decide +kernel⟩, by decide +kernel, by decide⟩, qin 482 (by decide +kernel) rfl, qin 483 (by decide +kernel) rfl⟩
theorem okX5_weight : qOKv YX5_weight 2 := ⟨⟨qin 461 (by decide +kernel) rfl, qin 60 (by decide +kernel) rfl, ⟨by decide +kernel, by decide +kernel, by decide +kernel⟩, by decide +kernel, by decide⟩, qin 459 (by decide +kernel) rfl, qin 460 (by decide +kernel) rfl⟩
theorem okX5_setWeight : qOKv YX5_setWeight 3 := ⟨⟨qin 358 (by decide +kernel) rfl, qin 60 (by decide +kernel) rfl, ⟨by decide +kernel, by decide +kernel, by decide +kernel⟩, by decide +kernel, by decide⟩, qin 356 (by decide +kernel) rfl, qin 357 (by decide +kernel) rfl⟩
theorem okX5_kind : qOKv YX5_kind 1 := ⟨⟨qin 453 (by decide +kernel) rfl, qin 60 (by decide +kernel) rfl, ⟨by decide +kernel, by decide +kernel, by decide +kernel⟩, by decide +kernel, by decide⟩, qin 451 (by decide +kernel) rfl, qin 452 (by decide +kernel) rfl⟩
theorem okX5_skill : qOKv YX5_skill 1 := ⟨⟨qin 465 (by decide +kernel) rfl, qin 60 (by decide +kernel) rfl, ⟨by decide +kernel, by decide +kernel, by decide +kernel⟩, by decide +kernel, by decide⟩, qin 463 (by decide +kernel) rfl, qin 464 (by decide +kernel) rfl⟩
theorem okX5_setSkill : qOKv YX5_setSkill 2 := ⟨⟨qin 607 (by decide +kernel) rfl, qin 60 (by decide +kernel) rfl, ⟨by decide +kernel, by decide +kernel, by decide +kernel⟩, by decide +kernel, by decide⟩, qin 605 (by decide +kernel) rfl, qin 606 (by decide +kernel) rfl⟩
theorem okX5_known : qOKv YX5_known 1 := ⟨⟨qin 457 (by decide +kernel) rfl, qin 60 (by decide +kernel) rfl, ⟨by decide +kernel, by decide +kernel, by decide +kernel⟩, by decide +kernel, by decide⟩, qin 455 (by decide +kernel) rfl, qin 456 (by decide +kernel) rfl⟩
theorem okX5_setKnown : qOKv YX5_setKnown 2 := ⟨⟨qin 615 (by decide +kernel) rfl, qin 60 (by decide +kernel) rfl, ⟨by decide +kernel, by decide +kernel, by decide +kernel⟩, by decide +kernel, by decide⟩, qin 613 (by decide +kernel) rfl, qin 614 (by decide +kernel) rfl⟩
theorem okX5_hasStood : qOKv YX5_hasStood 1 := ⟨⟨qin 545 (by decide +kernel) rfl, qin 60 (by decide +kernel) rfl, ⟨by decide +kernel, by decide +kernel, by decide +kernel⟩, by decide +kernel, by decide⟩, qin 543 (by decide +kernel) rfl, qin 544 (by decide +kernel) rfl⟩
theorem okX5_fromBox : qOKv YX5_fromBox 2 := ⟨⟨qin 553 (by decide +kernel) rfl, qin 60 (by decide +kernel) rfl, ⟨by decide +kernel, by decide +kernel, by decide +kernel⟩, by decide +kernel, by decide⟩, qin 551 (by decide +kernel) rfl, qin 552 (by decide +kernel) rfl⟩
theorem okX5_addCouple : qOKv YX5_addCouple 0 := ⟨⟨qin 362 (by decide +kernel) rfl, qin 60 (by decide +kernel) rfl, ⟨by decide +kernel, by decide +kernel, by decide +kernel⟩, by decide +kernel, by decide⟩, qin 360 (by decide +kernel) rfl, qin 361 (by decide +kernel) rfl⟩
theorem okX5_addObjector : qOKv YX5_addObjector 3 := ⟨⟨qin 370 (by decide +kernel) rfl, qin 60 (by decide +kernel) rfl, ⟨by decide +kernel, by decide +kernel, by decide +kernel⟩, by decide +kernel, by decide⟩, qin 368 (by decide +kernel) rfl, qin 369 (by decide +kernel) rfl⟩
theorem okX5_couplesThat : qOKv YX5_couplesThat 1 := ⟨⟨qin 412 (by decide +kernel) rfl, qin 60 (by decide +kernel) rfl, ⟨by decide +kernel, by decide +kernel, by decide +kernel⟩, by decide +kernel, by decide⟩, qin 410 (by decide +kernel) rfl, qin 411 (by decide +kernel) rfl⟩
theorem okX5_reasonOf : qOKv YX5_reasonOf 2 := ⟨⟨qin 449 (by decide +kernel) rfl, qin 60 (by decide +kernel) rfl, ⟨by decide +kernel, by decide +kernel, by decide +kernel⟩, by decide +kernel, by decide⟩, qin 447 (by decide +kernel) rfl, qin 448 (by decide +kernel) rfl⟩
theorem okX5_strengthIn : qOKv YX5_strengthIn 3 := ⟨⟨qin 445 (by decide +kernel) rfl, qin 60 (by decide +kernel) rfl, ⟨by decide +kernel, by decide +kernel, by decide +kernel⟩, by decide +kernel, by decide⟩, qin 443 (by decide +kernel) rfl, qin 444 (by decide +kernel) rfl⟩
theorem okX5_objects : qOKv YX5_objects 2 := ⟨⟨qin 441 (by decide +kernel) rfl, qin 60 (by decide +kernel) rfl, ⟨by decide +kernel, by decide +kernel, by decide +kernel⟩, by decide +kernel, by decide⟩, qin 439 (by decide +kernel) rfl, qin 440 (by decide +kernel) rfl⟩
theorem okX5_wedIn : qOKv YX5_wedIn 3 := ⟨⟨qin 496 (by decide +kernel) rfl, qin 60 (by decide +kernel) rfl, ⟨by decide +kernel, by decide +kernel, by decide +kernel⟩, by decide +kernel, by decide⟩, qin 494 (by decide +kernel) rfl, qin 495 (by decide +kernel) rfl⟩
theorem okX5_mayStand : qOKv YX5_mayStand 2 := ⟨⟨qin 567 (by decide +kernel) rfl, qin 60 (by decide +kernel) rfl, ⟨by decide +kernel, by decide +kernel, by decide +kernel⟩, by decide +kernel, by decide⟩, qin 565 (by decide +kernel) rfl, qin 566 (by decide +kernel) rfl⟩
theorem okX5_standUp : qOKv YX5_standUp 2 := ⟨⟨qin 583 (by decide +kernel) rfl, qin 60 (by decide +kernel) rfl, ⟨by decide +kernel, by decide +kernel, by decide +kernel⟩, by decide +kernel, by decide⟩, qin 581 (by decide +kernel) rfl, qin 582 (by decide +kernel) rfl⟩
theorem okX5_putIntoBox : qOKv YX5_putIntoBox 3 := ⟨⟨qin 588 (by decide +kernel) rfl, qin 60 (by decide +kernel) rfl, ⟨by decide +kernel, by decide +kernel, by decide +kernel⟩, by decide +kernel, by decide⟩, qin 587 (by decide +kernel) rfl, qin 10 (by decide +kernel) rfl⟩
theorem okX5_passYear : qOKv YX5_passYear 0 := ⟨⟨qin 601 (by decide +kernel) rfl, qin 60 (by decide +kernel) rfl, ⟨by decide +kernel, by decide +kernel, by decide +kernel⟩, by decide +kernel, by decide⟩, qin 599 (by decide +kernel) rfl, qin 600 (by decide +kernel) rfl⟩
theorem okX6_init : qOKi YX6_init 0 := ⟨⟨qin 130 (by decide +kernel) rfl, qin 62 (by decide +kernel) rfl, ⟨by decide +kernel, by decide +kernel, by decide +kernel⟩, by decide +kernel, by decide⟩, rfl, rfl, qin 129 (by decide +kernel) rfl⟩
theorem okX6_remember : qOKv YX6_remember 1 := ⟨⟨qin 574 (by decide +kernel) rfl, qin 62 (by decide +kernel) rfl, ⟨by decide +kernel, by decide +kernel, by decide +kernel⟩, by decide +kernel, by decide⟩, qin 572 (by decide +kernel) rfl, qin 573 (by decide +kernel) rfl⟩
theorem okX6_restore : qOKv YX6_restore 1 := ⟨⟨qin 662 (by decide +kernel) rfl, qin 62 (by decide +kernel) rfl, ⟨by decide +kernel, by decide +kernel, by decide +kernel⟩, by decide +kernel, by decide⟩, qin 660 (by decide +kernel) rfl, qin 661 (by decide +kernel) rfl⟩
theorem okX6_forget : qOKv YX6_forget 0 := ⟨⟨qin 381 (by decide +kernel) rfl, qin 62 (by decide +kernel) rfl, ⟨by decide +kernel, by decide +kernel, by decide +kernel⟩, by decide +kernel, by decide⟩, qin 379 (by decide +kernel) rfl, qin 380 (by decide +kernel) rfl⟩
theorem okX7_init : qOKi YX7_init 0 := ⟨⟨qin 100 (by decide +kernel) rfl, qin 61 (by decide +kernel) rfl, ⟨by decide +kernel, by decide +kernel, by decide +kernel⟩, by decide +kernel, by decide⟩, rfl, rfl, qin 99 (by decide +kernel) rfl⟩
theorem okX7_isFull : qOKv YX7_isFull 0 := ⟨⟨qin 276 (by decide +kernel) rfl, qin 61 (by decide +kernel) rfl, ⟨by decide +kernel, by decide +kernel, by decide +kernel⟩, by decide +kernel, by decide⟩, qin 274 (by decide +kernel) rfl, qin 275 (by decide +kernel) rfl⟩
theorem okX7_put : qOKv YX7_put 1 := ⟨⟨qin 281 (by decide +kernel) rfl, qin 61 (by decide +kernel) rfl, ⟨by decide +kernel, by decide +kernel, by decide +kernel⟩, by decide +kernel, by decide⟩, qin 279 (by decide +kernel) rfl, qin 280 (by decide +kernel) rfl⟩
theorem okX7_readText : qOKv YX7_readText 0 := ⟨⟨qin 289 (by decide +kernel) rfl, qin 61 (by decide +kernel) rfl, ⟨by decide +kernel, by decide +kernel, by decide +kernel⟩, by decide +kernel, by decide⟩, qin 287 (by decide +kernel) rfl, qin 288 (by decide +kernel) rfl⟩
theorem okX7_readClause : qOKv YX7_readClause 0 := ⟨⟨qin 304 (by decide +kernel) rfl, qin 61 (by decide +kernel) rfl, ⟨by decide +kernel, by decide +kernel, by decide +kernel⟩, by decide +kernel, by decide⟩, qin 303 (by decide +kernel) rfl, qin 1 (by decide +kernel) rfl⟩
theorem okX7_faultOfWord : qOKv YX7_faultOfWord 1 := ⟨⟨qin 308 (by decide +kernel) rfl, qin 61 (by decide +kernel) rfl, ⟨by decide +kernel, by decide +kernel, by decide +kernel⟩, by decide +kernel, by decide⟩, qin 307 (by decide +kernel) rfl, qin 2 (by decide +kernel) rfl⟩
theorem okX7_faultOfMore : qOKs YX7_faultOfMore 2 := ⟨⟨qin 319 (by decide +kernel) rfl, qin 61 (by decide +kernel) rfl, ⟨by decide +kernel, by decide +kernel, by decide +kernel⟩, by decide +kernel, by decide⟩, qin 318 (by decide +kernel) rfl⟩
theorem okX7_readLeast : qOKv YX7_readLeast 0 := ⟨⟨qin 331 (by decide +kernel) rfl, qin 61 (by decide +kernel) rfl, ⟨by decide +kernel, by decide +kernel, by decide +kernel⟩, by decide +kernel, by decide⟩, qin 330 (by decide +kernel) rfl, qin 4 (by decide +kernel) rfl⟩
theorem okX7_readCouple : qOKv YX7_readCouple 0 := ⟨⟨qin 350 (by decide +kernel) rfl, qin 61 (by decide +kernel) rfl, ⟨by decide +kernel, by decide +kernel, by decide +kernel⟩, by decide +kernel, by decide⟩, qin 349 (by decide +kernel) rfl, qin 7 (by decide +kernel) rfl⟩
theorem okX7_readObjector : qOKv YX7_readObjector 0 := ⟨⟨qin 366 (by decide +kernel) rfl, qin 61 (by decide +kernel) rfl, ⟨by decide +kernel, by decide +kernel, by decide +kernel⟩, by decide +kernel, by decide⟩, qin 365 (by decide +kernel) rfl, qin 8 (by decide +kernel) rfl⟩
theorem okX7_number : qOKv YX7_number 2 := ⟨⟨qin 335 (by decide +kernel) rfl, qin 61 (by decide +kernel) rfl, ⟨by decide +kernel, by decide +kernel, by decide +kernel⟩, by decide +kernel, by decide⟩, qin 334 (by decide +kernel) rfl, qin 5 (by decide +kernel) rfl⟩
theorem okX7_expect : qOKv YX7_expect 1 := ⟨⟨qin 342 (by decide +kernel) rfl, qin 61 (by decide +kernel) rfl, ⟨by decide +kernel, by decide +kernel, by decide +kernel⟩, by decide +kernel, by decide⟩, qin 341 (by decide +kernel) rfl, qin 6 (by decide +kernel) rfl⟩
theorem okX7_skipBlanks : qOKv YX7_skipBlanks 0 := ⟨⟨qin 300 (by decide +kernel) rfl, qin 61 (by decide +kernel) rfl, ⟨by decide +kernel, by decide +kernel, by decide +kernel⟩, by decide +kernel, by decide⟩, qin 299 (by decide +kernel) rfl, qin 0 (by decide +kernel) rfl⟩
theorem okX7_isFigure : qOKs YX7_isFigure 1 := ⟨⟨qin 338 (by decide +kernel) rfl, qin 61 (by decide +kernel) rfl, ⟨by decide +kernel, by decide +kernel, by decide +kernel⟩, by decide +kernel, by decide⟩, qin 337 (by decide +kernel) rfl⟩
theorem okX7_fail : qOKv YX7_fail 2 := ⟨⟨qin 327 (by decide +kernel) rfl, qin 61 (by decide +kernel) rfl, ⟨by decide +kernel, by decide +kernel, by decide +kernel⟩, by decide +kernel, by decide⟩, qin 326 (by decide +kernel) rfl, qin 3 (by decide +kernel) rfl⟩
theorem okX8_init : qOKi YX8_init 0 := ⟨⟨qin 187 (by decide +kernel) rfl, qin 66 (by decide +kernel) rfl, ⟨by decide +kernel, by decide +kernel, by decide +kernel⟩, by decide +kernel, by decide⟩, rfl, rfl, qin 186 (by decide +kernel) rfl⟩
theorem okX8_weigh : qOKv YX8_weigh 3 := ⟨⟨qin 728 (by decide +kernel) rfl, qin 66 (by decide +kernel) rfl, ⟨by decide +kernel, by decide +kernel, by decide +kernel⟩, by decide +kernel, by decide⟩, qin 726 (by decide +kernel) rfl, qin 727 (by decide +kernel) rfl⟩
theorem okX8_bestOf : qOKv YX8_bestOf 4 := ⟨⟨qin 732 (by decide +kernel) rfl, qin 66 (by decide +kernel) rfl, ⟨by decide +kernel, by decide +kernel, by decide +kernel⟩, by decide +kernel, by decide⟩, qin 731 (by decide +kernel) rfl, qin 18 (by decide +kernel) rfl⟩
theorem okX8_valueOf : qOKv YX8_valueOf 5 := ⟨⟨qin 737 (by decide +kernel) rfl, qin 66 (by decide +kernel) rfl, ⟨by decide +kernel, by decide +kernel, by decide +kernel⟩, by decide +kernel, by decide⟩, qin 736 (by decide +kernel) rfl, qin 19 (by decide +kernel) rfl⟩
theorem okX8_howMany : qOKv YX8_howMany 1 := ⟨⟨qin 744 (by decide +kernel) rfl, qin 66 (by decide +kernel) rfl, ⟨by decide +kernel, by decide +kernel, by decide +kernel⟩, by decide +kernel, by decide⟩, qin 742 (by decide +kernel) rfl, qin 743 (by decide +kernel) rfl⟩
theorem okX8_figures : qOKv YX8_figures 3 := ⟨⟨qin 748 (by decide +kernel) rfl, qin 66 (by decide +kernel) rfl, ⟨by decide +kernel, by decide +kernel, by decide +kernel⟩, by decide +kernel, by decide⟩, qin 746 (by decide +kernel) rfl, qin 747 (by decide +kernel) rfl⟩
theorem okX8_firstChoice : qOKv YX8_firstChoice 4 := ⟨⟨qin 752 (by decide +kernel) rfl, qin 66 (by decide +kernel) rfl, ⟨by decide +kernel, by decide +kernel, by decide +kernel⟩, by decide +kernel, by decide⟩, qin 751 (by decide +kernel) rfl, qin 20 (by decide +kernel) rfl⟩
theorem okX9_init : qOKi YX9_init 0 := ⟨⟨qin 207 (by decide +kernel) rfl, qin 68 (by decide +kernel) rfl, ⟨by decide +kernel, by decide +kernel, by decide +kernel⟩, by decide +kernel, by decide⟩, rfl, rfl, qin 206 (by decide +kernel) rfl⟩
theorem okX9_clear : qOKv YX9_clear 0 := ⟨⟨qin 389 (by decide +kernel) rfl, qin 68 (by decide +kernel) rfl, ⟨by decide +kernel, by decide +kernel, by decide +kernel⟩, by decide +kernel, by decide⟩, qin 387 (by decide +kernel) rfl, qin 388 (by decide +kernel) rfl⟩
theorem okX9_isFull : qOKv YX9_isFull 0 := ⟨⟨qin 774 (by decide +kernel) rfl, qin 68 (by decide +kernel) rfl, ⟨by decide +kernel, by decide +kernel, by decide +kernel⟩, by decide +kernel, by decide⟩, qin 772 (by decide +kernel) rfl, qin 773 (by decide +kernel) rfl⟩
theorem okX9_add : qOKv YX9_add 3 := ⟨⟨qin 778 (by decide +kernel) rfl, qin 68 (by decide +kernel) rfl, ⟨by decide +kernel, by decide +kernel, by decide +kernel⟩, by decide +kernel, by decide⟩, qin 776 (by decide +kernel) rfl, qin 777 (by decide +kernel) rfl⟩
theorem okX9_fits : qOKv YX9_fits 1 := ⟨⟨qin 790 (by decide +kernel) rfl, qin 68 (by decide +kernel) rfl, ⟨by decide +kernel, by decide +kernel, by decide +kernel⟩, by decide +kernel, by decide⟩, qin 789 (by decide +kernel) rfl, qin 21 (by decide +kernel) rfl⟩
theorem okX9_howManyFit : qOKv YX9_howManyFit 0 := ⟨⟨qin 786 (by decide +kernel) rfl, qin 68 (by decide +kernel) rfl, ⟨by decide +kernel, by decide +kernel, by decide +kernel⟩, by decide +kernel, by decide⟩, qin 784 (by decide +kernel) rfl, qin 785 (by decide +kernel) rfl⟩
theorem okX9_leastThatFits : qOKv YX9_leastThatFits 0 := ⟨⟨qin 795 (by decide +kernel) rfl, qin 68 (by decide +kernel) rfl, ⟨by decide +kernel, by decide +kernel, by decide +kernel⟩, by decide +kernel, by decide⟩, qin 793 (by decide +kernel) rfl, qin 794 (by decide +kernel) rfl⟩
theorem okX9_greatestThatFits : qOKv YX9_greatestThatFits 0 := ⟨⟨qin 799 (by decide +kernel) rfl, qin 68 (by decide +kernel) rfl, ⟨by decide +kernel, by decide +kernel, by decide +kernel⟩, by decide +kernel, by decide⟩, qin 797 (by decide +kernel) rfl, qin 798 (by decide +kernel) rfl⟩
theorem okX9_bestKind : qOKv YX9_bestKind 0 := ⟨⟨qin 807 (by decide +kernel) rfl, qin 68 (by decide +kernel) rfl, ⟨by decide +kernel, by decide +kernel, by decide +kernel⟩, by decide +kernel, by decide⟩, qin 805 (by decide +kernel) rfl, qin 806 (by decide +kernel) rfl⟩
theorem okX9_greatestPart : qOKv YX9_greatestPart 1 := ⟨⟨qin 812 (by decide +kernel) rfl, qin 68 (by decide +kernel) rfl, ⟨by decide +kernel, by decide +kernel, by decide +kernel⟩, by decide +kernel, by decide⟩, qin 811 (by decide +kernel) rfl, qin 22 (by decide +kernel) rfl⟩
theorem okX9_partOf : qOKv YX9_partOf 2 := ⟨⟨qin 816 (by decide +kernel) rfl, qin 68 (by decide +kernel) rfl, ⟨by decide +kernel, by decide +kernel, by decide +kernel⟩, by decide +kernel, by decide⟩, qin 815 (by decide +kernel) rfl, qin 23 (by decide +kernel) rfl⟩
theorem okX10_can : qOKs YX10_can 2 := ⟨⟨qin 492 (by decide +kernel) rfl, qin 73 (by decide +kernel) rfl, ⟨by decide +kernel, by decide +kernel, by decide +kernel⟩, by decide +kernel, by decide⟩, qin 491 (by decide +kernel) rfl⟩
theorem okX10_firstYear : qOKs YX10_firstYear 3 := ⟨⟨qin 670 (by decide +kernel) rfl, qin 73 (by decide +kernel) rfl, ⟨by decide +kernel, by decide +kernel, by decide +kernel⟩, by decide +kernel, by decide⟩, qin 669 (by decide +kernel) rfl⟩
theorem okX10_safeAnswer : qOKs YX10_safeAnswer 3 := ⟨⟨qin 437 (by decide +kernel) rfl, qin 73 (by decide +kernel) rfl, ⟨by decide +kernel, by decide +kernel, by decide +kernel⟩, by decide +kernel, by decide⟩, qin 436 (by decide +kernel) rfl⟩
theorem okX10_plain : qOKs YX10_plain 1 := ⟨⟨qin 428 (by decide +kernel) rfl, qin 73 (by decide +kernel) rfl, ⟨by decide +kernel, by decide +kernel, by decide +kernel⟩, by decide +kernel, by decide⟩, qin 427 (by decide +kernel) rfl⟩
theorem okX10_firmest : qOKs YX10_firmest 1 := ⟨⟨qin 479 (by decide +kernel) rfl, qin 73 (by decide +kernel) rfl, ⟨by decide +kernel, by decide +kernel, by decide +kernel⟩, by decide +kernel, by decide⟩, qin 478 (by decide +kernel) rfl⟩
theorem okX10_weakest : qOKs YX10_weakest 2 := ⟨⟨qin 530 (by decide +kernel) rfl, qin 73 (by decide +kernel) rfl, ⟨by decide +kernel, by decide +kernel, by decide +kernel⟩, by decide +kernel, by decide⟩, qin 529 (by decide +kernel) rfl⟩
theorem okX11_init : qOKi YX11_init 0 := ⟨⟨qin 80 (by decide +kernel) rfl, qin 59 (by decide +kernel) rfl, ⟨by decide +kernel, by decide +kernel, by decide +kernel⟩, by decide +kernel, by decide⟩, rfl, rfl, qin 79 (by decide +kernel) rfl⟩
theorem okX11_feed : qOKv YX11_feed 1 := ⟨⟨qin 268 (by decide +kernel) rfl, qin 59 (by decide +kernel) rfl, ⟨by decide +kernel, by decide +kernel, by decide +kernel⟩, by decide +kernel, by decide⟩, qin 266 (by decide +kernel) rfl, qin 267 (by decide +kernel) rfl⟩
theorem okX11_deanery : qOKv YX11_deanery 0 := ⟨⟨qin 285 (by decide +kernel) rfl, qin 59 (by decide +kernel) rfl, ⟨by decide +kernel, by decide +kernel, by decide +kernel⟩, by decide +kernel, by decide⟩, qin 283 (by decide +kernel) rfl, qin 284 (by decide +kernel) rfl⟩
theorem okX11_fault : qOKv YX11_fault 0 := ⟨⟨qin 398 (by decide +kernel) rfl, qin 59 (by decide +kernel) rfl, ⟨by decide +kernel, by decide +kernel, by decide +kernel⟩, by decide +kernel, by decide⟩, qin 396 (by decide +kernel) rfl, qin 397 (by decide +kernel) rfl⟩
theorem okX11_told : qOKv YX11_told 1 := ⟨⟨qin 402 (by decide +kernel) rfl, qin 59 (by decide +kernel) rfl, ⟨by decide +kernel, by decide +kernel, by decide +kernel⟩, by decide +kernel, by decide⟩, qin 400 (by decide +kernel) rfl, qin 401 (by decide +kernel) rfl⟩
theorem okX11_couple : qOKv YX11_couple 2 := ⟨⟨qin 517 (by decide +kernel) rfl, qin 59 (by decide +kernel) rfl, ⟨by decide +kernel, by decide +kernel, by decide +kernel⟩, by decide +kernel, by decide⟩, qin 515 (by decide +kernel) rfl, qin 516 (by decide +kernel) rfl⟩
theorem okX11_objector : qOKv YX11_objector 2 := ⟨⟨qin 534 (by decide +kernel) rfl, qin 59 (by decide +kernel) rfl, ⟨by decide +kernel, by decide +kernel, by decide +kernel⟩, by decide +kernel, by decide⟩, qin 532 (by decide +kernel) rfl, qin 533 (by decide +kernel) rfl⟩
theorem okX11_box : qOKv YX11_box 2 := ⟨⟨qin 549 (by decide +kernel) rfl, qin 59 (by decide +kernel) rfl, ⟨by decide +kernel, by decide +kernel, by decide +kernel⟩, by decide +kernel, by decide⟩, qin 547 (by decide +kernel) rfl, qin 548 (by decide +kernel) rfl⟩
theorem okX11_against : qOKv YX11_against 3 := ⟨⟨qin 557 (by decide +kernel) rfl, qin 59 (by decide +kernel) rfl, ⟨by decide +kernel, by decide +kernel, by decide +kernel⟩, by decide +kernel, by decide⟩, qin 555 (by decide +kernel) rfl, qin 556 (by decide +kernel) rfl⟩
theorem okX11_stand : qOKv YX11_stand 2 := ⟨⟨qin 563 (by decide +kernel) rfl, qin 59 (by decide +kernel) rfl, ⟨by decide +kernel, by decide +kernel, by decide +kernel⟩, by decide +kernel, by decide⟩, qin 561 (by decide +kernel) rfl, qin 562 (by decide +kernel) rfl⟩
theorem okX11_year : qOKv YX11_year 1 := ⟨⟨qin 593 (by decide +kernel) rfl, qin 59 (by decide +kernel) rfl, ⟨by decide +kernel, by decide +kernel, by decide +kernel⟩, by decide +kernel, by decide⟩, qin 591 (by decide +kernel) rfl, qin 592 (by decide +kernel) rfl⟩
theorem okX11_teach : qOKv YX11_teach 3 := ⟨⟨qin 611 (by decide +kernel) rfl, qin 59 (by decide +kernel) rfl, ⟨by decide +kernel, by decide +kernel, by decide +kernel⟩, by decide +kernel, by decide⟩, qin 609 (by decide +kernel) rfl, qin 610 (by decide +kernel) rfl⟩
theorem okX11_hear : qOKv YX11_hear 3 := ⟨⟨qin 619 (by decide +kernel) rfl, qin 59 (by decide +kernel) rfl, ⟨by decide +kernel, by decide +kernel, by decide +kernel⟩, by decide +kernel, by decide⟩, qin 617 (by decide +kernel) rfl, qin 618 (by decide +kernel) rfl⟩
theorem okX11_practise : qOKv YX11_practise 2 := ⟨⟨qin 624 (by decide +kernel) rfl, qin 59 (by decide +kernel) rfl, ⟨by decide +kernel, by decide +kernel, by decide +kernel⟩, by decide +kernel, by decide⟩, qin 622 (by decide +kernel) rfl, qin 623 (by decide +kernel) rfl⟩
theorem okX11_sour : qOKv YX11_sour 2 := ⟨⟨qin 630 (by decide +kernel) rfl, qin 59 (by decide +kernel) rfl, ⟨by decide +kernel, by decide +kernel, by decide +kernel⟩, by decide +kernel, by decide⟩, qin 628 (by decide +kernel) rfl, qin 629 (by decide +kernel) rfl⟩
theorem okX11_drift : qOKv YX11_drift 1 := ⟨⟨qin 635 (by decide +kernel) rfl, qin 59 (by decide +kernel) rfl, ⟨by decide +kernel, by decide +kernel, by decide +kernel⟩, by decide +kernel, by decide⟩, qin 633 (by decide +kernel) rfl, qin 634 (by decide +kernel) rfl⟩
theorem okX11_undo : qOKv YX11_undo 0 := ⟨⟨qin 658 (by decide +kernel) rfl, qin 59 (by decide +kernel) rfl, ⟨by decide +kernel, by decide +kernel, by decide +kernel⟩, by decide +kernel, by decide⟩, qin 656 (by decide +kernel) rfl, qin 657 (by decide +kernel) rfl⟩
theorem okX11_soonest : qOKv YX11_soonest 2 := ⟨⟨qin 667 (by decide +kernel) rfl, qin 59 (by decide +kernel) rfl, ⟨by decide +kernel, by decide +kernel, by decide +kernel⟩, by decide +kernel, by decide⟩, qin 665 (by decide +kernel) rfl, qin 666 (by decide +kernel) rfl⟩
theorem okX11_match : qOKv YX11_match 1 := ⟨⟨qin 674 (by decide +kernel) rfl, qin 59 (by decide +kernel) rfl, ⟨by decide +kernel, by decide +kernel, by decide +kernel⟩, by decide +kernel, by decide⟩, qin 672 (by decide +kernel) rfl, qin 673 (by decide +kernel) rfl⟩
theorem okX11_rounds : qOKv YX11_rounds 3 := ⟨⟨qin 720 (by decide +kernel) rfl, qin 59 (by decide +kernel) rfl, ⟨by decide +kernel, by decide +kernel, by decide +kernel⟩, by decide +kernel, by decide⟩, qin 718 (by decide +kernel) rfl, qin 719 (by decide +kernel) rfl⟩
theorem okX11_holds : qOKv YX11_holds 2 := ⟨⟨qin 756 (by decide +kernel) rfl, qin 59 (by decide +kernel) rfl, ⟨by decide +kernel, by decide +kernel, by decide +kernel⟩, by decide +kernel, by decide⟩, qin 754 (by decide +kernel) rfl, qin 755 (by decide +kernel) rfl⟩
theorem okX11_dry : qOKv YX11_dry 2 := ⟨⟨qin 761 (by decide +kernel) rfl, qin 59 (by decide +kernel) rfl, ⟨by decide +kernel, by decide +kernel, by decide +kernel⟩, by decide +kernel, by decide⟩, qin 759 (by decide +kernel) rfl, qin 760 (by decide +kernel) rfl⟩
theorem okX11_say : qOKv YX11_say 3 := ⟨⟨qin 770 (by decide +kernel) rfl, qin 59 (by decide +kernel) rfl, ⟨by decide +kernel, by decide +kernel, by decide +kernel⟩, by decide +kernel, by decide⟩, qin 768 (by decide +kernel) rfl, qin 769 (by decide +kernel) rfl⟩
theorem okX11_weights : qOKv YX11_weights 1 := ⟨⟨qin 782 (by decide +kernel) rfl, qin 59 (by decide +kernel) rfl, ⟨by decide +kernel, by decide +kernel, by decide +kernel⟩, by decide +kernel, by decide⟩, qin 780 (by decide +kernel) rfl, qin 781 (by decide +kernel) rfl⟩
theorem okX11_ask : qOKv YX11_ask 0 := ⟨⟨qin 803 (by decide +kernel) rfl, qin 59 (by decide +kernel) rfl, ⟨by decide +kernel, by decide +kernel, by decide +kernel⟩, by decide +kernel, by decide⟩, qin 801 (by decide +kernel) rfl, qin 802 (by decide +kernel) rfl⟩
theorem okX11_write : qOKv YX11_write 2 := ⟨⟨qin 821 (by decide +kernel) rfl, qin 59 (by decide +kernel) rfl, ⟨by decide +kernel, by decide +kernel, by decide +kernel⟩, by decide +kernel, by decide⟩, qin 819 (by decide +kernel) rfl, qin 820 (by decide +kernel) rfl⟩
theorem okX11_tear : qOKv YX11_tear 0 := ⟨⟨qin 833 (by decide +kernel) rfl, qin 59 (by decide +kernel) rfl, ⟨by decide +kernel, by decide +kernel, by decide +kernel⟩, by decide +kernel, by decide⟩, qin 831 (by decide +kernel) rfl, qin 832 (by decide +kernel) rfl⟩
theorem okX11_judge : qOKv YX11_judge 0 := ⟨⟨qin 837 (by decide +kernel) rfl, qin 59 (by decide +kernel) rfl, ⟨by decide +kernel, by decide +kernel, by decide +kernel⟩, by decide +kernel, by decide⟩, qin 835 (by decide +kernel) rfl, qin 836 (by decide +kernel) rfl⟩
theorem okX11_seed : qOKv YX11_seed 1 := ⟨⟨qin 846 (by decide +kernel) rfl, qin 59 (by decide +kernel) rfl, ⟨by decide +kernel, by decide +kernel, by decide +kernel⟩, by decide +kernel, by decide⟩, qin 844 (by decide +kernel) rfl, qin 845 (by decide +kernel) rfl⟩
theorem okX11_keep : qOKv YX11_keep 1 := ⟨⟨qin 850 (by decide +kernel) rfl, qin 59 (by decide +kernel) rfl, ⟨by decide +kernel, by decide +kernel, by decide +kernel⟩, by decide +kernel, by decide⟩, qin 848 (by decide +kernel) rfl, qin 849 (by decide +kernel) rfl⟩
theorem okX11_goBack : qOKv YX11_goBack 1 := ⟨⟨qin 859 (by decide +kernel) rfl, qin 59 (by decide +kernel) rfl, ⟨by decide +kernel, by decide +kernel, by decide +kernel⟩, by decide +kernel, by decide⟩, qin 857 (by decide +kernel) rfl, qin 858 (by decide +kernel) rfl⟩
theorem okX11_refusalOfYears : qOKv YX11_refusalOfYears 1 := ⟨⟨qin 597 (by decide +kernel) rfl, qin 59 (by decide +kernel) rfl, ⟨by decide +kernel, by decide +kernel, by decide +kernel⟩, by decide +kernel, by decide⟩, qin 596 (by decide +kernel) rfl, qin 11 (by decide +kernel) rfl⟩
theorem okX11_isOutside : qOKs YX11_isOutside 3 := ⟨⟨qin 271 (by decide +kernel) rfl, qin 59 (by decide +kernel) rfl, ⟨by decide +kernel, by decide +kernel, by decide +kernel⟩, by decide +kernel, by decide⟩, qin 270 (by decide +kernel) rfl⟩
theorem okX11_isSetOf : qOKs YX11_isSetOf 2 := ⟨⟨qin 723 (by decide +kernel) rfl, qin 59 (by decide +kernel) rfl, ⟨by decide +kernel, by decide +kernel, by decide +kernel⟩, by decide +kernel, by decide⟩, qin 722 (by decide +kernel) rfl⟩
theorem okX11_strengthBy : qOKs YX11_strengthBy 3 := ⟨⟨qin 471 (by decide +kernel) rfl, qin 59 (by decide +kernel) rfl, ⟨by decide +kernel, by decide +kernel, by decide +kernel⟩, by decide +kernel, by decide⟩, qin 470 (by decide +kernel) rfl⟩
theorem okX12_init : qOKi YX12_init 0 := ⟨⟨qin 873 (by decide +kernel) rfl, qin 70 (by decide +kernel) rfl, ⟨by decide +kernel, by decide +kernel, by decide +kernel⟩, by decide +kernel, by decide⟩, rfl, rfl, qin 872 (by decide +kernel) rfl⟩
theorem okX12_in : qOKs YX12_in 3 := ⟨⟨qin 883 (by decide +kernel) rfl, qin 70 (by decide +kernel) rfl, ⟨by decide +kernel, by decide +kernel, by decide +kernel⟩, by decide +kernel, by decide⟩, qin 882 (by decide +kernel) rfl⟩
theorem okX12_has : qOKs YX12_has 2 := ⟨⟨qin 1036 (by decide +kernel) rfl, qin 70 (by decide +kernel) rfl, ⟨by decide +kernel, by decide +kernel, by decide +kernel⟩, by decide +kernel, by decide⟩, qin 1035 (by decide +kernel) rfl⟩
theorem okX12_bits : qOKs YX12_bits 1 := ⟨⟨qin 1058 (by decide +kernel) rfl, qin 70 (by decide +kernel) rfl, ⟨by decide +kernel, by decide +kernel, by decide +kernel⟩, by decide +kernel, by decide⟩, qin 1057 (by decide +kernel) rfl⟩
theorem okX12_lesser : qOKs YX12_lesser 2 := ⟨⟨qin 1125 (by decide +kernel) rfl, qin 70 (by decide +kernel) rfl, ⟨by decide +kernel, by decide +kernel, by decide +kernel⟩, by decide +kernel, by decide⟩, qin 1124 (by decide +kernel) rfl⟩
theorem okX12_greater : qOKs YX12_greater 2 := ⟨⟨qin 1184 (by decide +kernel) rfl, qin 70 (by decide +kernel) rfl, ⟨by decide +kernel, by decide +kernel, by decide +kernel⟩, by decide +kernel, by decide⟩, qin 1183 (by decide +kernel) rfl⟩
theorem okX12_copies : qOKs YX12_copies 5 := ⟨⟨qin 886 (by decide +kernel) rfl, qin 70 (by decide +kernel) rfl, ⟨by decide +kernel, by decide +kernel, by decide +kernel⟩, by decide +kernel, by decide⟩, qin 885 (by decide +kernel) rfl⟩
theorem okX12_begins : qOKv YX12_begins 0 := ⟨⟨qin 878 (by decide +kernel) rfl, qin 70 (by decide +kernel) rfl, ⟨by decide +kernel, by decide +kernel, by decide +kernel⟩, by decide +kernel, by decide⟩, qin 877 (by decide +kernel) rfl, qin 24 (by decide +kernel) rfl⟩
theorem okX12_feed : qOKv YX12_feed 1 := ⟨⟨qin 964 (by decide +kernel) rfl, qin 70 (by decide +kernel) rfl, ⟨by decide +kernel, by decide +kernel, by decide +kernel⟩, by decide +kernel, by decide⟩, qin 962 (by decide +kernel) rfl, qin 963 (by decide +kernel) rfl⟩
theorem okX12_here : qOKv YX12_here 0 := ⟨⟨qin 979 (by decide +kernel) rfl, qin 70 (by decide +kernel) rfl, ⟨by decide +kernel, by decide +kernel, by decide +kernel⟩, by decide +kernel, by decide⟩, qin 978 (by decide +kernel) rfl, qin 26 (by decide +kernel) rfl⟩
theorem okX12_step : qOKv YX12_step 0 := ⟨⟨qin 975 (by decide +kernel) rfl, qin 70 (by decide +kernel) rfl, ⟨by decide +kernel, by decide +kernel, by decide +kernel⟩, by decide +kernel, by decide⟩, qin 974 (by decide +kernel) rfl, qin 25 (by decide +kernel) rfl⟩
theorem okX12_fails : qOKv YX12_fails 1 := ⟨⟨qin 989 (by decide +kernel) rfl, qin 70 (by decide +kernel) rfl, ⟨by decide +kernel, by decide +kernel, by decide +kernel⟩, by decide +kernel, by decide⟩, qin 988 (by decide +kernel) rfl, qin 28 (by decide +kernel) rfl⟩
theorem okX12_number : qOKv YX12_number 3 := ⟨⟨qin 993 (by decide +kernel) rfl, qin 70 (by decide +kernel) rfl, ⟨by decide +kernel, by decide +kernel, by decide +kernel⟩, by decide +kernel, by decide⟩, qin 992 (by decide +kernel) rfl, qin 29 (by decide +kernel) rfl⟩
theorem okX12_ends : qOKv YX12_ends 0 := ⟨⟨qin 997 (by decide +kernel) rfl, qin 70 (by decide +kernel) rfl, ⟨by decide +kernel, by decide +kernel, by decide +kernel⟩, by decide +kernel, by decide⟩, qin 996 (by decide +kernel) rfl, qin 30 (by decide +kernel) rfl⟩
theorem okX12_readsCouple : qOKv YX12_readsCouple 0 := ⟨⟨qin 1001 (by decide +kernel) rfl, qin 70 (by decide +kernel) rfl, ⟨by decide +kernel, by decide +kernel, by decide +kernel⟩, by decide +kernel, by decide⟩, qin 1000 (by decide +kernel) rfl, qin 31 (by decide +kernel) rfl⟩
theorem okX12_readsObjector : qOKv YX12_readsObjector 0 := ⟨⟨qin 1005 (by decide +kernel) rfl, qin 70 (by decide +kernel) rfl, ⟨by decide +kernel, by decide +kernel, by decide +kernel⟩, by decide +kernel, by decide⟩, qin 1004 (by decide +kernel) rfl, qin 32 (by decide +kernel) rfl⟩
theorem okX12_readsClause : qOKv YX12_readsClause 0 := ⟨⟨qin 985 (by decide +kernel) rfl, qin 70 (by decide +kernel) rfl, ⟨by decide +kernel, by decide +kernel, by decide +kernel⟩, by decide +kernel, by decide⟩, qin 984 (by decide +kernel) rfl, qin 27 (by decide +kernel) rfl⟩
theorem okX12_deanery : qOKv YX12_deanery 0 := ⟨⟨qin 971 (by decide +kernel) rfl, qin 70 (by decide +kernel) rfl, ⟨by decide +kernel, by decide +kernel, by decide +kernel⟩, by decide +kernel, by decide⟩, qin 969 (by decide +kernel) rfl, qin 970 (by decide +kernel) rfl⟩
theorem okX12_fault : qOKv YX12_fault 0 := ⟨⟨qin 1009 (by decide +kernel) rfl, qin 70 (by decide +kernel) rfl, ⟨by decide +kernel, by decide +kernel, by decide +kernel⟩, by decide +kernel, by decide⟩, qin 1007 (by decide +kernel) rfl, qin 1008 (by decide +kernel) rfl⟩
theorem okX12_isCouple : qOKv YX12_isCouple 1 := ⟨⟨qin 1066 (by decide +kernel) rfl, qin 70 (by decide +kernel) rfl, ⟨by decide +kernel, by decide +kernel, by decide +kernel⟩, by decide +kernel, by decide⟩, qin 1065 (by decide +kernel) rfl, qin 42 (by decide +kernel) rfl⟩
theorem okX12_isObjector : qOKv YX12_isObjector 1 := ⟨⟨qin 1079 (by decide +kernel) rfl, qin 70 (by decide +kernel) rfl, ⟨by decide +kernel, by decide +kernel, by decide +kernel⟩, by decide +kernel, by decide⟩, qin 1078 (by decide +kernel) rfl, qin 44 (by decide +kernel) rfl⟩
theorem okX12_reasonOn : qOKv YX12_reasonOn 3 := ⟨⟨qin 1033 (by decide +kernel) rfl, qin 70 (by decide +kernel) rfl, ⟨by decide +kernel, by decide +kernel, by decide +kernel⟩, by decide +kernel, by decide⟩, qin 1032 (by decide +kernel) rfl, qin 37 (by decide +kernel) rfl⟩
theorem okX12_strengthBy : qOKs YX12_strengthBy 3 := ⟨⟨qin 1039 (by decide +kernel) rfl, qin 70 (by decide +kernel) rfl, ⟨by decide +kernel, by decide +kernel, by decide +kernel⟩, by decide +kernel, by decide⟩, qin 1038 (by decide +kernel) rfl⟩
theorem okX12_strengthOn : qOKv YX12_strengthOn 3 := ⟨⟨qin 1029 (by decide +kernel) rfl, qin 70 (by decide +kernel) rfl, ⟨by decide +kernel, by decide +kernel, by decide +kernel⟩, by decide +kernel, by decide⟩, qin 1028 (by decide +kernel) rfl, qin 36 (by decide +kernel) rfl⟩
theorem okX12_counts : qOKv YX12_counts 3 := ⟨⟨qin 1025 (by decide +kernel) rfl, qin 70 (by decide +kernel) rfl, ⟨by decide +kernel, by decide +kernel, by decide +kernel⟩, by decide +kernel, by decide⟩, qin 1024 (by decide +kernel) rfl, qin 35 (by decide +kernel) rfl⟩
theorem okX12_weds : qOKv YX12_weds 3 := ⟨⟨qin 1055 (by decide +kernel) rfl, qin 70 (by decide +kernel) rfl, ⟨by decide +kernel, by decide +kernel, by decide +kernel⟩, by decide +kernel, by decide⟩, qin 1054 (by decide +kernel) rfl, qin 41 (by decide +kernel) rfl⟩
theorem okX12_those : qOKv YX12_those 1 := ⟨⟨qin 1017 (by decide +kernel) rfl, qin 70 (by decide +kernel) rfl, ⟨by decide +kernel, by decide +kernel, by decide +kernel⟩, by decide +kernel, by decide⟩, qin 1016 (by decide +kernel) rfl, qin 33 (by decide +kernel) rfl⟩
theorem okX12_can : qOKv YX12_can 1 := ⟨⟨qin 1051 (by decide +kernel) rfl, qin 70 (by decide +kernel) rfl, ⟨by decide +kernel, by decide +kernel, by decide +kernel⟩, by decide +kernel, by decide⟩, qin 1050 (by decide +kernel) rfl, qin 40 (by decide +kernel) rfl⟩
theorem okX12_plain : qOKv YX12_plain 0 := ⟨⟨qin 1021 (by decide +kernel) rfl, qin 70 (by decide +kernel) rfl, ⟨by decide +kernel, by decide +kernel, by decide +kernel⟩, by decide +kernel, by decide⟩, qin 1020 (by decide +kernel) rfl, qin 34 (by decide +kernel) rfl⟩
theorem okX12_firmest : qOKv YX12_firmest 0 := ⟨⟨qin 1043 (by decide +kernel) rfl, qin 70 (by decide +kernel) rfl, ⟨by decide +kernel, by decide +kernel, by decide +kernel⟩, by decide +kernel, by decide⟩, qin 1042 (by decide +kernel) rfl, qin 38 (by decide +kernel) rfl⟩
theorem okX12_weakest : qOKv YX12_weakest 1 := ⟨⟨qin 1071 (by decide +kernel) rfl, qin 70 (by decide +kernel) rfl, ⟨by decide +kernel, by decide +kernel, by decide +kernel⟩, by decide +kernel, by decide⟩, qin 1070 (by decide +kernel) rfl, qin 43 (by decide +kernel) rfl⟩
theorem okX12_few : qOKv YX12_few 0 := ⟨⟨qin 1047 (by decide +kernel) rfl, qin 70 (by decide +kernel) rfl, ⟨by decide +kernel, by decide +kernel, by decide +kernel⟩, by decide +kernel, by decide⟩, qin 1046 (by decide +kernel) rfl, qin 39 (by decide +kernel) rfl⟩
theorem okX12_told : qOKv YX12_told 1 := ⟨⟨qin 1013 (by decide +kernel) rfl, qin 70 (by decide +kernel) rfl, ⟨by decide +kernel, by decide +kernel, by decide +kernel⟩, by decide +kernel, by decide⟩, qin 1011 (by decide +kernel) rfl, qin 1012 (by decide +kernel) rfl⟩
theorem okX12_couple : qOKv YX12_couple 2 := ⟨⟨qin 1062 (by decide +kernel) rfl, qin 70 (by decide +kernel) rfl, ⟨by decide +kernel, by decide +kernel, by decide +kernel⟩, by decide +kernel, by decide⟩, qin 1060 (by decide +kernel) rfl, qin 1061 (by decide +kernel) rfl⟩
theorem okX12_objector : qOKv YX12_objector 2 := ⟨⟨qin 1075 (by decide +kernel) rfl, qin 70 (by decide +kernel) rfl, ⟨by decide +kernel, by decide +kernel, by decide +kernel⟩, by decide +kernel, by decide⟩, qin 1073 (by decide +kernel) rfl, qin 1074 (by decide +kernel) rfl⟩
theorem okX12_box : qOKv YX12_box 2 := ⟨⟨qin 1083 (by decide +kernel) rfl, qin 70 (by decide +kernel) rfl, ⟨by decide +kernel, by decide +kernel, by decide +kernel⟩, by decide +kernel, by decide⟩, qin 1081 (by decide +kernel) rfl, qin 1082 (by decide +kernel) rfl⟩
theorem okX12_against : qOKv YX12_against 3 := ⟨⟨qin 1088 (by decide +kernel) rfl, qin 70 (by decide +kernel) rfl, ⟨by decide +kernel, by decide +kernel, by decide +kernel⟩, by decide +kernel, by decide⟩, qin 1086 (by decide +kernel) rfl, qin 1087 (by decide +kernel) rfl⟩
theorem okX12_remember : qOKv YX12_remember 0 := ⟨⟨qin 1101 (by decide +kernel) rfl, qin 70 (by decide +kernel) rfl, ⟨by decide +kernel, by decide +kernel, by decide +kernel⟩, by decide +kernel, by decide⟩, qin 1100 (by decide +kernel) rfl, qin 46 (by decide +kernel) rfl⟩
theorem okX12_boxes : qOKv YX12_boxes 3 := ⟨⟨qin 1109 (by decide +kernel) rfl, qin 70 (by decide +kernel) rfl, ⟨by decide +kernel, by decide +kernel, by decide +kernel⟩, by decide +kernel, by decide⟩, qin 1108 (by decide +kernel) rfl, qin 48 (by decide +kernel) rfl⟩
theorem okX12_mayStand : qOKv YX12_mayStand 2 := ⟨⟨qin 1096 (by decide +kernel) rfl, qin 70 (by decide +kernel) rfl, ⟨by decide +kernel, by decide +kernel, by decide +kernel⟩, by decide +kernel, by decide⟩, qin 1095 (by decide +kernel) rfl, qin 45 (by decide +kernel) rfl⟩
theorem okX12_stands : qOKv YX12_stands 3 := ⟨⟨qin 1105 (by decide +kernel) rfl, qin 70 (by decide +kernel) rfl, ⟨by decide +kernel, by decide +kernel, by decide +kernel⟩, by decide +kernel, by decide⟩, qin 1104 (by decide +kernel) rfl, qin 47 (by decide +kernel) rfl⟩
theorem okX12_stand : qOKv YX12_stand 2 := ⟨⟨qin 1092 (by decide +kernel) rfl, qin 70 (by decide +kernel) rfl, ⟨by decide +kernel, by decide +kernel, by decide +kernel⟩, by decide +kernel, by decide⟩, qin 1090 (by decide +kernel) rfl, qin 1091 (by decide +kernel) rfl⟩
theorem okX12_yearGoes : qOKv YX12_yearGoes 1 := ⟨⟨qin 1122 (by decide +kernel) rfl, qin 70 (by decide +kernel) rfl, ⟨by decide +kernel, by decide +kernel, by decide +kernel⟩, by decide +kernel, by decide⟩, qin 1121 (by decide +kernel) rfl, qin 50 (by decide +kernel) rfl⟩
theorem okX12_refuses : qOKv YX12_refuses 1 := ⟨⟨qin 1117 (by decide +kernel) rfl, qin 70 (by decide +kernel) rfl, ⟨by decide +kernel, by decide +kernel, by decide +kernel⟩, by decide +kernel, by decide⟩, qin 1116 (by decide +kernel) rfl, qin 49 (by decide +kernel) rfl⟩
theorem okX12_year : qOKv YX12_year 1 := ⟨⟨qin 1113 (by decide +kernel) rfl, qin 70 (by decide +kernel) rfl, ⟨by decide +kernel, by decide +kernel, by decide +kernel⟩, by decide +kernel, by decide⟩, qin 1111 (by decide +kernel) rfl, qin 1112 (by decide +kernel) rfl⟩
theorem okX12_teach : qOKv YX12_teach 3 := ⟨⟨qin 1129 (by decide +kernel) rfl, qin 70 (by decide +kernel) rfl, ⟨by decide +kernel, by decide +kernel, by decide +kernel⟩, by decide +kernel, by decide⟩, qin 1127 (by decide +kernel) rfl, qin 1128 (by decide +kernel) rfl⟩
theorem okX12_hear : qOKv YX12_hear 3 := ⟨⟨qin 1133 (by decide +kernel) rfl, qin 70 (by decide +kernel) rfl, ⟨by decide +kernel, by decide +kernel, by decide +kernel⟩, by decide +kernel, by decide⟩, qin 1131 (by decide +kernel) rfl, qin 1132 (by decide +kernel) rfl⟩
theorem okX12_practise : qOKv YX12_practise 2 := ⟨⟨qin 1138 (by decide +kernel) rfl, qin 70 (by decide +kernel) rfl, ⟨by decide +kernel, by decide +kernel, by decide +kernel⟩, by decide +kernel, by decide⟩, qin 1136 (by decide +kernel) rfl, qin 1137 (by decide +kernel) rfl⟩
theorem okX12_sour : qOKv YX12_sour 2 := ⟨⟨qin 1143 (by decide +kernel) rfl, qin 70 (by decide +kernel) rfl, ⟨by decide +kernel, by decide +kernel, by decide +kernel⟩, by decide +kernel, by decide⟩, qin 1141 (by decide +kernel) rfl, qin 1142 (by decide +kernel) rfl⟩
theorem okX12_draw : qOKv YX12_draw 1 := ⟨⟨qin 1156 (by decide +kernel) rfl, qin 70 (by decide +kernel) rfl, ⟨by decide +kernel, by decide +kernel, by decide +kernel⟩, by decide +kernel, by decide⟩, qin 1155 (by decide +kernel) rfl, qin 52 (by decide +kernel) rfl⟩
theorem okX12_draws : qOKv YX12_draws 0 := ⟨⟨qin 1152 (by decide +kernel) rfl, qin 70 (by decide +kernel) rfl, ⟨by decide +kernel, by decide +kernel, by decide +kernel⟩, by decide +kernel, by decide⟩, qin 1151 (by decide +kernel) rfl, qin 51 (by decide +kernel) rfl⟩
theorem okX12_drift : qOKv YX12_drift 1 := ⟨⟨qin 1148 (by decide +kernel) rfl, qin 70 (by decide +kernel) rfl, ⟨by decide +kernel, by decide +kernel, by decide +kernel⟩, by decide +kernel, by decide⟩, qin 1146 (by decide +kernel) rfl, qin 1147 (by decide +kernel) rfl⟩
theorem okX12_undo : qOKv YX12_undo 0 := ⟨⟨qin 1164 (by decide +kernel) rfl, qin 70 (by decide +kernel) rfl, ⟨by decide +kernel, by decide +kernel, by decide +kernel⟩, by decide +kernel, by decide⟩, qin 1162 (by decide +kernel) rfl, qin 1163 (by decide +kernel) rfl⟩
theorem okX12_layAside : qOKv YX12_layAside 0 := ⟨⟨qin 1172 (by decide +kernel) rfl, qin 70 (by decide +kernel) rfl, ⟨by decide +kernel, by decide +kernel, by decide +kernel⟩, by decide +kernel, by decide⟩, qin 1171 (by decide +kernel) rfl, qin 53 (by decide +kernel) rfl⟩
theorem okX12_soonest : qOKv YX12_soonest 2 := ⟨⟨qin 1168 (by decide +kernel) rfl, qin 70 (by decide +kernel) rfl, ⟨by decide +kernel, by decide +kernel, by decide +kernel⟩, by decide +kernel, by decide⟩, qin 1166 (by decide +kernel) rfl, qin 1167 (by decide +kernel) rfl⟩
theorem okX12_weighsMatches : qOKv YX12_weighsMatches 0 := ⟨⟨qin 1181 (by decide +kernel) rfl, qin 70 (by decide +kernel) rfl, ⟨by decide +kernel, by decide +kernel, by decide +kernel⟩, by decide +kernel, by decide⟩, qin 1180 (by decide +kernel) rfl, qin 54 (by decide +kernel) rfl⟩
theorem okX12_matched : qOKv YX12_matched 1 := ⟨⟨qin 1188 (by decide +kernel) rfl, qin 70 (by decide +kernel) rfl, ⟨by decide +kernel, by decide +kernel, by decide +kernel⟩, by decide +kernel, by decide⟩, qin 1187 (by decide +kernel) rfl, qin 55 (by decide +kernel) rfl⟩
theorem okX12_match : qOKv YX12_match 1 := ⟨⟨qin 1176 (by decide +kernel) rfl, qin 70 (by decide +kernel) rfl, ⟨by decide +kernel, by decide +kernel, by decide +kernel⟩, by decide +kernel, by decide⟩, qin 1174 (by decide +kernel) rfl, qin 1175 (by decide +kernel) rfl⟩
theorem okX12_nextOrder : qOKv YX12_nextOrder 1 := ⟨⟨qin 1196 (by decide +kernel) rfl, qin 70 (by decide +kernel) rfl, ⟨by decide +kernel, by decide +kernel, by decide +kernel⟩, by decide +kernel, by decide⟩, qin 1195 (by decide +kernel) rfl, qin 56 (by decide +kernel) rfl⟩
theorem okX12_rounds : qOKv YX12_rounds 3 := ⟨⟨qin 1192 (by decide +kernel) rfl, qin 70 (by decide +kernel) rfl, ⟨by decide +kernel, by decide +kernel, by decide +kernel⟩, by decide +kernel, by decide⟩, qin 1190 (by decide +kernel) rfl, qin 1191 (by decide +kernel) rfl⟩
theorem okX12_holds : qOKv YX12_holds 2 := ⟨⟨qin 1200 (by decide +kernel) rfl, qin 70 (by decide +kernel) rfl, ⟨by decide +kernel, by decide +kernel, by decide +kernel⟩, by decide +kernel, by decide⟩, qin 1198 (by decide +kernel) rfl, qin 1199 (by decide +kernel) rfl⟩
theorem okX12_dry : qOKv YX12_dry 2 := ⟨⟨qin 1204 (by decide +kernel) rfl, qin 70 (by decide +kernel) rfl, ⟨by decide +kernel, by decide +kernel, by decide +kernel⟩, by decide +kernel, by decide⟩, qin 1202 (by decide +kernel) rfl, qin 1203 (by decide +kernel) rfl⟩
theorem okX12_say : qOKv YX12_say 3 := ⟨⟨qin 1210 (by decide +kernel) rfl, qin 70 (by decide +kernel) rfl, ⟨by decide +kernel, by decide +kernel, by decide +kernel⟩, by decide +kernel, by decide⟩, qin 1208 (by decide +kernel) rfl, qin 1209 (by decide +kernel) rfl⟩
theorem okX12_isSo : qOKv YX12_isSo 1 := ⟨⟨qin 1219 (by decide +kernel) rfl, qin 70 (by decide +kernel) rfl, ⟨by decide +kernel, by decide +kernel, by decide +kernel⟩, by decide +kernel, by decide⟩, qin 1218 (by decide +kernel) rfl, qin 57 (by decide +kernel) rfl⟩
theorem okX12_weights : qOKv YX12_weights 1 := ⟨⟨qin 1215 (by decide +kernel) rfl, qin 70 (by decide +kernel) rfl, ⟨by decide +kernel, by decide +kernel, by decide +kernel⟩, by decide +kernel, by decide⟩, qin 1213 (by decide +kernel) rfl, qin 1214 (by decide +kernel) rfl⟩
theorem okX12_ask : qOKv YX12_ask 0 := ⟨⟨qin 1223 (by decide +kernel) rfl, qin 70 (by decide +kernel) rfl, ⟨by decide +kernel, by decide +kernel, by decide +kernel⟩, by decide +kernel, by decide⟩, qin 1221 (by decide +kernel) rfl, qin 1222 (by decide +kernel) rfl⟩
theorem okX12_write : qOKv YX12_write 2 := ⟨⟨qin 1228 (by decide +kernel) rfl, qin 70 (by decide +kernel) rfl, ⟨by decide +kernel, by decide +kernel, by decide +kernel⟩, by decide +kernel, by decide⟩, qin 1226 (by decide +kernel) rfl, qin 1227 (by decide +kernel) rfl⟩
theorem okX12_tear : qOKv YX12_tear 0 := ⟨⟨qin 1232 (by decide +kernel) rfl, qin 70 (by decide +kernel) rfl, ⟨by decide +kernel, by decide +kernel, by decide +kernel⟩, by decide +kernel, by decide⟩, qin 1230 (by decide +kernel) rfl, qin 1231 (by decide +kernel) rfl⟩
theorem okX12_judge : qOKv YX12_judge 0 := ⟨⟨qin 1236 (by decide +kernel) rfl, qin 70 (by decide +kernel) rfl, ⟨by decide +kernel, by decide +kernel, by decide +kernel⟩, by decide +kernel, by decide⟩, qin 1234 (by decide +kernel) rfl, qin 1235 (by decide +kernel) rfl⟩
theorem okX12_seed : qOKv YX12_seed 1 := ⟨⟨qin 1240 (by decide +kernel) rfl, qin 70 (by decide +kernel) rfl, ⟨by decide +kernel, by decide +kernel, by decide +kernel⟩, by decide +kernel, by decide⟩, qin 1238 (by decide +kernel) rfl, qin 1239 (by decide +kernel) rfl⟩
theorem okX12_keep : qOKv YX12_keep 1 := ⟨⟨qin 1244 (by decide +kernel) rfl, qin 70 (by decide +kernel) rfl, ⟨by decide +kernel, by decide +kernel, by decide +kernel⟩, by decide +kernel, by decide⟩, qin 1242 (by decide +kernel) rfl, qin 1243 (by decide +kernel) rfl⟩
theorem okX12_goBack : qOKv YX12_goBack 1 := ⟨⟨qin 1248 (by decide +kernel) rfl, qin 70 (by decide +kernel) rfl, ⟨by decide +kernel, by decide +kernel, by decide +kernel⟩, by decide +kernel, by decide⟩, qin 1246 (by decide +kernel) rfl, qin 1247 (by decide +kernel) rfl⟩
theorem okJ6_bitCount_0f7a4 : qOKs YJ6_bitCount_0f7a4 1 := ⟨⟨qin 505 (by decide +kernel) rfl, qin 75 (by decide +kernel) rfl, ⟨by decide +kernel, by decide +kernel, by decide +kernel⟩, by decide +kernel, by decide⟩, qin 504 (by decide +kernel) rfl⟩
theorem okJ7_fill_53178 : qOKs YJ7_fill_53178 2 := ⟨⟨qin 296 (by decide +kernel) rfl, qin 71 (by decide +kernel) rfl, ⟨by decide +kernel, by decide +kernel, by decide +kernel⟩, by decide +kernel, by decide⟩, qin 295 (by decide +kernel) rfl⟩
theorem ini_L : Cond.initialized RL ∈ qT := qin 58 (by decide +kernel) rfl
theorem ini_X11 : Cond.initialized RX11 ∈ qT := qin 59 (by decide +kernel) rfl
theorem ini_X5 : Cond.initialized RX5 ∈ qT := qin 60 (by decide +kernel) rfl
theorem ini_X7 : Cond.initialized RX7 ∈ qT := qin 61 (by decide +kernel) rfl
theorem ini_X6 : Cond.initialized RX6 ∈ qT := qin 62 (by decide +kernel) rfl
theorem ini_X3 : Cond.initialized RX3 ∈ qT := qin 63 (by decide +kernel) rfl
theorem ini_X2 : Cond.initialized RX2 ∈ qT := qin 64 (by decide +kernel) rfl
theorem ini_X4 : Cond.initialized RX4 ∈ qT := qin 65 (by decide +kernel) rfl
theorem ini_X8 : Cond.initialized RX8 ∈ qT := qin 66 (by decide +kernel) rfl
theorem ini_X1 : Cond.initialized RX1 ∈ qT := qin 67 (by decide +kernel) rfl
theorem ini_X9 : Cond.initialized RX9 ∈ qT := qin 68 (by decide +kernel) rfl
theorem ini_X0 : Cond.initialized RX0 ∈ qT := qin 69 (by decide +kernel) rfl
theorem ini_X12 : Cond.initialized RX12 ∈ qT := qin 70 (by decide +kernel) rfl
theorem ini_J7 : Cond.initialized RJ7 ∈ qT := qin 71 (by decide +kernel) rfl
theorem ini_J10 : Cond.initialized RJ10 ∈ qT := qin 72 (by decide +kernel) rfl
theorem ini_X10 : Cond.initialized RX10 ∈ qT := qin 73 (by decide +kernel) rfl
theorem ini_J9 : Cond.initialized RJ9 ∈ qT := qin 74 (by decide +kernel) rfl
theorem ini_J6 : Cond.initialized RJ6 ∈ qT := qin 75 (by decide +kernel) rfl
theorem lk_L_7 : Cond.classLink RL 7 RX11 ∈ qT := qin 76 (by decide +kernel) rfl
theorem ins_X11 : Cond.instantiable RX11 10 ∈ qT := qin 77 (by decide +kernel) rfl
theorem lk_L_9 : Cond.methodLink RL 9 yX11_init ∈ qT := qin 78 (by decide +kernel) rfl
theorem lk_X11_1 : Cond.methodLink RX11 1 Lib.objectInit ∈ qT := qin 81 (by decide +kernel) rfl
theorem lk_X11_7 : Cond.classLink RX11 7 RX5 ∈ qT := qin 84 (by decide +kernel) rfl
theorem ins_X5 : Cond.instantiable RX5 1 ∈ qT := qin 85 (by decide +kernel) rfl
theorem lk_X5_5 : Cond.methodLink RX5 5 Lib.objectInit ∈ qT := qin 89 (by decide +kernel) rfl
theorem lk_X5_11 : Cond.fieldLink RX5 11 "WeddingReasons$Parish" "row" "[I" ∈ qT := qin 90 (by decide +kernel) rfl
theorem lk_X11_100 : Cond.fieldLink RX11 100 "WeddingReasons$Parish" "row" "[I" ∈ qT := qin 91 (by decide +kernel) rfl
theorem acl_int : Cond.arrayClass .int ∈ qT := qin 95 (by decide +kernel) rfl
theorem lk_X11_16 : Cond.classLink RX11 16 RX7 ∈ qT := qin 96 (by decide +kernel) rfl
theorem ins_X7 : Cond.instantiable RX7 6 ∈ qT := qin 97 (by decide +kernel) rfl
theorem lk_X7_3 : Cond.methodLink RX7 3 Lib.objectInit ∈ qT := qin 101 (by decide +kernel) rfl
theorem lk_X7_9 : Cond.classLink RX7 9 RX5 ∈ qT := qin 102 (by decide +kernel) rfl
theorem lk_X7_12 : Cond.fieldLink RX7 12 "WeddingReasons$Reader" "made" "LWeddingReasons$Parish;" ∈ qT := qin 104 (by decide +kernel) rfl
theorem lk_X11_97 : Cond.fieldLink RX11 97 "WeddingReasons$Reader" "made" "LWeddingReasons$Parish;" ∈ qT := qin 105 (by decide +kernel) rfl
theorem lk_X7_18 : Cond.fieldLink RX7 18 "WeddingReasons$Reader" "length" "I" ∈ qT := qin 106 (by decide +kernel) rfl
theorem lk_X11_129 : Cond.fieldLink RX11 129 "WeddingReasons$Reader" "length" "I" ∈ qT := qin 107 (by decide +kernel) rfl
theorem lk_X7_22 : Cond.fieldLink RX7 22 "WeddingReasons$Reader" "faultAt" "I" ∈ qT := qin 108 (by decide +kernel) rfl
theorem lk_X11_119 : Cond.fieldLink RX11 119 "WeddingReasons$Reader" "faultAt" "I" ∈ qT := qin 109 (by decide +kernel) rfl
theorem lk_X7_25 : Cond.fieldLink RX7 25 "WeddingReasons$Reader" "text" "[I" ∈ qT := qin 110 (by decide +kernel) rfl
theorem lk_X7_29 : Cond.fieldLink RX7 29 "WeddingReasons$Reader" "at" "I" ∈ qT := qin 111 (by decide +kernel) rfl
theorem lk_X7_32 : Cond.fieldLink RX7 32 "WeddingReasons$Reader" "faultNumber" "I" ∈ qT := qin 112 (by decide +kernel) rfl
theorem lk_X11_23 : Cond.classLink RX11 23 RX6 ∈ qT := qin 126 (by decide +kernel) rfl
theorem ins_X6 : Cond.instantiable RX6 3 ∈ qT := qin 127 (by decide +kernel) rfl
theorem lk_X6_1 : Cond.methodLink RX6 1 Lib.objectInit ∈ qT := qin 131 (by decide +kernel) rfl
theorem lk_X6_7 : Cond.fieldLink RX6 7 "WeddingReasons$Past" "count" "I" ∈ qT := qin 132 (by decide +kernel) rfl
theorem lk_X11_160 : Cond.fieldLink RX11 160 "WeddingReasons$Past" "count" "I" ∈ qT := qin 133 (by decide +kernel) rfl
theorem lk_X6_13 : Cond.fieldLink RX6 13 "WeddingReasons$Past" "next" "I" ∈ qT := qin 134 (by decide +kernel) rfl
theorem lk_X6_18 : Cond.fieldLink RX6 18 "WeddingReasons$Past" "rows" "[I" ∈ qT := qin 135 (by decide +kernel) rfl
theorem lk_X11_30 : Cond.classLink RX11 30 RX3 ∈ qT := qin 143 (by decide +kernel) rfl
theorem ins_X3 : Cond.instantiable RX3 3 ∈ qT := qin 144 (by decide +kernel) rfl
theorem lk_X3_1 : Cond.methodLink RX3 1 Lib.objectInit ∈ qT := qin 148 (by decide +kernel) rfl
theorem lk_X3_11 : Cond.fieldLink RX3 11 "WeddingReasons$Images" "rows" "[I" ∈ qT := qin 149 (by decide +kernel) rfl
theorem lk_X3_15 : Cond.fieldLink RX3 15 "WeddingReasons$Images" "seeds" "[I" ∈ qT := qin 150 (by decide +kernel) rfl
theorem lk_X3_18 : Cond.fieldLink RX3 18 "WeddingReasons$Images" "kept" "I" ∈ qT := qin 151 (by decide +kernel) rfl
theorem lk_X11_37 : Cond.classLink RX11 37 RX2 ∈ qT := qin 159 (by decide +kernel) rfl
theorem ins_X2 : Cond.instantiable RX2 1 ∈ qT := qin 160 (by decide +kernel) rfl
theorem lk_X2_3 : Cond.methodLink RX2 3 Lib.objectInit ∈ qT := qin 164 (by decide +kernel) rfl
theorem lk_X2_9 : Cond.fieldLink RX2 9 "WeddingReasons$Draws" "state" "I" ∈ qT := qin 165 (by decide +kernel) rfl
theorem lk_X11_312 : Cond.fieldLink RX11 312 "WeddingReasons$Draws" "state" "I" ∈ qT := qin 166 (by decide +kernel) rfl
theorem lk_X11_44 : Cond.classLink RX11 44 RX4 ∈ qT := qin 170 (by decide +kernel) rfl
theorem ins_X4 : Cond.instantiable RX4 2 ∈ qT := qin 171 (by decide +kernel) rfl
theorem lk_X4_3 : Cond.methodLink RX4 3 Lib.objectInit ∈ qT := qin 175 (by decide +kernel) rfl
theorem lk_X4_11 : Cond.fieldLink RX4 11 "WeddingReasons$Matching" "best" "[I" ∈ qT := qin 176 (by decide +kernel) rfl
theorem lk_X4_15 : Cond.fieldLink RX4 15 "WeddingReasons$Matching" "gains" "[I" ∈ qT := qin 177 (by decide +kernel) rfl
theorem lk_X11_51 : Cond.classLink RX11 51 RX8 ∈ qT := qin 183 (by decide +kernel) rfl
theorem ins_X8 : Cond.instantiable RX8 1 ∈ qT := qin 184 (by decide +kernel) rfl
theorem lk_X8_3 : Cond.methodLink RX8 3 Lib.objectInit ∈ qT := qin 188 (by decide +kernel) rfl
theorem lk_X8_9 : Cond.fieldLink RX8 9 "WeddingReasons$Round" "best" "[I" ∈ qT := qin 189 (by decide +kernel) rfl
theorem lk_X11_58 : Cond.classLink RX11 58 RX1 ∈ qT := qin 193 (by decide +kernel) rfl
theorem ins_X1 : Cond.instantiable RX1 1 ∈ qT := qin 194 (by decide +kernel) rfl
theorem lk_X1_3 : Cond.methodLink RX1 3 Lib.objectInit ∈ qT := qin 198 (by decide +kernel) rfl
theorem lk_X1_9 : Cond.fieldLink RX1 9 "WeddingReasons$Cover" "cans" "[I" ∈ qT := qin 199 (by decide +kernel) rfl
theorem lk_X11_65 : Cond.classLink RX11 65 RX9 ∈ qT := qin 203 (by decide +kernel) rfl
theorem ins_X9 : Cond.instantiable RX9 2 ∈ qT := qin 204 (by decide +kernel) rfl
theorem lk_X9_3 : Cond.methodLink RX9 3 Lib.objectInit ∈ qT := qin 208 (by decide +kernel) rfl
theorem lk_X9_9 : Cond.fieldLink RX9 9 "WeddingReasons$Sayings" "count" "I" ∈ qT := qin 209 (by decide +kernel) rfl
theorem lk_X11_156 : Cond.fieldLink RX11 156 "WeddingReasons$Sayings" "count" "I" ∈ qT := qin 210 (by decide +kernel) rfl
theorem lk_X9_15 : Cond.fieldLink RX9 15 "WeddingReasons$Sayings" "said" "[I" ∈ qT := qin 211 (by decide +kernel) rfl
theorem lk_X11_72 : Cond.classLink RX11 72 RX0 ∈ qT := qin 217 (by decide +kernel) rfl
theorem ins_X0 : Cond.instantiable RX0 3 ∈ qT := qin 218 (by decide +kernel) rfl
theorem lk_X0_3 : Cond.methodLink RX0 3 Lib.objectInit ∈ qT := qin 222 (by decide +kernel) rfl
theorem lk_X0_9 : Cond.fieldLink RX0 9 "WeddingReasons$Book" "count" "I" ∈ qT := qin 223 (by decide +kernel) rfl
theorem lk_X11_159 : Cond.fieldLink RX11 159 "WeddingReasons$Book" "count" "I" ∈ qT := qin 224 (by decide +kernel) rfl
theorem lk_X0_15 : Cond.fieldLink RX0 15 "WeddingReasons$Book" "couples" "[I" ∈ qT := qin 225 (by decide +kernel) rfl
theorem lk_X0_19 : Cond.fieldLink RX0 19 "WeddingReasons$Book" "answers" "[I" ∈ qT := qin 226 (by decide +kernel) rfl
theorem lk_X11_10 : Cond.fieldLink RX11 10 "WeddingReasons" "now" "LWeddingReasons$Parish;" ∈ qT := qin 234 (by decide +kernel) rfl
theorem lk_X11_19 : Cond.fieldLink RX11 19 "WeddingReasons" "reader" "LWeddingReasons$Reader;" ∈ qT := qin 235 (by decide +kernel) rfl
theorem lk_X11_26 : Cond.fieldLink RX11 26 "WeddingReasons" "past" "LWeddingReasons$Past;" ∈ qT := qin 236 (by decide +kernel) rfl
theorem lk_X11_33 : Cond.fieldLink RX11 33 "WeddingReasons" "images" "LWeddingReasons$Images;" ∈ qT := qin 237 (by decide +kernel) rfl
theorem lk_X11_40 : Cond.fieldLink RX11 40 "WeddingReasons" "draws" "LWeddingReasons$Draws;" ∈ qT := qin 238 (by decide +kernel) rfl
theorem lk_X11_47 : Cond.fieldLink RX11 47 "WeddingReasons" "matching" "LWeddingReasons$Matching;" ∈ qT := qin 239 (by decide +kernel) rfl
theorem lk_X11_54 : Cond.fieldLink RX11 54 "WeddingReasons" "round" "LWeddingReasons$Round;" ∈ qT := qin 240 (by decide +kernel) rfl
theorem lk_X11_61 : Cond.fieldLink RX11 61 "WeddingReasons" "cover" "LWeddingReasons$Cover;" ∈ qT := qin 241 (by decide +kernel) rfl
theorem lk_X11_68 : Cond.fieldLink RX11 68 "WeddingReasons" "sayings" "LWeddingReasons$Sayings;" ∈ qT := qin 242 (by decide +kernel) rfl
theorem lk_X11_75 : Cond.fieldLink RX11 75 "WeddingReasons" "book" "LWeddingReasons$Book;" ∈ qT := qin 243 (by decide +kernel) rfl
theorem lk_L_13 : Cond.methodLink RL 13 yX11_feed ∈ qT := qin 265 (by decide +kernel) rfl
theorem lk_X11_79 : Cond.methodLink RX11 79 yX11_isOutside ∈ qT := qin 269 (by decide +kernel) rfl
theorem lk_X11_83 : Cond.constant RX11 83 (-1000000002) ∈ qT := qin 272 (by decide +kernel) rfl
theorem lk_X11_84 : Cond.methodLink RX11 84 yX7_isFull ∈ qT := qin 273 (by decide +kernel) rfl
theorem lk_X11_88 : Cond.constant RX11 88 (-1000000004) ∈ qT := qin 277 (by decide +kernel) rfl
theorem lk_X11_89 : Cond.methodLink RX11 89 yX7_put ∈ qT := qin 278 (by decide +kernel) rfl
theorem lk_L_18 : Cond.methodLink RL 18 yX11_deanery ∈ qT := qin 282 (by decide +kernel) rfl
theorem lk_X11_93 : Cond.methodLink RX11 93 yX7_readText ∈ qT := qin 286 (by decide +kernel) rfl
theorem lk_X7_35 : Cond.methodLink RX7 35 yX5_clear ∈ qT := qin 290 (by decide +kernel) rfl
theorem lk_X5_15 : Cond.methodLink RX5 15 yJ7_fill_53178 ∈ qT := qin 294 (by decide +kernel) rfl
theorem lk_X7_38 : Cond.methodLink RX7 38 yX7_skipBlanks ∈ qT := qin 297 (by decide +kernel) rfl
theorem lk_X7_41 : Cond.methodLink RX7 41 yX7_readClause ∈ qT := qin 301 (by decide +kernel) rfl
theorem lk_X7_44 : Cond.methodLink RX7 44 yX7_faultOfWord ∈ qT := qin 305 (by decide +kernel) rfl
theorem lk_X7_61 : Cond.methodLink RX7 61 yX5_least ∈ qT := qin 309 (by decide +kernel) rfl
theorem lk_X7_65 : Cond.methodLink RX7 65 yX5_couples ∈ qT := qin 313 (by decide +kernel) rfl
theorem lk_X7_68 : Cond.methodLink RX7 68 yX7_faultOfMore ∈ qT := qin 317 (by decide +kernel) rfl
theorem lk_X7_72 : Cond.methodLink RX7 72 yX5_objectors ∈ qT := qin 320 (by decide +kernel) rfl
theorem lk_X7_48 : Cond.methodLink RX7 48 yX7_fail ∈ qT := qin 324 (by decide +kernel) rfl
theorem lk_X7_52 : Cond.methodLink RX7 52 yX7_readLeast ∈ qT := qin 328 (by decide +kernel) rfl
theorem lk_X7_75 : Cond.methodLink RX7 75 yX7_number ∈ qT := qin 332 (by decide +kernel) rfl
theorem lk_X7_99 : Cond.methodLink RX7 99 yX7_isFigure ∈ qT := qin 336 (by decide +kernel) rfl
theorem lk_X7_79 : Cond.methodLink RX7 79 yX7_expect ∈ qT := qin 339 (by decide +kernel) rfl
theorem lk_X7_83 : Cond.methodLink RX7 83 yX5_setLeast ∈ qT := qin 343 (by decide +kernel) rfl
theorem lk_X7_55 : Cond.methodLink RX7 55 yX7_readCouple ∈ qT := qin 347 (by decide +kernel) rfl
theorem lk_X7_86 : Cond.methodLink RX7 86 yX5_setAnswer ∈ qT := qin 351 (by decide +kernel) rfl
theorem lk_X7_89 : Cond.methodLink RX7 89 yX5_setWeight ∈ qT := qin 355 (by decide +kernel) rfl
theorem lk_X7_93 : Cond.methodLink RX7 93 yX5_addCouple ∈ qT := qin 359 (by decide +kernel) rfl
theorem lk_X7_58 : Cond.methodLink RX7 58 yX7_readObjector ∈ qT := qin 363 (by decide +kernel) rfl
theorem lk_X7_96 : Cond.methodLink RX7 96 yX5_addObjector ∈ qT := qin 367 (by decide +kernel) rfl
theorem lk_X11_104 : Cond.methodLink RX11 104 yX5_copyFrom ∈ qT := qin 371 (by decide +kernel) rfl
theorem lk_X5_21 : Cond.methodLink RX5 21 arraycopyName ∈ qT := qin 375 (by decide +kernel) rfl
theorem nat_copy : Cond.native arraycopyName ∈ qT := qin 377 (by decide +kernel) rfl
theorem lk_X11_108 : Cond.methodLink RX11 108 yX6_forget ∈ qT := qin 378 (by decide +kernel) rfl
theorem lk_X11_111 : Cond.methodLink RX11 111 yX3_forget ∈ qT := qin 382 (by decide +kernel) rfl
theorem lk_X11_112 : Cond.methodLink RX11 112 yX9_clear ∈ qT := qin 386 (by decide +kernel) rfl
theorem lk_X11_115 : Cond.methodLink RX11 115 yX0_clear ∈ qT := qin 390 (by decide +kernel) rfl
theorem lk_X11_116 : Cond.methodLink RX11 116 yX5_couples ∈ qT := qin 394 (by decide +kernel) rfl
theorem lk_L_23 : Cond.methodLink RL 23 yX11_fault ∈ qT := qin 395 (by decide +kernel) rfl
theorem lk_L_27 : Cond.methodLink RL 27 yX11_told ∈ qT := qin 399 (by decide +kernel) rfl
theorem lk_X11_123 : Cond.methodLink RX11 123 yX5_least ∈ qT := qin 403 (by decide +kernel) rfl
theorem lk_X11_126 : Cond.methodLink RX11 126 yX5_objectors ∈ qT := qin 404 (by decide +kernel) rfl
theorem lk_X11_132 : Cond.methodLink RX11 132 yX5_years ∈ qT := qin 405 (by decide +kernel) rfl
theorem lk_X11_135 : Cond.methodLink RX11 135 yX5_couplesThat ∈ qT := qin 409 (by decide +kernel) rfl
theorem lk_X5_27 : Cond.methodLink RX5 27 yX5_couples ∈ qT := qin 413 (by decide +kernel) rfl
theorem lk_X5_31 : Cond.methodLink RX5 31 yX5_fate ∈ qT := qin 414 (by decide +kernel) rfl
theorem lk_X11_138 : Cond.methodLink RX11 138 yX5_stood ∈ qT := qin 418 (by decide +kernel) rfl
theorem lk_X11_141 : Cond.methodLink RX11 141 yX5_boxed ∈ qT := qin 422 (by decide +kernel) rfl
theorem lk_X11_144 : Cond.methodLink RX11 144 yX10_plain ∈ qT := qin 426 (by decide +kernel) rfl
theorem lk_X10_9 : Cond.methodLink RX10 9 yX5_objectors ∈ qT := qin 429 (by decide +kernel) rfl
theorem lk_X10_35 : Cond.methodLink RX10 35 yX5_couples ∈ qT := qin 430 (by decide +kernel) rfl
theorem lk_X10_38 : Cond.methodLink RX10 38 yX5_waits ∈ qT := qin 431 (by decide +kernel) rfl
theorem lk_X10_42 : Cond.methodLink RX10 42 yX10_safeAnswer ∈ qT := qin 435 (by decide +kernel) rfl
theorem lk_X10_21 : Cond.methodLink RX10 21 yX5_objects ∈ qT := qin 438 (by decide +kernel) rfl
theorem lk_X5_60 : Cond.methodLink RX5 60 yX5_strengthIn ∈ qT := qin 442 (by decide +kernel) rfl
theorem lk_X5_45 : Cond.methodLink RX5 45 yX5_reasonOf ∈ qT := qin 446 (by decide +kernel) rfl
theorem lk_X5_35 : Cond.methodLink RX5 35 yX5_kind ∈ qT := qin 450 (by decide +kernel) rfl
theorem lk_X5_38 : Cond.methodLink RX5 38 yX5_known ∈ qT := qin 454 (by decide +kernel) rfl
theorem lk_X5_41 : Cond.methodLink RX5 41 yX5_weight ∈ qT := qin 458 (by decide +kernel) rfl
theorem lk_X5_48 : Cond.methodLink RX5 48 yX5_skill ∈ qT := qin 462 (by decide +kernel) rfl
theorem lk_X5_51 : Cond.methodLink RX5 51 yJ9_min_7cf53 ∈ qT := qin 466 (by decide +kernel) rfl
theorem lk_X5_63 : Cond.methodLink RX5 63 yX5_least ∈ qT := qin 472 (by decide +kernel) rfl
theorem lk_X10_25 : Cond.methodLink RX10 25 yX5_strengthIn ∈ qT := qin 473 (by decide +kernel) rfl
theorem lk_X10_29 : Cond.methodLink RX10 29 yJ9_max_7cf53 ∈ qT := qin 474 (by decide +kernel) rfl
theorem lk_X11_150 : Cond.methodLink RX11 150 yX10_firmest ∈ qT := qin 477 (by decide +kernel) rfl
theorem lk_X10_46 : Cond.methodLink RX10 46 yX5_fate ∈ qT := qin 480 (by decide +kernel) rfl
theorem lk_X10_50 : Cond.methodLink RX10 50 yX5_strong ∈ qT := qin 481 (by decide +kernel) rfl
theorem lk_X11_153 : Cond.methodLink RX11 153 yX1_few ∈ qT := qin 485 (by decide +kernel) rfl
theorem lk_X1_15 : Cond.methodLink RX1 15 yX5_couples ∈ qT := qin 489 (by decide +kernel) rfl
theorem lk_X1_21 : Cond.methodLink RX1 21 yX10_can ∈ qT := qin 490 (by decide +kernel) rfl
theorem lk_X10_15 : Cond.methodLink RX10 15 yX5_wedIn ∈ qT := qin 493 (by decide +kernel) rfl
theorem lk_X5_66 : Cond.methodLink RX5 66 yX5_answer ∈ qT := qin 497 (by decide +kernel) rfl
theorem lk_X5_69 : Cond.methodLink RX5 69 yX5_waits ∈ qT := qin 501 (by decide +kernel) rfl
theorem lk_X1_27 : Cond.methodLink RX1 27 yX5_objectors ∈ qT := qin 502 (by decide +kernel) rfl
theorem lk_X1_30 : Cond.methodLink RX1 30 yJ6_bitCount_0f7a4 ∈ qT := qin 503 (by decide +kernel) rfl
theorem lk_J6_265 : Cond.constant RJ6 265 (1431655765) ∈ qT := qin 506 (by decide +kernel) rfl
theorem lk_J6_266 : Cond.constant RJ6 266 (858993459) ∈ qT := qin 507 (by decide +kernel) rfl
theorem lk_J6_267 : Cond.constant RJ6 267 (252645135) ∈ qT := qin 508 (by decide +kernel) rfl
theorem lk_X1_36 : Cond.methodLink RX1 36 yX1_weddable ∈ qT := qin 509 (by decide +kernel) rfl
theorem lk_X1_40 : Cond.methodLink RX1 40 yX5_waits ∈ qT := qin 513 (by decide +kernel) rfl
theorem lk_L_31 : Cond.methodLink RL 31 yX11_couple ∈ qT := qin 514 (by decide +kernel) rfl
theorem lk_X11_161 : Cond.methodLink RX11 161 yX5_hasCouple ∈ qT := qin 518 (by decide +kernel) rfl
theorem lk_X11_165 : Cond.constant RX11 165 (-1000000001) ∈ qT := qin 522 (by decide +kernel) rfl
theorem lk_X11_166 : Cond.methodLink RX11 166 yX5_weight ∈ qT := qin 523 (by decide +kernel) rfl
theorem lk_X11_170 : Cond.methodLink RX11 170 yX5_answer ∈ qT := qin 524 (by decide +kernel) rfl
theorem lk_X11_173 : Cond.methodLink RX11 173 yX5_fate ∈ qT := qin 525 (by decide +kernel) rfl
theorem lk_X11_176 : Cond.methodLink RX11 176 yX5_strong ∈ qT := qin 526 (by decide +kernel) rfl
theorem lk_X11_179 : Cond.methodLink RX11 179 yX10_can ∈ qT := qin 527 (by decide +kernel) rfl
theorem lk_X11_183 : Cond.methodLink RX11 183 yX10_weakest ∈ qT := qin 528 (by decide +kernel) rfl
theorem lk_L_36 : Cond.methodLink RL 36 yX11_objector ∈ qT := qin 531 (by decide +kernel) rfl
theorem lk_X11_186 : Cond.methodLink RX11 186 yX5_hasObjector ∈ qT := qin 535 (by decide +kernel) rfl
theorem lk_X11_189 : Cond.methodLink RX11 189 yX5_kind ∈ qT := qin 539 (by decide +kernel) rfl
theorem lk_X11_192 : Cond.methodLink RX11 192 yX5_skill ∈ qT := qin 540 (by decide +kernel) rfl
theorem lk_X11_195 : Cond.methodLink RX11 195 yX5_known ∈ qT := qin 541 (by decide +kernel) rfl
theorem lk_X11_198 : Cond.methodLink RX11 198 yX5_hasStood ∈ qT := qin 542 (by decide +kernel) rfl
theorem lk_L_40 : Cond.methodLink RL 40 yX11_box ∈ qT := qin 546 (by decide +kernel) rfl
theorem lk_X11_201 : Cond.methodLink RX11 201 yX5_fromBox ∈ qT := qin 550 (by decide +kernel) rfl
theorem lk_L_44 : Cond.methodLink RL 44 yX11_against ∈ qT := qin 554 (by decide +kernel) rfl
theorem lk_X11_204 : Cond.methodLink RX11 204 yX5_strengthIn ∈ qT := qin 558 (by decide +kernel) rfl
theorem lk_X11_208 : Cond.methodLink RX11 208 yX5_reasonOf ∈ qT := qin 559 (by decide +kernel) rfl
theorem lk_L_49 : Cond.methodLink RL 49 yX11_stand ∈ qT := qin 560 (by decide +kernel) rfl
theorem lk_X11_211 : Cond.methodLink RX11 211 yX5_mayStand ∈ qT := qin 564 (by decide +kernel) rfl
theorem lk_X5_73 : Cond.methodLink RX5 73 yX5_hasStood ∈ qT := qin 568 (by decide +kernel) rfl
theorem lk_X5_76 : Cond.methodLink RX5 76 yX5_objects ∈ qT := qin 569 (by decide +kernel) rfl
theorem lk_X11_215 : Cond.constant RX11 215 (-1000000003) ∈ qT := qin 570 (by decide +kernel) rfl
theorem lk_X11_216 : Cond.methodLink RX11 216 yX6_remember ∈ qT := qin 571 (by decide +kernel) rfl
theorem lk_X6_22 : Cond.methodLink RX6 22 yX5_copyTo ∈ qT := qin 575 (by decide +kernel) rfl
theorem lk_X6_26 : Cond.methodLink RX6 26 yJ9_min_7cf53 ∈ qT := qin 579 (by decide +kernel) rfl
theorem lk_X11_220 : Cond.methodLink RX11 220 yX5_standUp ∈ qT := qin 580 (by decide +kernel) rfl
theorem lk_X5_80 : Cond.methodLink RX5 80 yX5_wedIn ∈ qT := qin 584 (by decide +kernel) rfl
theorem lk_X5_84 : Cond.methodLink RX5 84 yX5_putIntoBox ∈ qT := qin 585 (by decide +kernel) rfl
theorem lk_X5_88 : Cond.methodLink RX5 88 yX5_years ∈ qT := qin 589 (by decide +kernel) rfl
theorem lk_L_53 : Cond.methodLink RL 53 yX11_year ∈ qT := qin 590 (by decide +kernel) rfl
theorem lk_X11_224 : Cond.methodLink RX11 224 yX11_refusalOfYears ∈ qT := qin 594 (by decide +kernel) rfl
theorem lk_X11_227 : Cond.methodLink RX11 227 yX5_passYear ∈ qT := qin 598 (by decide +kernel) rfl
theorem lk_X5_91 : Cond.methodLink RX5 91 yX5_setAnswer ∈ qT := qin 602 (by decide +kernel) rfl
theorem lk_X5_95 : Cond.methodLink RX5 95 yX5_objectors ∈ qT := qin 603 (by decide +kernel) rfl
theorem lk_X5_98 : Cond.methodLink RX5 98 yX5_setSkill ∈ qT := qin 604 (by decide +kernel) rfl
theorem lk_L_57 : Cond.methodLink RL 57 yX11_teach ∈ qT := qin 608 (by decide +kernel) rfl
theorem lk_X11_230 : Cond.methodLink RX11 230 yX5_setKnown ∈ qT := qin 612 (by decide +kernel) rfl
theorem lk_L_62 : Cond.methodLink RL 62 yX11_hear ∈ qT := qin 616 (by decide +kernel) rfl
theorem lk_X11_233 : Cond.methodLink RX11 233 yX5_setWeight ∈ qT := qin 620 (by decide +kernel) rfl
theorem lk_L_66 : Cond.methodLink RL 66 yX11_practise ∈ qT := qin 621 (by decide +kernel) rfl
theorem lk_X11_237 : Cond.methodLink RX11 237 yX5_waits ∈ qT := qin 625 (by decide +kernel) rfl
theorem lk_X11_240 : Cond.methodLink RX11 240 yX5_setAnswer ∈ qT := qin 626 (by decide +kernel) rfl
theorem lk_L_70 : Cond.methodLink RL 70 yX11_sour ∈ qT := qin 627 (by decide +kernel) rfl
theorem lk_X11_243 : Cond.methodLink RX11 243 yX5_setSkill ∈ qT := qin 631 (by decide +kernel) rfl
theorem lk_L_74 : Cond.methodLink RL 74 yX11_drift ∈ qT := qin 632 (by decide +kernel) rfl
theorem lk_X11_246 : Cond.methodLink RX11 246 yX2_stir ∈ qT := qin 636 (by decide +kernel) rfl
theorem lk_X2_22 : Cond.methodLink RX2 22 yX5_couples ∈ qT := qin 640 (by decide +kernel) rfl
theorem lk_X2_28 : Cond.methodLink RX2 28 yX5_objectors ∈ qT := qin 641 (by decide +kernel) rfl
theorem lk_X2_31 : Cond.methodLink RX2 31 yX2_draw ∈ qT := qin 642 (by decide +kernel) rfl
theorem lk_X2_15 : Cond.constantLong RX2 15 (1103515245) ∈ qT := qin 646 (by decide +kernel) rfl
theorem lk_X2_17 : Cond.constantLong RX2 17 (12345) ∈ qT := qin 647 (by decide +kernel) rfl
theorem lk_X2_19 : Cond.constantLong RX2 19 (2147483647) ∈ qT := qin 648 (by decide +kernel) rfl
theorem lk_X2_21 : Cond.constant RX2 21 (65536) ∈ qT := qin 649 (by decide +kernel) rfl
theorem lk_X2_35 : Cond.methodLink RX2 35 yX5_mayStand ∈ qT := qin 650 (by decide +kernel) rfl
theorem lk_X2_39 : Cond.methodLink RX2 39 yX5_standUp ∈ qT := qin 651 (by decide +kernel) rfl
theorem lk_X2_43 : Cond.methodLink RX2 43 yX5_setWeight ∈ qT := qin 652 (by decide +kernel) rfl
theorem lk_X2_47 : Cond.methodLink RX2 47 yX5_known ∈ qT := qin 653 (by decide +kernel) rfl
theorem lk_X2_50 : Cond.methodLink RX2 50 yX5_setKnown ∈ qT := qin 654 (by decide +kernel) rfl
theorem lk_L_78 : Cond.methodLink RL 78 yX11_undo ∈ qT := qin 655 (by decide +kernel) rfl
theorem lk_X11_249 : Cond.methodLink RX11 249 yX6_restore ∈ qT := qin 659 (by decide +kernel) rfl
theorem lk_X6_32 : Cond.methodLink RX6 32 yX5_copyFrom ∈ qT := qin 663 (by decide +kernel) rfl
theorem lk_L_82 : Cond.methodLink RL 82 yX11_soonest ∈ qT := qin 664 (by decide +kernel) rfl
theorem lk_X11_252 : Cond.methodLink RX11 252 yX10_firstYear ∈ qT := qin 668 (by decide +kernel) rfl
theorem lk_L_86 : Cond.methodLink RL 86 yX11_match ∈ qT := qin 671 (by decide +kernel) rfl
theorem lk_X11_256 : Cond.methodLink RX11 256 yX4_weigh ∈ qT := qin 675 (by decide +kernel) rfl
theorem lk_X4_18 : Cond.methodLink RX4 18 yX4_weighPairs ∈ qT := qin 679 (by decide +kernel) rfl
theorem lk_X4_28 : Cond.methodLink RX4 28 yX5_couples ∈ qT := qin 683 (by decide +kernel) rfl
theorem lk_X4_34 : Cond.methodLink RX4 34 yX5_objectors ∈ qT := qin 684 (by decide +kernel) rfl
theorem lk_X4_41 : Cond.methodLink RX4 41 yX5_wedIn ∈ qT := qin 685 (by decide +kernel) rfl
theorem lk_X4_45 : Cond.methodLink RX4 45 yX5_strengthIn ∈ qT := qin 686 (by decide +kernel) rfl
theorem lk_X4_22 : Cond.methodLink RX4 22 yJ7_fill_53178 ∈ qT := qin 687 (by decide +kernel) rfl
theorem lk_X4_37 : Cond.methodLink RX4 37 yX4_bestFrom ∈ qT := qin 688 (by decide +kernel) rfl
theorem lk_X4_49 : Cond.methodLink RX4 49 yX4_isFree ∈ qT := qin 692 (by decide +kernel) rfl
theorem lk_X4_52 : Cond.methodLink RX4 52 yX4_valueOf ∈ qT := qin 696 (by decide +kernel) rfl
theorem lk_X4_55 : Cond.methodLink RX4 55 yJ9_max_7cf53 ∈ qT := qin 700 (by decide +kernel) rfl
theorem lk_X11_259 : Cond.methodLink RX11 259 yX4_howMany ∈ qT := qin 701 (by decide +kernel) rfl
theorem lk_X11_262 : Cond.methodLink RX11 262 yX4_together ∈ qT := qin 705 (by decide +kernel) rfl
theorem lk_X11_265 : Cond.methodLink RX11 265 yX4_objectorFor ∈ qT := qin 709 (by decide +kernel) rfl
theorem lk_X4_61 : Cond.methodLink RX4 61 yX4_firstChoice ∈ qT := qin 713 (by decide +kernel) rfl
theorem lk_L_90 : Cond.methodLink RL 90 yX11_rounds ∈ qT := qin 717 (by decide +kernel) rfl
theorem lk_X11_268 : Cond.methodLink RX11 268 yX11_isSetOf ∈ qT := qin 721 (by decide +kernel) rfl
theorem lk_X11_271 : Cond.methodLink RX11 271 yJ6_bitCount_0f7a4 ∈ qT := qin 724 (by decide +kernel) rfl
theorem lk_X11_276 : Cond.methodLink RX11 276 yX8_weigh ∈ qT := qin 725 (by decide +kernel) rfl
theorem lk_X8_15 : Cond.methodLink RX8 15 yX8_bestOf ∈ qT := qin 729 (by decide +kernel) rfl
theorem lk_X8_19 : Cond.methodLink RX8 19 yX5_couples ∈ qT := qin 733 (by decide +kernel) rfl
theorem lk_X8_25 : Cond.methodLink RX8 25 yX8_valueOf ∈ qT := qin 734 (by decide +kernel) rfl
theorem lk_X8_35 : Cond.methodLink RX8 35 yJ6_bitCount_0f7a4 ∈ qT := qin 738 (by decide +kernel) rfl
theorem lk_X8_41 : Cond.methodLink RX8 41 yX5_wedIn ∈ qT := qin 739 (by decide +kernel) rfl
theorem lk_X8_29 : Cond.methodLink RX8 29 yJ9_max_7cf53 ∈ qT := qin 740 (by decide +kernel) rfl
theorem lk_X11_279 : Cond.methodLink RX11 279 yX8_howMany ∈ qT := qin 741 (by decide +kernel) rfl
theorem lk_X11_281 : Cond.methodLink RX11 281 yX8_figures ∈ qT := qin 745 (by decide +kernel) rfl
theorem lk_X8_45 : Cond.methodLink RX8 45 yX8_firstChoice ∈ qT := qin 749 (by decide +kernel) rfl
theorem lk_L_94 : Cond.methodLink RL 94 yX11_holds ∈ qT := qin 753 (by decide +kernel) rfl
theorem lk_X11_284 : Cond.methodLink RX11 284 yX10_safeAnswer ∈ qT := qin 757 (by decide +kernel) rfl
theorem lk_L_98 : Cond.methodLink RL 98 yX11_dry ∈ qT := qin 758 (by decide +kernel) rfl
theorem lk_X11_287 : Cond.methodLink RX11 287 yX2_oddsOfDry ∈ qT := qin 762 (by decide +kernel) rfl
theorem lk_X2_53 : Cond.constantLong RX2 53 (1000000000) ∈ qT := qin 765 (by decide +kernel) rfl
theorem lk_X2_55 : Cond.constantLong RX2 55 (100) ∈ qT := qin 766 (by decide +kernel) rfl
theorem lk_L_102 : Cond.methodLink RL 102 yX11_say ∈ qT := qin 767 (by decide +kernel) rfl
theorem lk_X11_290 : Cond.methodLink RX11 290 yX9_isFull ∈ qT := qin 771 (by decide +kernel) rfl
theorem lk_X11_291 : Cond.methodLink RX11 291 yX9_add ∈ qT := qin 775 (by decide +kernel) rfl
theorem lk_L_106 : Cond.methodLink RL 106 yX11_weights ∈ qT := qin 779 (by decide +kernel) rfl
theorem lk_X11_294 : Cond.methodLink RX11 294 yX9_howManyFit ∈ qT := qin 783 (by decide +kernel) rfl
theorem lk_X9_23 : Cond.methodLink RX9 23 yX9_fits ∈ qT := qin 787 (by decide +kernel) rfl
theorem lk_X11_297 : Cond.methodLink RX11 297 yX9_leastThatFits ∈ qT := qin 792 (by decide +kernel) rfl
theorem lk_X11_300 : Cond.methodLink RX11 300 yX9_greatestThatFits ∈ qT := qin 796 (by decide +kernel) rfl
theorem lk_L_110 : Cond.methodLink RL 110 yX11_ask ∈ qT := qin 800 (by decide +kernel) rfl
theorem lk_X11_303 : Cond.methodLink RX11 303 yX9_bestKind ∈ qT := qin 804 (by decide +kernel) rfl
theorem lk_X9_27 : Cond.methodLink RX9 27 yX9_howManyFit ∈ qT := qin 808 (by decide +kernel) rfl
theorem lk_X9_31 : Cond.methodLink RX9 31 yX9_greatestPart ∈ qT := qin 809 (by decide +kernel) rfl
theorem lk_X9_35 : Cond.methodLink RX9 35 yX9_partOf ∈ qT := qin 813 (by decide +kernel) rfl
theorem lk_X9_39 : Cond.methodLink RX9 39 yJ9_max_7cf53 ∈ qT := qin 817 (by decide +kernel) rfl
theorem lk_L_114 : Cond.methodLink RL 114 yX11_write ∈ qT := qin 818 (by decide +kernel) rfl
theorem lk_X11_306 : Cond.methodLink RX11 306 yX0_isFull ∈ qT := qin 822 (by decide +kernel) rfl
theorem lk_X11_307 : Cond.methodLink RX11 307 yX0_add ∈ qT := qin 826 (by decide +kernel) rfl
theorem lk_L_118 : Cond.methodLink RL 118 yX11_tear ∈ qT := qin 830 (by decide +kernel) rfl
theorem lk_L_122 : Cond.methodLink RL 122 yX11_judge ∈ qT := qin 834 (by decide +kernel) rfl
theorem lk_X11_309 : Cond.methodLink RX11 309 yX0_firstWrong ∈ qT := qin 838 (by decide +kernel) rfl
theorem lk_X0_22 : Cond.methodLink RX0 22 yX5_answer ∈ qT := qin 842 (by decide +kernel) rfl
theorem lk_L_126 : Cond.methodLink RL 126 yX11_seed ∈ qT := qin 843 (by decide +kernel) rfl
theorem lk_L_130 : Cond.methodLink RL 130 yX11_keep ∈ qT := qin 847 (by decide +kernel) rfl
theorem lk_X11_315 : Cond.methodLink RX11 315 yX3_store ∈ qT := qin 851 (by decide +kernel) rfl
theorem lk_X3_22 : Cond.methodLink RX3 22 yX5_copyTo ∈ qT := qin 855 (by decide +kernel) rfl
theorem lk_L_134 : Cond.methodLink RL 134 yX11_goBack ∈ qT := qin 856 (by decide +kernel) rfl
theorem lk_X11_319 : Cond.methodLink RX11 319 yX3_isKept ∈ qT := qin 860 (by decide +kernel) rfl
theorem lk_X11_322 : Cond.methodLink RX11 322 yX3_fetch ∈ qT := qin 864 (by decide +kernel) rfl
theorem lk_X3_26 : Cond.methodLink RX3 26 yX5_copyFrom ∈ qT := qin 868 (by decide +kernel) rfl
theorem lk_L_10 : Cond.classLink RL 10 RX12 ∈ qT := qin 869 (by decide +kernel) rfl
theorem ins_X12 : Cond.instantiable RX12 24 ∈ qT := qin 870 (by decide +kernel) rfl
theorem lk_L_12 : Cond.methodLink RL 12 yX12_init ∈ qT := qin 871 (by decide +kernel) rfl
theorem lk_X12_1 : Cond.methodLink RX12 1 Lib.objectInit ∈ qT := qin 874 (by decide +kernel) rfl
theorem lk_X12_51 : Cond.methodLink RX12 51 yX12_begins ∈ qT := qin 875 (by decide +kernel) rfl
theorem lk_X12_54 : Cond.constantLong RX12 54 (13) ∈ qT := qin 879 (by decide +kernel) rfl
theorem lk_X12_56 : Cond.constantLong RX12 56 (18) ∈ qT := qin 880 (by decide +kernel) rfl
theorem lk_X12_58 : Cond.methodLink RX12 58 yX12_in ∈ qT := qin 881 (by decide +kernel) rfl
theorem lk_X12_62 : Cond.methodLink RX12 62 yX12_copies ∈ qT := qin 884 (by decide +kernel) rfl
theorem lk_X12_7 : Cond.fieldLink RX12 7 "WeddingReasonsModel" "deanery" "[I" ∈ qT := qin 887 (by decide +kernel) rfl
theorem lk_X12_13 : Cond.fieldLink RX12 13 "WeddingReasonsModel" "read" "[I" ∈ qT := qin 888 (by decide +kernel) rfl
theorem lk_X12_16 : Cond.fieldLink RX12 16 "WeddingReasonsModel" "now" "[I" ∈ qT := qin 889 (by decide +kernel) rfl
theorem lk_X12_19 : Cond.fieldLink RX12 19 "WeddingReasonsModel" "aside" "[I" ∈ qT := qin 890 (by decide +kernel) rfl
theorem lk_X12_22 : Cond.fieldLink RX12 22 "WeddingReasonsModel" "past" "[I" ∈ qT := qin 891 (by decide +kernel) rfl
theorem lk_X12_66 : Cond.fieldLink RX12 66 "WeddingReasonsModel" "undos" "I" ∈ qT := qin 892 (by decide +kernel) rfl
theorem lk_X12_25 : Cond.fieldLink RX12 25 "WeddingReasonsModel" "images" "[I" ∈ qT := qin 893 (by decide +kernel) rfl
theorem lk_X12_28 : Cond.fieldLink RX12 28 "WeddingReasonsModel" "kept" "[Z" ∈ qT := qin 894 (by decide +kernel) rfl
theorem lk_X12_218 : Cond.fieldLink RX12 218 "WeddingReasonsModel" "seed" "J" ∈ qT := qin 895 (by decide +kernel) rfl
theorem lk_X12_32 : Cond.fieldLink RX12 32 "WeddingReasonsModel" "text" "[I" ∈ qT := qin 896 (by decide +kernel) rfl
theorem lk_X12_78 : Cond.fieldLink RX12 78 "WeddingReasonsModel" "size" "I" ∈ qT := qin 897 (by decide +kernel) rfl
theorem lk_X12_35 : Cond.fieldLink RX12 35 "WeddingReasonsModel" "fault" "I" ∈ qT := qin 898 (by decide +kernel) rfl
theorem lk_X12_39 : Cond.fieldLink RX12 39 "WeddingReasonsModel" "said" "[I" ∈ qT := qin 899 (by decide +kernel) rfl
theorem lk_X12_69 : Cond.fieldLink RX12 69 "WeddingReasonsModel" "saidMany" "I" ∈ qT := qin 900 (by decide +kernel) rfl
theorem lk_X12_42 : Cond.fieldLink RX12 42 "WeddingReasonsModel" "book" "[I" ∈ qT := qin 901 (by decide +kernel) rfl
theorem lk_X12_72 : Cond.fieldLink RX12 72 "WeddingReasonsModel" "bookMany" "I" ∈ qT := qin 902 (by decide +kernel) rfl
theorem lk_X12_82 : Cond.fieldLink RX12 82 "WeddingReasonsModel" "at" "I" ∈ qT := qin 903 (by decide +kernel) rfl
theorem lk_X12_89 : Cond.fieldLink RX12 89 "WeddingReasonsModel" "begin" "I" ∈ qT := qin 904 (by decide +kernel) rfl
theorem lk_X12_92 : Cond.fieldLink RX12 92 "WeddingReasonsModel" "sign" "I" ∈ qT := qin 905 (by decide +kernel) rfl
theorem lk_X12_95 : Cond.fieldLink RX12 95 "WeddingReasonsModel" "figures" "I" ∈ qT := qin 906 (by decide +kernel) rfl
theorem lk_X12_98 : Cond.fieldLink RX12 98 "WeddingReasonsModel" "value" "I" ∈ qT := qin 907 (by decide +kernel) rfl
theorem lk_X12_105 : Cond.fieldLink RX12 105 "WeddingReasonsModel" "wrong" "I" ∈ qT := qin 908 (by decide +kernel) rfl
theorem lk_X12_45 : Cond.fieldLink RX12 45 "WeddingReasonsModel" "best" "[I" ∈ qT := qin 909 (by decide +kernel) rfl
theorem lk_X12_48 : Cond.fieldLink RX12 48 "WeddingReasonsModel" "row" "[I" ∈ qT := qin 910 (by decide +kernel) rfl
theorem acl_boolean : Cond.arrayClass .boolean ∈ qT := qin 960 (by decide +kernel) rfl
theorem lk_L_17 : Cond.methodLink RL 17 yX12_feed ∈ qT := qin 961 (by decide +kernel) rfl
theorem lk_X12_75 : Cond.constantLong RX12 75 (255) ∈ qT := qin 965 (by decide +kernel) rfl
theorem lk_X12_77 : Cond.constant RX12 77 (-1000000002) ∈ qT := qin 966 (by decide +kernel) rfl
theorem lk_X12_81 : Cond.constant RX12 81 (-1000000004) ∈ qT := qin 967 (by decide +kernel) rfl
theorem lk_L_22 : Cond.methodLink RL 22 yX12_deanery ∈ qT := qin 968 (by decide +kernel) rfl
theorem lk_X12_108 : Cond.methodLink RX12 108 yX12_step ∈ qT := qin 972 (by decide +kernel) rfl
theorem lk_X12_85 : Cond.methodLink RX12 85 yX12_here ∈ qT := qin 976 (by decide +kernel) rfl
theorem lk_X12_101 : Cond.constantLong RX12 101 (48) ∈ qT := qin 980 (by decide +kernel) rfl
theorem lk_X12_103 : Cond.constantLong RX12 103 (57) ∈ qT := qin 981 (by decide +kernel) rfl
theorem lk_X12_129 : Cond.methodLink RX12 129 yX12_readsClause ∈ qT := qin 982 (by decide +kernel) rfl
theorem lk_X12_111 : Cond.methodLink RX12 111 yX12_fails ∈ qT := qin 986 (by decide +kernel) rfl
theorem lk_X12_115 : Cond.methodLink RX12 115 yX12_number ∈ qT := qin 990 (by decide +kernel) rfl
theorem lk_X12_119 : Cond.methodLink RX12 119 yX12_ends ∈ qT := qin 994 (by decide +kernel) rfl
theorem lk_X12_123 : Cond.methodLink RX12 123 yX12_readsCouple ∈ qT := qin 998 (by decide +kernel) rfl
theorem lk_X12_126 : Cond.methodLink RX12 126 yX12_readsObjector ∈ qT := qin 1002 (by decide +kernel) rfl
theorem lk_L_26 : Cond.methodLink RL 26 yX12_fault ∈ qT := qin 1006 (by decide +kernel) rfl
theorem lk_L_30 : Cond.methodLink RL 30 yX12_told ∈ qT := qin 1010 (by decide +kernel) rfl
theorem lk_X12_154 : Cond.methodLink RX12 154 yX12_those ∈ qT := qin 1014 (by decide +kernel) rfl
theorem lk_X12_164 : Cond.methodLink RX12 164 yX12_plain ∈ qT := qin 1018 (by decide +kernel) rfl
theorem lk_X12_147 : Cond.methodLink RX12 147 yX12_counts ∈ qT := qin 1022 (by decide +kernel) rfl
theorem lk_X12_144 : Cond.methodLink RX12 144 yX12_strengthOn ∈ qT := qin 1026 (by decide +kernel) rfl
theorem lk_X12_136 : Cond.methodLink RX12 136 yX12_reasonOn ∈ qT := qin 1030 (by decide +kernel) rfl
theorem lk_X12_132 : Cond.methodLink RX12 132 yX12_has ∈ qT := qin 1034 (by decide +kernel) rfl
theorem lk_X12_140 : Cond.methodLink RX12 140 yX12_strengthBy ∈ qT := qin 1037 (by decide +kernel) rfl
theorem lk_X12_167 : Cond.methodLink RX12 167 yX12_firmest ∈ qT := qin 1040 (by decide +kernel) rfl
theorem lk_X12_170 : Cond.methodLink RX12 170 yX12_few ∈ qT := qin 1044 (by decide +kernel) rfl
theorem lk_X12_158 : Cond.methodLink RX12 158 yX12_can ∈ qT := qin 1048 (by decide +kernel) rfl
theorem lk_X12_151 : Cond.methodLink RX12 151 yX12_weds ∈ qT := qin 1052 (by decide +kernel) rfl
theorem lk_X12_161 : Cond.methodLink RX12 161 yX12_bits ∈ qT := qin 1056 (by decide +kernel) rfl
theorem lk_L_35 : Cond.methodLink RL 35 yX12_couple ∈ qT := qin 1059 (by decide +kernel) rfl
theorem lk_X12_173 : Cond.methodLink RX12 173 yX12_isCouple ∈ qT := qin 1063 (by decide +kernel) rfl
theorem lk_X12_176 : Cond.constant RX12 176 (-1000000001) ∈ qT := qin 1067 (by decide +kernel) rfl
theorem lk_X12_177 : Cond.methodLink RX12 177 yX12_weakest ∈ qT := qin 1068 (by decide +kernel) rfl
theorem lk_L_39 : Cond.methodLink RL 39 yX12_objector ∈ qT := qin 1072 (by decide +kernel) rfl
theorem lk_X12_180 : Cond.methodLink RX12 180 yX12_isObjector ∈ qT := qin 1076 (by decide +kernel) rfl
theorem lk_L_43 : Cond.methodLink RL 43 yX12_box ∈ qT := qin 1080 (by decide +kernel) rfl
theorem lk_X12_183 : Cond.constantLong RX12 183 (4) ∈ qT := qin 1084 (by decide +kernel) rfl
theorem lk_L_48 : Cond.methodLink RL 48 yX12_against ∈ qT := qin 1085 (by decide +kernel) rfl
theorem lk_L_52 : Cond.methodLink RL 52 yX12_stand ∈ qT := qin 1089 (by decide +kernel) rfl
theorem lk_X12_189 : Cond.methodLink RX12 189 yX12_mayStand ∈ qT := qin 1093 (by decide +kernel) rfl
theorem lk_X12_192 : Cond.constant RX12 192 (-1000000003) ∈ qT := qin 1097 (by decide +kernel) rfl
theorem lk_X12_193 : Cond.methodLink RX12 193 yX12_remember ∈ qT := qin 1098 (by decide +kernel) rfl
theorem lk_X12_196 : Cond.methodLink RX12 196 yX12_stands ∈ qT := qin 1102 (by decide +kernel) rfl
theorem lk_X12_185 : Cond.methodLink RX12 185 yX12_boxes ∈ qT := qin 1106 (by decide +kernel) rfl
theorem lk_L_56 : Cond.methodLink RL 56 yX12_year ∈ qT := qin 1110 (by decide +kernel) rfl
theorem lk_X12_205 : Cond.methodLink RX12 205 yX12_refuses ∈ qT := qin 1114 (by decide +kernel) rfl
theorem lk_X12_203 : Cond.constantLong RX12 203 (60) ∈ qT := qin 1118 (by decide +kernel) rfl
theorem lk_X12_208 : Cond.methodLink RX12 208 yX12_yearGoes ∈ qT := qin 1119 (by decide +kernel) rfl
theorem lk_X12_199 : Cond.methodLink RX12 199 yX12_lesser ∈ qT := qin 1123 (by decide +kernel) rfl
theorem lk_L_61 : Cond.methodLink RL 61 yX12_teach ∈ qT := qin 1126 (by decide +kernel) rfl
theorem lk_L_65 : Cond.methodLink RL 65 yX12_hear ∈ qT := qin 1130 (by decide +kernel) rfl
theorem lk_X12_212 : Cond.constantLong RX12 212 (20) ∈ qT := qin 1134 (by decide +kernel) rfl
theorem lk_L_69 : Cond.methodLink RL 69 yX12_practise ∈ qT := qin 1135 (by decide +kernel) rfl
theorem lk_X12_214 : Cond.constantLong RX12 214 (99) ∈ qT := qin 1139 (by decide +kernel) rfl
theorem lk_L_73 : Cond.methodLink RL 73 yX12_sour ∈ qT := qin 1140 (by decide +kernel) rfl
theorem lk_X12_216 : Cond.constantLong RX12 216 (40) ∈ qT := qin 1144 (by decide +kernel) rfl
theorem lk_L_77 : Cond.methodLink RL 77 yX12_drift ∈ qT := qin 1145 (by decide +kernel) rfl
theorem lk_X12_233 : Cond.methodLink RX12 233 yX12_draws ∈ qT := qin 1149 (by decide +kernel) rfl
theorem lk_X12_230 : Cond.methodLink RX12 230 yX12_draw ∈ qT := qin 1153 (by decide +kernel) rfl
theorem lk_X12_222 : Cond.constantLong RX12 222 (1103515245) ∈ qT := qin 1157 (by decide +kernel) rfl
theorem lk_X12_224 : Cond.constantLong RX12 224 (12345) ∈ qT := qin 1158 (by decide +kernel) rfl
theorem lk_X12_226 : Cond.constantLong RX12 226 (2147483648) ∈ qT := qin 1159 (by decide +kernel) rfl
theorem lk_X12_228 : Cond.constantLong RX12 228 (65536) ∈ qT := qin 1160 (by decide +kernel) rfl
theorem lk_L_81 : Cond.methodLink RL 81 yX12_undo ∈ qT := qin 1161 (by decide +kernel) rfl
theorem lk_L_85 : Cond.methodLink RL 85 yX12_soonest ∈ qT := qin 1165 (by decide +kernel) rfl
theorem lk_X12_236 : Cond.methodLink RX12 236 yX12_layAside ∈ qT := qin 1169 (by decide +kernel) rfl
theorem lk_L_89 : Cond.methodLink RL 89 yX12_match ∈ qT := qin 1173 (by decide +kernel) rfl
theorem lk_X12_242 : Cond.constantLong RX12 242 (-2) ∈ qT := qin 1177 (by decide +kernel) rfl
theorem lk_X12_244 : Cond.methodLink RX12 244 yX12_weighsMatches ∈ qT := qin 1178 (by decide +kernel) rfl
theorem lk_X12_239 : Cond.methodLink RX12 239 yX12_greater ∈ qT := qin 1182 (by decide +kernel) rfl
theorem lk_X12_247 : Cond.methodLink RX12 247 yX12_matched ∈ qT := qin 1185 (by decide +kernel) rfl
theorem lk_L_93 : Cond.methodLink RL 93 yX12_rounds ∈ qT := qin 1189 (by decide +kernel) rfl
theorem lk_X12_250 : Cond.methodLink RX12 250 yX12_nextOrder ∈ qT := qin 1193 (by decide +kernel) rfl
theorem lk_L_97 : Cond.methodLink RL 97 yX12_holds ∈ qT := qin 1197 (by decide +kernel) rfl
theorem lk_L_101 : Cond.methodLink RL 101 yX12_dry ∈ qT := qin 1201 (by decide +kernel) rfl
theorem lk_X12_253 : Cond.constantLong RX12 253 (100) ∈ qT := qin 1205 (by decide +kernel) rfl
theorem lk_X12_255 : Cond.constantLong RX12 255 (1000000000) ∈ qT := qin 1206 (by decide +kernel) rfl
theorem lk_L_105 : Cond.methodLink RL 105 yX12_say ∈ qT := qin 1207 (by decide +kernel) rfl
theorem lk_X12_257 : Cond.constantLong RX12 257 (2) ∈ qT := qin 1211 (by decide +kernel) rfl
theorem lk_L_109 : Cond.methodLink RL 109 yX12_weights ∈ qT := qin 1212 (by decide +kernel) rfl
theorem lk_X12_259 : Cond.methodLink RX12 259 yX12_isSo ∈ qT := qin 1216 (by decide +kernel) rfl
theorem lk_L_113 : Cond.methodLink RL 113 yX12_ask ∈ qT := qin 1220 (by decide +kernel) rfl
theorem lk_X12_262 : Cond.methodLink RX12 262 yX12_weights ∈ qT := qin 1224 (by decide +kernel) rfl
theorem lk_L_117 : Cond.methodLink RL 117 yX12_write ∈ qT := qin 1225 (by decide +kernel) rfl
theorem lk_L_121 : Cond.methodLink RL 121 yX12_tear ∈ qT := qin 1229 (by decide +kernel) rfl
theorem lk_L_125 : Cond.methodLink RL 125 yX12_judge ∈ qT := qin 1233 (by decide +kernel) rfl
theorem lk_L_129 : Cond.methodLink RL 129 yX12_seed ∈ qT := qin 1237 (by decide +kernel) rfl
theorem lk_L_133 : Cond.methodLink RL 133 yX12_keep ∈ qT := qin 1241 (by decide +kernel) rfl
theorem lk_L_137 : Cond.methodLink RL 137 yX12_goBack ∈ qT := qin 1245 (by decide +kernel) rfl
theorem obj_inst : Cond.instanceMethod Lib.objectInit ∈ qT := qin 82 (by decide +kernel) rfl
theorem obj_code : Cond.code Lib.objectInit ⟨#[0xb1]⟩ 1 none ∈ qT := qin 83 (by decide +kernel) rfl
theorem sta_copy : Cond.static arraycopyName ∈ qT := qin 376 (by decide +kernel) rfl
theorem inX0 : ∀ w ∈ wsX00, w ∈ qT := fun w h => List.mem_filter.mpr ((show ∀ w ∈ wsX00, w ∈ lw_tbl ∧ goodWord w = true by decide +kernel) w h)
theorem inX1 : ∀ w ∈ wsX10, w ∈ qT := fun w h => List.mem_filter.mpr ((show ∀ w ∈ wsX10, w ∈ lw_tbl ∧ goodWord w = true by decide +kernel) w h)
theorem inX2 : ∀ w ∈ wsX20, w ∈ qT := fun w h => List.mem_filter.mpr ((show ∀ w ∈ wsX20, w ∈ lw_tbl ∧ goodWord w = true by decide +kernel) w h)
theorem inX3 : ∀ w ∈ wsX30, w ∈ qT := fun w h => List.mem_filter.mpr ((show ∀ w ∈ wsX30, w ∈ lw_tbl ∧ goodWord w = true by decide +kernel) w h)
theorem inX4 : ∀ w ∈ wsX40, w ∈ qT := fun w h => List.mem_filter.mpr ((show ∀ w ∈ wsX40, w ∈ lw_tbl ∧ goodWord w = true by decide +kernel) w h)
theorem inX5 : ∀ w ∈ wsX50, w ∈ qT := fun w h => List.mem_filter.mpr ((show ∀ w ∈ wsX50, w ∈ lw_tbl ∧ goodWord w = true by decide +kernel) w h)
theorem inX6 : ∀ w ∈ wsX60, w ∈ qT := fun w h => List.mem_filter.mpr ((show ∀ w ∈ wsX60, w ∈ lw_tbl ∧ goodWord w = true by decide +kernel) w h)
theorem inX7 : ∀ w ∈ wsX70, w ∈ qT := fun w h => List.mem_filter.mpr ((show ∀ w ∈ wsX70, w ∈ lw_tbl ∧ goodWord w = true by decide +kernel) w h)
theorem inX8 : ∀ w ∈ wsX80, w ∈ qT := fun w h => List.mem_filter.mpr ((show ∀ w ∈ wsX80, w ∈ lw_tbl ∧ goodWord w = true by decide +kernel) w h)
theorem inX9 : ∀ w ∈ wsX90, w ∈ qT := fun w h => List.mem_filter.mpr ((show ∀ w ∈ wsX90, w ∈ lw_tbl ∧ goodWord w = true by decide +kernel) w h)
theorem inX11 : ∀ w ∈ wsX110, w ∈ qT := fun w h => List.mem_filter.mpr ((show ∀ w ∈ wsX110, w ∈ lw_tbl ∧ goodWord w = true by decide +kernel) w h)
theorem inX12 : ∀ w ∈ wsX120, w ∈ qT := fun w h => List.mem_filter.mpr ((show ∀ w ∈ wsX120, w ∈ lw_tbl ∧ goodWord w = true by decide +kernel) w h)
def qnest : List (String × Nat × MethodName × String) := [(RX11, 9, yX5_init, RX11), (RX11, 18, yX7_init, RX11), (RX7, 11, yX5_init, RX11), (RX11, 25, yX6_init, RX11), (RX11, 32, yX3_init, RX11), (RX11, 39, yX2_init, RX11), (RX11, 46, yX4_init, RX11), (RX11, 53, yX8_init, RX11), (RX11, 60, yX1_init, RX11), (RX11, 67, yX9_init, RX11), (RX11, 74, yX0_init, RX11), (RX5, 56, yX11_strengthBy, RX11), (RX9, 19, yX11_strengthBy, RX11)]
abbrev qnc (w : String × Nat × MethodName × String) : Cond := .methodLinkNest w.1 w.2.1 w.2.2.1 w.2.2.2
theorem lkn_X11_9 : (RX11, 9, yX5_init, RX11) ∈ qnest := List.mem_of_getElem? (i := 0) rfl
theorem lkn_X11_18 : (RX11, 18, yX7_init, RX11) ∈ qnest := List.mem_of_getElem? (i := 1) rfl
theorem lkn_X7_11 : (RX7, 11, yX5_init, RX11) ∈ qnest := List.mem_of_getElem? (i := 2) rfl
theorem lkn_X11_25 : (RX11, 25, yX6_init, RX11) ∈ qnest := List.mem_of_getElem? (i := 3) rfl
theorem lkn_X11_32 : (RX11, 32, yX3_init, RX11) ∈ qnest := List.mem_of_getElem? (i := 4) rfl
theorem lkn_X11_39 : (RX11, 39, yX2_init, RX11) ∈ qnest := List.mem_of_getElem? (i := 5) rfl
theorem lkn_X11_46 : (RX11, 46, yX4_init, RX11) ∈ qnest := List.mem_of_getElem? (i := 6) rfl
theorem lkn_X11_53 : (RX11, 53, yX8_init, RX11) ∈ qnest := List.mem_of_getElem? (i := 7) rfl
theorem lkn_X11_60 : (RX11, 60, yX1_init, RX11) ∈ qnest := List.mem_of_getElem? (i := 8) rfl
theorem lkn_X11_67 : (RX11, 67, yX9_init, RX11) ∈ qnest := List.mem_of_getElem? (i := 9) rfl
theorem lkn_X11_74 : (RX11, 74, yX0_init, RX11) ∈ qnest := List.mem_of_getElem? (i := 10) rfl
theorem lkn_X5_56 : (RX5, 56, yX11_strengthBy, RX11) ∈ qnest := List.mem_of_getElem? (i := 11) rfl
theorem lkn_X9_19 : (RX9, 19, yX11_strengthBy, RX11) ∈ qnest := List.mem_of_getElem? (i := 12) rfl
theorem qnest_tbl : ∀ w ∈ qnest, qnc w ∈ lw_tbl := by decide +kernel
end
section
-- a pure picture of the machine's cells: a shape (classes, references, lengths: known), the ints M, the longs J
abbrev qG : Type := Launch × va_G × (Nat × Nat × Nat) × (Nat → Int32) × (ClassId × ClassId)
abbrev gl (G : qG) : Launch := G.1
abbrev gD (G : qG) : va_G := G.2.1
abbrev gb (G : qG) : Nat := G.2.2.1.1
abbrev gs (G : qG) : Nat := G.2.2.1.2.1
abbrev gL (G : qG) : Nat := G.2.2.1.2.2
abbrev gx (G : qG) : Nat → Int32 := G.2.2.2.1
abbrev gI (G : qG) : ClassId := G.2.2.2.2.1
abbrev gZ (G : qG) : ClassId := G.2.2.2.2.2
abbrev qC : Type := (Bool × Nat) ⊕ (Nat × List (Option Nat))
abbrev qSh : Type := List qC
abbrev qM : Type := Nat → Nat → Int32
abbrev qJ : Type := Nat → Nat → Int64
abbrev qR : Type := Option Value × qSh × qM × qJ
def qN (ci : Nat) : Nat := match ci with
  | 0 => 3
  | 1 => 1
  | 2 => 1
  | 3 => 3
  | 4 => 2
  | 5 => 1
  | 6 => 3
  | 7 => 6
  | 8 => 1
  | 9 => 2
  | 10 => 10
  | _ => 24
def qty (ci k : Nat) : FieldType := match ci with
  | 0 => tyX0 k
  | 1 => tyX1 k
  | 2 => tyX2 k
  | 3 => tyX3 k
  | 4 => tyX4 k
  | 5 => tyX5 k
  | 6 => tyX6 k
  | 7 => tyX7 k
  | 8 => tyX8 k
  | 9 => tyX9 k
  | 10 => tyX11 k
  | _ => tyX12 k
def qcv (G : qG) (v : Value) : Value := match v with
  | .ref k => .ref (if k < 4096 then gb G + k else gs G)
  | v => v
def qfa (ty : FieldType) (r : Option Nat) (i : Int32) (j : Int64) : Value := match ty with
  | .int => .int i
  | .long => .long j
  | _ => match r with
    | none => .null
    | some k => .ref k
def qfs (G : qG) (M : qM) (J : qJ) (q ci : Nat) (rs : List (Option Nat)) : List Value := (List.range (qN ci)).map fun k => qcv G (qfa (qty ci k) (rs.getD k none) (M q k) (J q k))
def qce (G : qG) (M : qM) (J : qJ) (q : Nat) (c : qC) : Nat × va_E := match c with
  | .inl (z, n) => (gb G + q, .inl (if z then gZ G else gI G, n, .inl (M q)))
  | .inr (ci, rs) => (gb G + q, .inr (ci, qfs G M J q ci rs))
def qw (G : qG) (sh : qSh) (M : qM) (J : qJ) : va_W := sh.mapIdx (qce G M J)
abbrev qA (G : qG) : Nat → Prop := fun q => gb G ≤ q
def qu (M : qM) (q i : Nat) (x : Int32) : qM := fun a b => if a = q then (if b = i then x else M a b) else M a b
def qv (J : qJ) (q i : Nat) (x : Int64) : qJ := fun a b => if a = q then (if b = i then x else J a b) else J a b
def qcp (M : qM) (q0 q1 sp dp n : Nat) : qM := fun a => if a = q1 then va_cpy (M q0) (M q1) sp dp n else M a
theorem qce_1 (G : qG) (M : qM) (J : qJ) (q : Nat) (c : qC) : (qce G M J q c).1 = gb G + q := by
  obtain ⟨z, n⟩ | ⟨ci, rs⟩ := c <;> rfl
theorem qw_at (G : qG) (sh : qSh) (M : qM) (J : qJ) (q : Nat) : (qw G sh M J)[q]? = (sh[q]?).map (qce G M J q) := by simp [qw]
theorem qw_get {G : qG} {sh : qSh} {M : qM} {J : qJ} {q : Nat} {c : qC} (h : sh[q]? = some c) : (qw G sh M J)[q]? = some (qce G M J q c) := by rw [qw_at, h]; rfl
theorem qw_len (G : qG) (sh : qSh) (M : qM) (J : qJ) : (qw G sh M J).length = sh.length := by simp [qw]
theorem qw_D {G : qG} {sh : qSh} {M : qM} {J : qJ} : va_D (qA G) (qw G sh M J) := by
  have key : ∀ (k : Nat) (x : Nat × va_E), (qw G sh M J)[k]? = some x → x.1 = gb G + k := by
    intro k x hx
    rw [qw_at] at hx
    obtain ⟨c, -, rfl⟩ := Option.map_eq_some_iff.mp hx
    exact qce_1 G M J k c
  refine ⟨fun i j p q h1 h2 h3 => ?_, fun k x hx => ?_⟩
  · have e1 := key i p h1
    have e2 := key j q h2
    omega
  · have e1 := key k x hx
    show gb G ≤ x.1
    omega
theorem qw_upd {G : qG} {sh sh' : qSh} {M M' : qM} {J J' : qJ} (q : Nat) (hq : q < sh.length) {e : Nat × va_E} (he : (qw G sh' M' J')[q]? = some e) (ho : ∀ k, k ≠ q → (qw G sh' M' J')[k]? = (qw G sh M J)[k]?) : (qw G sh M J).set q e = qw G sh' M' J' := by
  apply List.ext_getElem?
  intro i
  by_cases h : i = q
  · subst h
    rw [he, List.getElem?_set_self (by rw [qw_len]; exact hq)]
  · rw [ho i h, List.getElem?_set_ne (Ne.symm h)]
theorem qsh_lt {sh : qSh} {q : Nat} {c : qC} (h : sh[q]? = some c) : q < sh.length := (List.getElem?_eq_some_iff.mp h).1
theorem qce_M {G : qG} {M M' : qM} {J J' : qJ} {q : Nat} (h1 : M' q = M q) (h2 : J' q = J q) (c : qC) : qce G M' J' q c = qce G M J q c := by
  obtain ⟨z, n⟩ | ⟨ci, rs⟩ := c
  · simp only [qce, h1]
  · simp only [qce, qfs, h1, h2]
theorem qw_arr {G : qG} {sh : qSh} {M : qM} {J : qJ} {q n : Nat} {z : Bool} (h : sh[q]? = some (.inl (z, n))) (f : Nat → Int32) (M' : qM) (h1 : M' q = f) (h2 : ∀ a, a ≠ q → M' a = M a) : (qw G sh M J).set q (gb G + q, .inl (if z then gZ G else gI G, n, .inl f)) = qw G sh M' J := by
  refine qw_upd q (qsh_lt h) ?_ ?_
  · rw [qw_get h]; simp only [qce, h1]
  · intro k hk
    rw [qw_at, qw_at]
    cases sh[k]? with
    | none => rfl
    | some c => exact congrArg some (qce_M (h2 k hk) rfl c)
theorem qu_row (M : qM) (q i : Nat) (x : Int32) : qu M q i x q = upd (M q) i x := by
  funext b; simp [qu, upd]
theorem qu_ne (M : qM) (q i : Nat) (x : Int32) {a : Nat} (h : a ≠ q) : qu M q i x a = M a := by
  funext b; simp [qu, h]
theorem qv_ne (J : qJ) (q i : Nat) (x : Int64) {a : Nat} (h : a ≠ q) : qv J q i x a = J a := by
  funext b; simp [qv, h]
theorem qfs_get {G : qG} {M : qM} {J : qJ} {q ci : Nat} {rs : List (Option Nat)} {k : Nat} (hk : k < qN ci) : (qfs G M J q ci rs)[k]? = some (qcv G (qfa (qty ci k) (rs.getD k none) (M q k) (J q k))) := by
  simp [qfs, hk]
theorem qw_fld {G : qG} {sh sh' : qSh} {M M' : qM} {J J' : qJ} {q ci k : Nat} {rs rs' : List (Option Nat)} (h : sh[q]? = some (.inr (ci, rs))) (h' : sh'[q]? = some (.inr (ci, rs'))) (hs : ∀ a, a ≠ q → sh'[a]? = sh[a]?) (hk : k < qN ci) (v : Value) (hv : qcv G (qfa (qty ci k) (rs'.getD k none) (M' q k) (J' q k)) = v)
    (ho : ∀ j, j ≠ k → rs'.getD j none = rs.getD j none ∧ M' q j = M q j ∧ J' q j = J q j) (h2 : ∀ a, a ≠ q → M' a = M a ∧ J' a = J a) : (qw G sh M J).set q (gb G + q, .inr (ci, (qfs G M J q ci rs).set k v)) = qw G sh' M' J' := by
  refine qw_upd q (qsh_lt h) ?_ ?_
  · rw [qw_get h']
    simp only [qce]
    congr 4
    apply List.ext_getElem?
    intro j
    by_cases hj : j = k
    · subst hj
      rw [List.getElem?_set_self (by simp [qfs, hk]), qfs_get hk, hv]
    · rw [List.getElem?_set_ne (Ne.symm hj)]
      by_cases hn : j < qN ci
      · rw [qfs_get hn, qfs_get hn, (ho j hj).1, (ho j hj).2.1, (ho j hj).2.2]
      · simp [qfs, hn]
  · intro a ha
    rw [qw_at, qw_at, hs a ha]
    cases sh[a]? with
    | none => rfl
    | some c => exact congrArg some (qce_M (h2 a ha).1 (h2 a ha).2 c)
theorem va_lt {b L : Nat} {xs : Nat → Int32} {U : State} {H : Heap} (h : va_X b L xs U H) : b < H.size := by
  obtain ⟨c, h1, -⟩ := h
  exact (Array.getElem?_eq_some_iff.mp h1).1
-- what is so of a state
def qRl (G : qG) (sh : qSh) (M : qM) (J : qJ) (U : State) (H : Heap) : Prop :=
  (sh.length ≤ 4096 ∧ gs G < gb G) ∧ va_P (gD G) vwCl (qw G sh M J) H ∧ va_K (gD G) vwCl [(gI G, .int), (gZ G, .boolean)] U ∧ (∀ w ∈ qnest, va_Nw (qnc w) U) ∧ va_X (gs G) (gL G) (gx G) U H
def qCx (Y : qY) (p : Program) (s : State) (m : MethodId) (args : Array Value) (meth : Method) (c : Code) : Prop :=
  p.tables.exec = Jvm.exec ∧ c.code = Y.2.1 ∧ c.maxLocals = Y.2.2.1 ∧ meth.sig.returnType = Y.2.2.2 ∧ meth.locks = false ∧ s.vm.findClass Y.1.cls = some m.cls ∧ (∀ w ∈ qT, w.before args s = true) ∧ meth.name = Y.1.name
def qLs (G : qG) (arr : Array Slot) (nL : Nat) (ls : List (Option Value)) : Prop := arr.size = nL ∧ lv_wf arr ∧ ∀ (i : Nat) (v : Value), ls[i]? = some (some v) → arr[i]? = some (.val (qcv G v))
def qri (r : Option Value) : Instr := match r with
  | none => .return_
  | some _ => .ireturn
/-- from the frame at pc, with locals ls and stack st, in the picture (sh, M, J), the method comes to its return with just ρ -/
def QW (G : qG) (R : Room) (Y : qY) (nc ns pc : Nat) (ls : List (Option Value)) (st : List Value) (sh : qSh) (M : qM) (J : qJ) (ρ : qR) : Prop :=
  ∀ (p : Program) (e : Env) (s : State) (m : MethodId) (args : Array Value) (below : List Frame) (meth : Method) (c : Code) (H : Heap) (locs : List Loc) (arr : Array Slot) (Z : State → Prop),
    qCx Y p s m args meth c → (s.heap.size + nc = gb G + sh.length ∧ gb G ≤ s.heap.size) → qRl G sh M J s H → va_S (qA G) s.heap H locs → qLs G arr Y.2.2.1 ls →
    (∀ (H1 : Heap) (locs1 : List Loc) (pc1 : Nat) (arr1 : Array Slot), (s.heap.size + R.cells = gb G + ρ.2.1.length) → qRl G ρ.2.1 ρ.2.2.1 ρ.2.2.2 s H1 → va_S (qA G) s.heap H1 locs1 → decode Y.2.1 pc1 = .ok (qri ρ.1, 1) → W p (gl G) e R s m args below meth c H1 locs1 R.cells R.slots Z (F0 m pc1 arr1 (ρ.1.toList.map (qcv G)))) →
    W p (gl G) e R s m args below meth c H locs nc ns Z (F0 m pc arr (st.map (qcv G)))
theorem qRl.keep {G : qG} {sh sh' : qSh} {M M' : qM} {J J' : qJ} {s : State} {H H1 H0 : Heap} {locs locs1 : List Loc} (h : qRl G sh M J s H) (hs : va_S (qA G) H0 H locs) (hs1 : va_S (qA G) H0 H1 locs1) (hb : gb G ≤ H0.size) (hl : sh'.length ≤ 4096) (hP : va_P (gD G) vwCl (qw G sh' M' J') H1) : qRl G sh' M' J' s H1 := by
  refine ⟨⟨hl, h.1.2⟩, hP, h.2.2.1, h.2.2.2.1, h.2.2.2.2.kept ?_⟩
  have hlt : gs G < H0.size := Nat.lt_of_lt_of_le h.1.2 hb
  have hn : ¬ qA G (gs G) := Nat.not_le.mpr h.1.2
  rw [hs1.2.1 _ hlt hn, hs.2.1 _ hlt hn]
theorem qRl.kn {G : qG} {sh : qSh} {M : qM} {J : qJ} {s : State} {H : Heap} (h : qRl G sh M J s H) {q : Nat} {c : qC} (hq : sh[q]? = some c) : qcv G (.ref q) = .ref (gb G + q) := by
  have h1 := qsh_lt hq
  have h2 := h.1.1
  show Value.ref (if q < 4096 then gb G + q else gs G) = _
  rw [if_pos (by omega)]
-- locals
def qlv (G : qG) (ls : List (Option Value)) : List (Nat × Value) := (List.range ls.length).filterMap fun i => match ls[i]? with
  | some (some v) => some (i, qcv G v)
  | _ => none
theorem qlv_mem {G : qG} {ls : List (Option Value)} {i : Nat} {v : Value} (h : ls[i]? = some (some v)) : (i, qcv G v) ∈ qlv G ls := by
  refine List.mem_filterMap.mpr ⟨i, List.mem_range.mpr (List.getElem?_eq_some_iff.mp h).1, ?_⟩
  rw [h]
theorem qlv_of {G : qG} {ls : List (Option Value)} {q : Nat × Value} (h : q ∈ qlv G ls) : ∃ v, ls[q.1]? = some (some v) ∧ q.2 = qcv G v := by
  obtain ⟨i, -, h2⟩ := List.mem_filterMap.mp h
  split at h2
  · rename_i v hv
    cases h2
    exact ⟨v, hv, rfl⟩
  · cases h2
theorem qLs.has {G : qG} {arr : Array Slot} {nL : Nat} {ls : List (Option Value)} (h : qLs G arr nL ls) : lv_has arr nL (qlv G ls) := by
  refine ⟨h.1, h.2.1, fun q hq => ?_⟩
  obtain ⟨v, h1, h2⟩ := qlv_of hq
  rw [h2]
  exact h.2.2 _ v h1
theorem qcv_cat (G : qG) (v : Value) : (qcv G v).category = v.category := by cases v <;> rfl
def qk (ls : List (Option Value)) (i : Nat) : Bool := match i with
  | 0 => true
  | j + 1 => match ls[j]? with
    | some (some v) => !(v.category == 2)
    | _ => true
theorem qk_no {ls : List (Option Value)} {i j : Nat} {v : Value} (hk : qk ls i = true) (hj : j + 1 = i) (h : ls[j]? = some (some v)) : (v.category == 2) = false := by
  subst hj
  simp only [qk, h] at hk
  simpa using hk
theorem qLs.set1 {G : qG} {arr : Array Slot} {nL i : Nat} {ls ls' : List (Option Value)} {v : Value} (h : lv_has arr nL ((i, qcv G v) :: (qlv G ls).filter (fun q => !(q.1 == i) && !(q.1 + 1 == i && q.2.category == 2)))) (hk : qk ls i = true) (e : ls.set i (some v) = ls') : qLs G arr nL ls' := by
  subst e
  refine ⟨h.1, h.2.1, fun j w hj => ?_⟩
  by_cases hi : j = i
  · subst hi
    have hl : j < ls.length := by
      have := (List.getElem?_eq_some_iff.mp hj).1
      simpa using this
    rw [List.getElem?_set_self hl] at hj
    cases hj
    exact h.2.2 _ List.mem_cons_self
  · rw [List.getElem?_set_ne (Ne.symm hi)] at hj
    refine h.2.2 (j, qcv G w) (List.mem_cons_of_mem _ (List.mem_filter.mpr ⟨qlv_mem hj, ?_⟩))
    by_cases h1 : j + 1 = i
    · simp [hi, h1, qcv_cat, qk_no hk h1 hj]
    · simp [hi, h1]
theorem qLs.set2 {G : qG} {arr : Array Slot} {nL i : Nat} {ls ls' : List (Option Value)} {v : Value} (h : lv_has arr nL ((i, qcv G v) :: (qlv G ls).filter (fun q => !(q.1 == i) && (!(q.1 == i + 1) && !(q.1 + 1 == i && q.2.category == 2))))) (hk : qk ls i = true) (e : (ls.set i (some v)).set (i + 1) none = ls') : qLs G arr nL ls' := by
  subst e
  refine ⟨h.1, h.2.1, fun j w hj => ?_⟩
  by_cases hi1 : j = i + 1
  · subst hi1
    have hl : i + 1 < ((ls.set i (some v))).length := by
      have := (List.getElem?_eq_some_iff.mp hj).1
      simpa using this
    rw [List.getElem?_set_self hl] at hj
    cases hj
  · rw [List.getElem?_set_ne (Ne.symm hi1)] at hj
    by_cases hi : j = i
    · subst hi
      have hl : j < ls.length := by
        have := (List.getElem?_eq_some_iff.mp hj).1
        simpa using this
      rw [List.getElem?_set_self hl] at hj
      cases hj
      exact h.2.2 _ List.mem_cons_self
    · rw [List.getElem?_set_ne (Ne.symm hi)] at hj
      refine h.2.2 (j, qcv G w) (List.mem_cons_of_mem _ (List.mem_filter.mpr ⟨qlv_mem hj, ?_⟩))
      by_cases h1 : j + 1 = i
      · simp [hi, hi1, h1, qcv_cat, qk_no hk h1 hj]
      · simp [hi, hi1, h1]
section QRULES
variable {G : qG} {R : Room} {Y : qY} {nc ns pc : Nat} {ls ls' : List (Option Value)} {st : List Value} {sh : qSh} {M : qM} {J : qJ} {ρ : qR}
theorem q_iconst {n : Int} {v : Int32} (hd : decode Y.2.1 pc = .ok (.iconst n, 1)) (hv : Int32.ofInt n = v) (k : QW G R Y nc ns (pc + 1) ls (.int v :: st) sh M J ρ) : QW G R Y nc ns pc ls st sh M J ρ := by
  intro p e s m args below meth c H locs arr Z hc hz hR hS hL hZ
  exact lv_iconst hc.1 hc.2.1 hd hv (k p e s m args below meth c H locs arr Z hc hz hR hS hL hZ)
theorem q_bipush {n : Int} {v : Int32} (hd : decode Y.2.1 pc = .ok (.bipush n, 2)) (hv : (Int8.ofInt n).toInt32 = v) (k : QW G R Y nc ns (pc + 2) ls (.int v :: st) sh M J ρ) : QW G R Y nc ns pc ls st sh M J ρ := by
  intro p e s m args below meth c H locs arr Z hc hz hR hS hL hZ
  exact lv_bipush hc.1 hc.2.1 hd hv (k p e s m args below meth c H locs arr Z hc hz hR hS hL hZ)
theorem q_sipush {n : Int} {v : Int32} (hd : decode Y.2.1 pc = .ok (.sipush n, 3)) (hv : (Int16.ofInt n).toInt32 = v) (k : QW G R Y nc ns (pc + 3) ls (.int v :: st) sh M J ρ) : QW G R Y nc ns pc ls st sh M J ρ := by
  intro p e s m args below meth c H locs arr Z hc hz hR hS hL hZ
  exact lv_sipush hc.1 hc.2.1 hd hv (k p e s m args below meth c H locs arr Z hc hz hR hS hL hZ)
theorem q_lconst {n : Fin 2} {v : Int64} (hd : decode Y.2.1 pc = .ok (.lconst n, 1)) (hv : Int64.ofNat (n : Nat) = v) (k : QW G R Y nc ns (pc + 1) ls (.long v :: st) sh M J ρ) : QW G R Y nc ns pc ls st sh M J ρ := by
  intro p e s m args below meth c H locs arr Z hc hz hR hS hL hZ
  exact lv_lconst hc.1 hc.2.1 hd hv (k p e s m args below meth c H locs arr Z hc hz hR hS hL hZ)
theorem q_ldc {i : Nat} {v : Int32} (hd : decode Y.2.1 pc = .ok (.ldc i, 2)) (hw : Cond.constant Y.1.cls i v ∈ qT) (k : QW G R Y nc ns (pc + 2) ls (.int v :: st) sh M J ρ) : QW G R Y nc ns pc ls st sh M J ρ := by
  intro p e s m args below meth c H locs arr Z hc hz hR hS hL hZ
  exact lv_ldc hc.1 hc.2.1 hc.2.2.2.2.2.1 (hc.2.2.2.2.2.2.1 _ hw) hd (k p e s m args below meth c H locs arr Z hc hz hR hS hL hZ)
theorem q_ldcw {i : Nat} {v : Int32} (hd : decode Y.2.1 pc = .ok (.ldc_w i, 3)) (hw : Cond.constant Y.1.cls i v ∈ qT) (k : QW G R Y nc ns (pc + 3) ls (.int v :: st) sh M J ρ) : QW G R Y nc ns pc ls st sh M J ρ := by
  intro p e s m args below meth c H locs arr Z hc hz hR hS hL hZ
  exact lv_ldcw hc.1 hc.2.1 hc.2.2.2.2.2.1 (hc.2.2.2.2.2.2.1 _ hw) hd (k p e s m args below meth c H locs arr Z hc hz hR hS hL hZ)
theorem q_ldc2 {i : Nat} {v : Int64} (hd : decode Y.2.1 pc = .ok (.ldc2_w i, 3)) (hw : Cond.constantLong Y.1.cls i v ∈ qT) (k : QW G R Y nc ns (pc + 3) ls (.long v :: st) sh M J ρ) : QW G R Y nc ns pc ls st sh M J ρ := by
  intro p e s m args below meth c H locs arr Z hc hz hR hS hL hZ
  exact lv_ldc2 hc.1 hc.2.1 hc.2.2.2.2.2.1 (hc.2.2.2.2.2.2.1 _ hw) hd (k p e s m args below meth c H locs arr Z hc hz hR hS hL hZ)
theorem q_iload_n {n : Fin 4} {x : Int32} (hd : decode Y.2.1 pc = .ok (.iload_n n, 1)) (hl : ls[(n : Nat)]? = some (some (.int x))) (k : QW G R Y nc ns (pc + 1) ls (.int x :: st) sh M J ρ) : QW G R Y nc ns pc ls st sh M J ρ := by
  intro p e s m args below meth c H locs arr Z hc hz hR hS hL hZ
  exact lv_iload_n hc.1 hc.2.1 hd rfl (hL.2.2 _ _ hl) (k p e s m args below meth c H locs arr Z hc hz hR hS hL hZ)
theorem q_iload {i : Nat} {x : Int32} (hd : decode Y.2.1 pc = .ok (.iload i, 2)) (hl : ls[i]? = some (some (.int x))) (k : QW G R Y nc ns (pc + 2) ls (.int x :: st) sh M J ρ) : QW G R Y nc ns pc ls st sh M J ρ := by
  intro p e s m args below meth c H locs arr Z hc hz hR hS hL hZ
  exact lv_iload hc.1 hc.2.1 hd (hL.2.2 _ _ hl) (k p e s m args below meth c H locs arr Z hc hz hR hS hL hZ)
theorem q_lload_n {n : Fin 4} {x : Int64} (hd : decode Y.2.1 pc = .ok (.lload_n n, 1)) (hl : ls[(n : Nat)]? = some (some (.long x))) (k : QW G R Y nc ns (pc + 1) ls (.long x :: st) sh M J ρ) : QW G R Y nc ns pc ls st sh M J ρ := by
  intro p e s m args below meth c H locs arr Z hc hz hR hS hL hZ
  exact lv_lload_n hc.1 hc.2.1 hd rfl (hL.2.2 _ _ hl) (k p e s m args below meth c H locs arr Z hc hz hR hS hL hZ)
theorem q_lload {i : Nat} {x : Int64} (hd : decode Y.2.1 pc = .ok (.lload i, 2)) (hl : ls[i]? = some (some (.long x))) (k : QW G R Y nc ns (pc + 2) ls (.long x :: st) sh M J ρ) : QW G R Y nc ns pc ls st sh M J ρ := by
  intro p e s m args below meth c H locs arr Z hc hz hR hS hL hZ
  exact lv_lload hc.1 hc.2.1 hd (hL.2.2 _ _ hl) (k p e s m args below meth c H locs arr Z hc hz hR hS hL hZ)
theorem q_aload_n {n : Fin 4} {x : Nat} (hd : decode Y.2.1 pc = .ok (.aload_n n, 1)) (hl : ls[(n : Nat)]? = some (some (.ref x))) (k : QW G R Y nc ns (pc + 1) ls (.ref x :: st) sh M J ρ) : QW G R Y nc ns pc ls st sh M J ρ := by
  intro p e s m args below meth c H locs arr Z hc hz hR hS hL hZ
  exact lv_aload_n hc.1 hc.2.1 hd rfl (hL.2.2 _ _ hl) (k p e s m args below meth c H locs arr Z hc hz hR hS hL hZ)
theorem q_aload {i : Nat} {x : Nat} (hd : decode Y.2.1 pc = .ok (.aload i, 2)) (hl : ls[i]? = some (some (.ref x))) (k : QW G R Y nc ns (pc + 2) ls (.ref x :: st) sh M J ρ) : QW G R Y nc ns pc ls st sh M J ρ := by
  intro p e s m args below meth c H locs arr Z hc hz hR hS hL hZ
  exact lv_aload hc.1 hc.2.1 hd (hL.2.2 _ _ hl) (k p e s m args below meth c H locs arr Z hc hz hR hS hL hZ)
theorem q_istore_n {n : Fin 4} {x : Int32} (hd : decode Y.2.1 pc = .ok (.istore_n n, 1)) (hn : (n : Nat) < Y.2.2.1) (hk : qk ls (n : Nat) = true) (he : ls.set (n : Nat) (some (.int x)) = ls') (k : QW G R Y nc ns (pc + 1) ls' st sh M J ρ) : QW G R Y nc ns pc ls ((.int x) :: st) sh M J ρ := by
  intro p e s m args below meth c H locs arr Z hc hz hR hS hL hZ
  exact lv_istore_n hc.1 hc.2.1 hd rfl hL.has hn rfl (fun arr' h' => k p e s m args below meth c H locs arr' Z hc hz hR hS (qLs.set1 h' hk he) hZ)
theorem q_istore {i : Nat} {x : Int32} (hd : decode Y.2.1 pc = .ok (.istore i, 2)) (hn : i < Y.2.2.1) (hk : qk ls i = true) (he : ls.set i (some (.int x)) = ls') (k : QW G R Y nc ns (pc + 2) ls' st sh M J ρ) : QW G R Y nc ns pc ls ((.int x) :: st) sh M J ρ := by
  intro p e s m args below meth c H locs arr Z hc hz hR hS hL hZ
  exact lv_istore hc.1 hc.2.1 hd hL.has hn rfl (fun arr' h' => k p e s m args below meth c H locs arr' Z hc hz hR hS (qLs.set1 h' hk he) hZ)
theorem q_lstore_n {n : Fin 4} {x : Int64} (hd : decode Y.2.1 pc = .ok (.lstore_n n, 1)) (hn : (n : Nat) + 1 < Y.2.2.1) (hk : qk ls (n : Nat) = true) (he : (ls.set (n : Nat) (some (.long x))).set ((n : Nat) + 1) none = ls') (k : QW G R Y nc ns (pc + 1) ls' st sh M J ρ) : QW G R Y nc ns pc ls ((.long x) :: st) sh M J ρ := by
  intro p e s m args below meth c H locs arr Z hc hz hR hS hL hZ
  exact lv_lstore_n hc.1 hc.2.1 hd rfl hL.has hn rfl (fun arr' h' => k p e s m args below meth c H locs arr' Z hc hz hR hS (qLs.set2 h' hk he) hZ)
theorem q_lstore {i : Nat} {x : Int64} (hd : decode Y.2.1 pc = .ok (.lstore i, 2)) (hn : i + 1 < Y.2.2.1) (hk : qk ls i = true) (he : (ls.set i (some (.long x))).set (i + 1) none = ls') (k : QW G R Y nc ns (pc + 2) ls' st sh M J ρ) : QW G R Y nc ns pc ls ((.long x) :: st) sh M J ρ := by
  intro p e s m args below meth c H locs arr Z hc hz hR hS hL hZ
  exact lv_lstore hc.1 hc.2.1 hd hL.has hn rfl (fun arr' h' => k p e s m args below meth c H locs arr' Z hc hz hR hS (qLs.set2 h' hk he) hZ)
theorem q_astore_n {n : Fin 4} {x : Nat} (hd : decode Y.2.1 pc = .ok (.astore_n n, 1)) (hn : (n : Nat) < Y.2.2.1) (hk : qk ls (n : Nat) = true) (he : ls.set (n : Nat) (some (.ref x)) = ls') (k : QW G R Y nc ns (pc + 1) ls' st sh M J ρ) : QW G R Y nc ns pc ls ((.ref x) :: st) sh M J ρ := by
  intro p e s m args below meth c H locs arr Z hc hz hR hS hL hZ
  exact lv_astore_n hc.1 hc.2.1 hd rfl hL.has hn rfl (fun arr' h' => k p e s m args below meth c H locs arr' Z hc hz hR hS (qLs.set1 h' hk he) hZ)
theorem q_iinc {i : Nat} {n : Int} {x v : Int32} (hd : decode Y.2.1 pc = .ok (.iinc i n, 3)) (hl : ls[i]? = some (some (.int x))) (hv : x + Int32.ofInt n = v) (hn : i < Y.2.2.1) (hk : qk ls i = true) (he : ls.set i (some (.int v)) = ls') (k : QW G R Y nc ns (pc + 3) ls' st sh M J ρ) : QW G R Y nc ns pc ls st sh M J ρ := by
  intro p e s m args below meth c H locs arr Z hc hz hR hS hL hZ
  obtain ⟨j, hj⟩ := List.getElem?_of_mem (qlv_mem (G := G) hl)
  exact lv_iinc hc.1 hc.2.1 hd hL.has hj hv hn rfl (fun arr' h' => k p e s m args below meth c H locs arr' Z hc hz hR hS (qLs.set1 (v := .int v) h' hk he) hZ)
theorem q_iadd {x y : Int32} (hd : decode Y.2.1 pc = .ok (.iadd, 1)) (k : QW G R Y nc ns (pc + 1) ls (.int (x + y) :: st) sh M J ρ) : QW G R Y nc ns pc ls (.int y :: .int x :: st) sh M J ρ := by
  intro p e s m args below meth c H locs arr Z hc hz hR hS hL hZ
  exact lv_iadd hc.1 hc.2.1 hd (k p e s m args below meth c H locs arr Z hc hz hR hS hL hZ)
theorem q_isub {x y : Int32} (hd : decode Y.2.1 pc = .ok (.isub, 1)) (k : QW G R Y nc ns (pc + 1) ls (.int (x - y) :: st) sh M J ρ) : QW G R Y nc ns pc ls (.int y :: .int x :: st) sh M J ρ := by
  intro p e s m args below meth c H locs arr Z hc hz hR hS hL hZ
  exact lv_isub hc.1 hc.2.1 hd (k p e s m args below meth c H locs arr Z hc hz hR hS hL hZ)
theorem q_imul {x y : Int32} (hd : decode Y.2.1 pc = .ok (.imul, 1)) (k : QW G R Y nc ns (pc + 1) ls (.int (x * y) :: st) sh M J ρ) : QW G R Y nc ns pc ls (.int y :: .int x :: st) sh M J ρ := by
  intro p e s m args below meth c H locs arr Z hc hz hR hS hL hZ
  exact lv_imul hc.1 hc.2.1 hd (k p e s m args below meth c H locs arr Z hc hz hR hS hL hZ)
theorem q_iand {x y : Int32} (hd : decode Y.2.1 pc = .ok (.iand, 1)) (k : QW G R Y nc ns (pc + 1) ls (.int (x &&& y) :: st) sh M J ρ) : QW G R Y nc ns pc ls (.int y :: .int x :: st) sh M J ρ := by
  intro p e s m args below meth c H locs arr Z hc hz hR hS hL hZ
  exact lv_iand hc.1 hc.2.1 hd (k p e s m args below meth c H locs arr Z hc hz hR hS hL hZ)
theorem q_ior {x y : Int32} (hd : decode Y.2.1 pc = .ok (.ior, 1)) (k : QW G R Y nc ns (pc + 1) ls (.int (x ||| y) :: st) sh M J ρ) : QW G R Y nc ns pc ls (.int y :: .int x :: st) sh M J ρ := by
  intro p e s m args below meth c H locs arr Z hc hz hR hS hL hZ
  exact lv_ior hc.1 hc.2.1 hd (k p e s m args below meth c H locs arr Z hc hz hR hS hL hZ)
theorem q_ixor {x y : Int32} (hd : decode Y.2.1 pc = .ok (.ixor, 1)) (k : QW G R Y nc ns (pc + 1) ls (.int (x ^^^ y) :: st) sh M J ρ) : QW G R Y nc ns pc ls (.int y :: .int x :: st) sh M J ρ := by
  intro p e s m args below meth c H locs arr Z hc hz hR hS hL hZ
  exact lv_ixor hc.1 hc.2.1 hd (k p e s m args below meth c H locs arr Z hc hz hR hS hL hZ)
theorem q_ishl {x y : Int32} (hd : decode Y.2.1 pc = .ok (.ishl, 1)) (k : QW G R Y nc ns (pc + 1) ls (.int (x <<< (y &&& 31)) :: st) sh M J ρ) : QW G R Y nc ns pc ls (.int y :: .int x :: st) sh M J ρ := by
  intro p e s m args below meth c H locs arr Z hc hz hR hS hL hZ
  exact lv_ishl hc.1 hc.2.1 hd (k p e s m args below meth c H locs arr Z hc hz hR hS hL hZ)
theorem q_ishr {x y : Int32} (hd : decode Y.2.1 pc = .ok (.ishr, 1)) (k : QW G R Y nc ns (pc + 1) ls (.int (x >>> (y &&& 31)) :: st) sh M J ρ) : QW G R Y nc ns pc ls (.int y :: .int x :: st) sh M J ρ := by
  intro p e s m args below meth c H locs arr Z hc hz hR hS hL hZ
  exact lv_ishr hc.1 hc.2.1 hd (k p e s m args below meth c H locs arr Z hc hz hR hS hL hZ)
theorem q_iushr {x y : Int32} (hd : decode Y.2.1 pc = .ok (.iushr, 1)) (k : QW G R Y nc ns (pc + 1) ls (.int (x.toUInt32 >>> (y.toUInt32 &&& Int32.toUInt32 31)).toInt32 :: st) sh M J ρ) : QW G R Y nc ns pc ls (.int y :: .int x :: st) sh M J ρ := by
  intro p e s m args below meth c H locs arr Z hc hz hR hS hL hZ
  exact lv_iushr hc.1 hc.2.1 hd rfl (k p e s m args below meth c H locs arr Z hc hz hR hS hL hZ)
def qdiv (x y : Int32) : Option Int32 := if y = 0 then none else some (x / y)
def qrem (x y : Int32) : Option Int32 := if y = 0 then none else some (x - x / y * y)
def qldiv (x y : Int64) : Option Int64 := if y = 0 then none else some (x / y)
def qlrem (x y : Int64) : Option Int64 := if y = 0 then none else some (x - x / y * y)
def qrd (M : qM) (q n : Nat) (i : Int32) : Option Int32 := if i < 0 ∨ n ≤ i.toNatClampNeg then none else some (M q i.toNatClampNeg)
def qwr (M : qM) (q n : Nat) (i x : Int32) : Option qM := if i < 0 ∨ n ≤ i.toNatClampNeg then none else some (qu M q i.toNatClampNeg x)
def qwz (M : qM) (q n : Nat) (i x : Int32) : Option qM := if i < 0 ∨ n ≤ i.toNatClampNeg then none else some (qu M q i.toNatClampNeg (vp_nar .boolean x))
def qsc (f : Nat → Int32) (n : Nat) (i : Int32) : Option Int32 := if i < 0 ∨ n ≤ i.toNatClampNeg then none else some (f i.toNatClampNeg)
def qco (M : qM) (q0 q1 n0 n1 : Nat) (sp dp n : Int32) : Option qM := if sp < 0 ∨ dp < 0 ∨ n < 0 ∨ n0 < sp.toNatClampNeg + n.toNatClampNeg ∨ n1 < dp.toNatClampNeg + n.toNatClampNeg then none else some (qcp M q0 q1 sp.toNatClampNeg dp.toNatClampNeg n.toNatClampNeg)
theorem qif {α : Type} {c : Prop} [Decidable c] {a : α} {x : α} (h : (if c then none else some a) = some x) : ¬ c ∧ a = x := by
  split at h
  · cases h
  · exact ⟨‹_›, Option.some.inj h⟩
theorem q_idiv {x y v : Int32} (hd : decode Y.2.1 pc = .ok (.idiv, 1)) (hv : qdiv x y = some v) (k : QW G R Y nc ns (pc + 1) ls (.int v :: st) sh M J ρ) : QW G R Y nc ns pc ls (.int y :: .int x :: st) sh M J ρ := by
  intro p e s m args below meth c H locs arr Z hc hz hR hS hL hZ
  obtain ⟨h0, rfl⟩ := qif hv
  exact lv_idiv hc.1 hc.2.1 hd h0 (k p e s m args below meth c H locs arr Z hc hz hR hS hL hZ)
theorem q_irem {x y v : Int32} (hd : decode Y.2.1 pc = .ok (.irem, 1)) (hv : qrem x y = some v) (k : QW G R Y nc ns (pc + 1) ls (.int v :: st) sh M J ρ) : QW G R Y nc ns pc ls (.int y :: .int x :: st) sh M J ρ := by
  intro p e s m args below meth c H locs arr Z hc hz hR hS hL hZ
  obtain ⟨h0, rfl⟩ := qif hv
  exact lv_irem hc.1 hc.2.1 hd h0 (k p e s m args below meth c H locs arr Z hc hz hR hS hL hZ)
theorem q_ldiv {x y v : Int64} (hd : decode Y.2.1 pc = .ok (.ldiv, 1)) (hv : qldiv x y = some v) (k : QW G R Y nc ns (pc + 1) ls (.long v :: st) sh M J ρ) : QW G R Y nc ns pc ls (.long y :: .long x :: st) sh M J ρ := by
  intro p e s m args below meth c H locs arr Z hc hz hR hS hL hZ
  obtain ⟨h0, rfl⟩ := qif hv
  exact lv_ldiv hc.1 hc.2.1 hd h0 (k p e s m args below meth c H locs arr Z hc hz hR hS hL hZ)
theorem q_lrem {x y v : Int64} (hd : decode Y.2.1 pc = .ok (.lrem, 1)) (hv : qlrem x y = some v) (k : QW G R Y nc ns (pc + 1) ls (.long v :: st) sh M J ρ) : QW G R Y nc ns pc ls (.long y :: .long x :: st) sh M J ρ := by
  intro p e s m args below meth c H locs arr Z hc hz hR hS hL hZ
  obtain ⟨h0, rfl⟩ := qif hv
  exact lv_lrem hc.1 hc.2.1 hd h0 (k p e s m args below meth c H locs arr Z hc hz hR hS hL hZ)
theorem q_ladd {x y : Int64} (hd : decode Y.2.1 pc = .ok (.ladd, 1)) (k : QW G R Y nc ns (pc + 1) ls (.long (x + y) :: st) sh M J ρ) : QW G R Y nc ns pc ls (.long y :: .long x :: st) sh M J ρ := by
  intro p e s m args below meth c H locs arr Z hc hz hR hS hL hZ
  exact lv_ladd hc.1 hc.2.1 hd (k p e s m args below meth c H locs arr Z hc hz hR hS hL hZ)
theorem q_lmul {x y : Int64} (hd : decode Y.2.1 pc = .ok (.lmul, 1)) (k : QW G R Y nc ns (pc + 1) ls (.long (x * y) :: st) sh M J ρ) : QW G R Y nc ns pc ls (.long y :: .long x :: st) sh M J ρ := by
  intro p e s m args below meth c H locs arr Z hc hz hR hS hL hZ
  exact lv_lmul hc.1 hc.2.1 hd (k p e s m args below meth c H locs arr Z hc hz hR hS hL hZ)
theorem q_land {x y : Int64} (hd : decode Y.2.1 pc = .ok (.land, 1)) (k : QW G R Y nc ns (pc + 1) ls (.long (x &&& y) :: st) sh M J ρ) : QW G R Y nc ns pc ls (.long y :: .long x :: st) sh M J ρ := by
  intro p e s m args below meth c H locs arr Z hc hz hR hS hL hZ
  exact lv_land hc.1 hc.2.1 hd (k p e s m args below meth c H locs arr Z hc hz hR hS hL hZ)
theorem q_lsub {x y : Int64} (hd : decode Y.2.1 pc = .ok (.lsub, 1)) (k : QW G R Y nc ns (pc + 1) ls (.long (x - y) :: st) sh M J ρ) : QW G R Y nc ns pc ls (.long y :: .long x :: st) sh M J ρ := by
  intro p e s m args below meth c H locs arr Z hc hz hR hS hL hZ
  exact lv_lsub hc.1 hc.2.1 hd (k p e s m args below meth c H locs arr Z hc hz hR hS hL hZ)
theorem q_lcmp {x y : Int64} (hd : decode Y.2.1 pc = .ok (.lcmp, 1)) (k : QW G R Y nc ns (pc + 1) ls (.int (lg_cmp x y) :: st) sh M J ρ) : QW G R Y nc ns pc ls (.long y :: .long x :: st) sh M J ρ := by
  intro p e s m args below meth c H locs arr Z hc hz hR hS hL hZ
  exact W.lcmp hc.1 hc.2.1 hd (k p e s m args below meth c H locs arr Z hc hz hR hS hL hZ)
theorem q_i2l {x : Int32} (hd : decode Y.2.1 pc = .ok (.i2l, 1)) (k : QW G R Y nc ns (pc + 1) ls (.long x.toInt64 :: st) sh M J ρ) : QW G R Y nc ns pc ls (.int x :: st) sh M J ρ := by
  intro p e s m args below meth c H locs arr Z hc hz hR hS hL hZ
  exact lv_i2l hc.1 hc.2.1 hd rfl (k p e s m args below meth c H locs arr Z hc hz hR hS hL hZ)
theorem q_l2i {x : Int64} (hd : decode Y.2.1 pc = .ok (.l2i, 1)) (k : QW G R Y nc ns (pc + 1) ls (.int x.toInt32 :: st) sh M J ρ) : QW G R Y nc ns pc ls (.long x :: st) sh M J ρ := by
  intro p e s m args below meth c H locs arr Z hc hz hR hS hL hZ
  exact lv_l2i hc.1 hc.2.1 hd rfl (k p e s m args below meth c H locs arr Z hc hz hR hS hL hZ)
theorem q_dup {v : Value} (hd : decode Y.2.1 pc = .ok (.dup, 1)) (h1 : v.category = 1) (k : QW G R Y nc ns (pc + 1) ls (v :: v :: st) sh M J ρ) : QW G R Y nc ns pc ls (v :: st) sh M J ρ := by
  intro p e s m args below meth c H locs arr Z hc hz hR hS hL hZ
  exact lv_dup hc.1 hc.2.1 hd (by rw [qcv_cat]; exact h1) (k p e s m args below meth c H locs arr Z hc hz hR hS hL hZ)
theorem q_dup2 {v w : Value} (hd : decode Y.2.1 pc = .ok (.dup2, 1)) (h1 : v.category = 1) (h2 : w.category = 1) (k : QW G R Y nc ns (pc + 1) ls (v :: w :: v :: w :: st) sh M J ρ) : QW G R Y nc ns pc ls (v :: w :: st) sh M J ρ := by
  intro p e s m args below meth c H locs arr Z hc hz hR hS hL hZ
  exact lv_dup2_11 hc.1 hc.2.1 hd (by rw [qcv_cat]; exact h1) (by rw [qcv_cat]; exact h2) (k p e s m args below meth c H locs arr Z hc hz hR hS hL hZ)
theorem q_dup_x2 {v w u : Value} (hd : decode Y.2.1 pc = .ok (.dup_x2, 1)) (h1 : v.category = 1) (h2 : w.category = 1) (h3 : u.category = 1) (k : QW G R Y nc ns (pc + 1) ls (v :: w :: u :: v :: st) sh M J ρ) : QW G R Y nc ns pc ls (v :: w :: u :: st) sh M J ρ := by
  intro p e s m args below meth c H locs arr Z hc hz hR hS hL hZ
  exact lv_dup_x2 hc.1 hc.2.1 hd (by rw [qcv_cat]; exact h1) (by rw [qcv_cat]; exact h2) (by rw [qcv_cat]; exact h3) (k p e s m args below meth c H locs arr Z hc hz hR hS hL hZ)
theorem q_goto {off : Int} {tgt : Nat} (hd : decode Y.2.1 pc = .ok (.goto off, 3)) (ht : (pc : Int) + off = (tgt : Int)) (k : QW G R Y nc ns tgt ls st sh M J ρ) : QW G R Y nc ns pc ls st sh M J ρ := by
  intro p e s m args below meth c H locs arr Z hc hz hR hS hL hZ
  exact lv_goto hc.1 hc.2.1 hd ht (k p e s m args below meth c H locs arr Z hc hz hR hS hL hZ)
theorem q_if_eq_t {x : Int32} {off : Int} {tgt : Nat} (hd : decode Y.2.1 pc = .ok (.ifCond .eq off, 3)) (ht : (pc : Int) + off = (tgt : Int)) (hp : x = 0) (k : QW G R Y nc ns tgt ls st sh M J ρ) : QW G R Y nc ns pc ls (.int x :: st) sh M J ρ := by
  intro p e s m args below meth c H locs arr Z hc hz hR hS hL hZ
  exact lv_if_eq hc.1 hc.2.1 hd ht (fun _ => (k p e s m args below meth c H locs arr Z hc hz hR hS hL hZ)) (fun h => absurd hp h)
theorem q_if_eq_f {x : Int32} {off : Int} {tgt : Nat} (hd : decode Y.2.1 pc = .ok (.ifCond .eq off, 3)) (ht : (pc : Int) + off = (tgt : Int)) (hp : ¬ x = 0) (k : QW G R Y nc ns (pc + 3) ls st sh M J ρ) : QW G R Y nc ns pc ls (.int x :: st) sh M J ρ := by
  intro p e s m args below meth c H locs arr Z hc hz hR hS hL hZ
  exact lv_if_eq hc.1 hc.2.1 hd ht (fun h => absurd h hp) (fun _ => (k p e s m args below meth c H locs arr Z hc hz hR hS hL hZ))
theorem q_icmp_eq_t {x y : Int32} {off : Int} {tgt : Nat} (hd : decode Y.2.1 pc = .ok (.if_icmp .eq off, 3)) (ht : (pc : Int) + off = (tgt : Int)) (hp : x = y) (k : QW G R Y nc ns tgt ls st sh M J ρ) : QW G R Y nc ns pc ls (.int y :: .int x :: st) sh M J ρ := by
  intro p e s m args below meth c H locs arr Z hc hz hR hS hL hZ
  exact lv_icmp_eq hc.1 hc.2.1 hd ht (fun _ => (k p e s m args below meth c H locs arr Z hc hz hR hS hL hZ)) (fun h => absurd hp h)
theorem q_icmp_eq_f {x y : Int32} {off : Int} {tgt : Nat} (hd : decode Y.2.1 pc = .ok (.if_icmp .eq off, 3)) (ht : (pc : Int) + off = (tgt : Int)) (hp : ¬ x = y) (k : QW G R Y nc ns (pc + 3) ls st sh M J ρ) : QW G R Y nc ns pc ls (.int y :: .int x :: st) sh M J ρ := by
  intro p e s m args below meth c H locs arr Z hc hz hR hS hL hZ
  exact lv_icmp_eq hc.1 hc.2.1 hd ht (fun h => absurd h hp) (fun _ => (k p e s m args below meth c H locs arr Z hc hz hR hS hL hZ))
theorem q_if_ne_t {x : Int32} {off : Int} {tgt : Nat} (hd : decode Y.2.1 pc = .ok (.ifCond .ne off, 3)) (ht : (pc : Int) + off = (tgt : Int)) (hp : ¬ x = 0) (k : QW G R Y nc ns tgt ls st sh M J ρ) : QW G R Y nc ns pc ls (.int x :: st) sh M J ρ := by
  intro p e s m args below meth c H locs arr Z hc hz hR hS hL hZ
  exact lv_if_ne hc.1 hc.2.1 hd ht (fun _ => (k p e s m args below meth c H locs arr Z hc hz hR hS hL hZ)) (fun h => absurd h hp)
theorem q_if_ne_f {x : Int32} {off : Int} {tgt : Nat} (hd : decode Y.2.1 pc = .ok (.ifCond .ne off, 3)) (ht : (pc : Int) + off = (tgt : Int)) (hp : x = 0) (k : QW G R Y nc ns (pc + 3) ls st sh M J ρ) : QW G R Y nc ns pc ls (.int x :: st) sh M J ρ := by
  intro p e s m args below meth c H locs arr Z hc hz hR hS hL hZ
  exact lv_if_ne hc.1 hc.2.1 hd ht (fun h => absurd hp h) (fun _ => (k p e s m args below meth c H locs arr Z hc hz hR hS hL hZ))
theorem q_icmp_ne_t {x y : Int32} {off : Int} {tgt : Nat} (hd : decode Y.2.1 pc = .ok (.if_icmp .ne off, 3)) (ht : (pc : Int) + off = (tgt : Int)) (hp : ¬ x = y) (k : QW G R Y nc ns tgt ls st sh M J ρ) : QW G R Y nc ns pc ls (.int y :: .int x :: st) sh M J ρ := by
  intro p e s m args below meth c H locs arr Z hc hz hR hS hL hZ
  exact lv_icmp_ne hc.1 hc.2.1 hd ht (fun _ => (k p e s m args below meth c H locs arr Z hc hz hR hS hL hZ)) (fun h => absurd h hp)
theorem q_icmp_ne_f {x y : Int32} {off : Int} {tgt : Nat} (hd : decode Y.2.1 pc = .ok (.if_icmp .ne off, 3)) (ht : (pc : Int) + off = (tgt : Int)) (hp : x = y) (k : QW G R Y nc ns (pc + 3) ls st sh M J ρ) : QW G R Y nc ns pc ls (.int y :: .int x :: st) sh M J ρ := by
  intro p e s m args below meth c H locs arr Z hc hz hR hS hL hZ
  exact lv_icmp_ne hc.1 hc.2.1 hd ht (fun h => absurd hp h) (fun _ => (k p e s m args below meth c H locs arr Z hc hz hR hS hL hZ))
theorem q_if_lt_t {x : Int32} {off : Int} {tgt : Nat} (hd : decode Y.2.1 pc = .ok (.ifCond .lt off, 3)) (ht : (pc : Int) + off = (tgt : Int)) (hp : x < 0) (k : QW G R Y nc ns tgt ls st sh M J ρ) : QW G R Y nc ns pc ls (.int x :: st) sh M J ρ := by
  intro p e s m args below meth c H locs arr Z hc hz hR hS hL hZ
  exact lv_if_lt hc.1 hc.2.1 hd ht (fun _ => (k p e s m args below meth c H locs arr Z hc hz hR hS hL hZ)) (fun h => absurd hp h)
theorem q_if_lt_f {x : Int32} {off : Int} {tgt : Nat} (hd : decode Y.2.1 pc = .ok (.ifCond .lt off, 3)) (ht : (pc : Int) + off = (tgt : Int)) (hp : ¬ x < 0) (k : QW G R Y nc ns (pc + 3) ls st sh M J ρ) : QW G R Y nc ns pc ls (.int x :: st) sh M J ρ := by
  intro p e s m args below meth c H locs arr Z hc hz hR hS hL hZ
  exact lv_if_lt hc.1 hc.2.1 hd ht (fun h => absurd h hp) (fun _ => (k p e s m args below meth c H locs arr Z hc hz hR hS hL hZ))
theorem q_icmp_lt_t {x y : Int32} {off : Int} {tgt : Nat} (hd : decode Y.2.1 pc = .ok (.if_icmp .lt off, 3)) (ht : (pc : Int) + off = (tgt : Int)) (hp : x < y) (k : QW G R Y nc ns tgt ls st sh M J ρ) : QW G R Y nc ns pc ls (.int y :: .int x :: st) sh M J ρ := by
  intro p e s m args below meth c H locs arr Z hc hz hR hS hL hZ
  exact lv_icmp_lt hc.1 hc.2.1 hd ht (fun _ => (k p e s m args below meth c H locs arr Z hc hz hR hS hL hZ)) (fun h => absurd hp h)
theorem q_icmp_lt_f {x y : Int32} {off : Int} {tgt : Nat} (hd : decode Y.2.1 pc = .ok (.if_icmp .lt off, 3)) (ht : (pc : Int) + off = (tgt : Int)) (hp : ¬ x < y) (k : QW G R Y nc ns (pc + 3) ls st sh M J ρ) : QW G R Y nc ns pc ls (.int y :: .int x :: st) sh M J ρ := by
  intro p e s m args below meth c H locs arr Z hc hz hR hS hL hZ
  exact lv_icmp_lt hc.1 hc.2.1 hd ht (fun h => absurd h hp) (fun _ => (k p e s m args below meth c H locs arr Z hc hz hR hS hL hZ))
theorem q_if_ge_t {x : Int32} {off : Int} {tgt : Nat} (hd : decode Y.2.1 pc = .ok (.ifCond .ge off, 3)) (ht : (pc : Int) + off = (tgt : Int)) (hp : 0 ≤ x) (k : QW G R Y nc ns tgt ls st sh M J ρ) : QW G R Y nc ns pc ls (.int x :: st) sh M J ρ := by
  intro p e s m args below meth c H locs arr Z hc hz hR hS hL hZ
  exact lv_if_ge hc.1 hc.2.1 hd ht (fun _ => (k p e s m args below meth c H locs arr Z hc hz hR hS hL hZ)) (fun h => absurd hp h)
theorem q_if_ge_f {x : Int32} {off : Int} {tgt : Nat} (hd : decode Y.2.1 pc = .ok (.ifCond .ge off, 3)) (ht : (pc : Int) + off = (tgt : Int)) (hp : ¬ 0 ≤ x) (k : QW G R Y nc ns (pc + 3) ls st sh M J ρ) : QW G R Y nc ns pc ls (.int x :: st) sh M J ρ := by
  intro p e s m args below meth c H locs arr Z hc hz hR hS hL hZ
  exact lv_if_ge hc.1 hc.2.1 hd ht (fun h => absurd h hp) (fun _ => (k p e s m args below meth c H locs arr Z hc hz hR hS hL hZ))
theorem q_icmp_ge_t {x y : Int32} {off : Int} {tgt : Nat} (hd : decode Y.2.1 pc = .ok (.if_icmp .ge off, 3)) (ht : (pc : Int) + off = (tgt : Int)) (hp : y ≤ x) (k : QW G R Y nc ns tgt ls st sh M J ρ) : QW G R Y nc ns pc ls (.int y :: .int x :: st) sh M J ρ := by
  intro p e s m args below meth c H locs arr Z hc hz hR hS hL hZ
  exact lv_icmp_ge hc.1 hc.2.1 hd ht (fun _ => (k p e s m args below meth c H locs arr Z hc hz hR hS hL hZ)) (fun h => absurd hp h)
theorem q_icmp_ge_f {x y : Int32} {off : Int} {tgt : Nat} (hd : decode Y.2.1 pc = .ok (.if_icmp .ge off, 3)) (ht : (pc : Int) + off = (tgt : Int)) (hp : ¬ y ≤ x) (k : QW G R Y nc ns (pc + 3) ls st sh M J ρ) : QW G R Y nc ns pc ls (.int y :: .int x :: st) sh M J ρ := by
  intro p e s m args below meth c H locs arr Z hc hz hR hS hL hZ
  exact lv_icmp_ge hc.1 hc.2.1 hd ht (fun h => absurd h hp) (fun _ => (k p e s m args below meth c H locs arr Z hc hz hR hS hL hZ))
theorem q_if_gt_t {x : Int32} {off : Int} {tgt : Nat} (hd : decode Y.2.1 pc = .ok (.ifCond .gt off, 3)) (ht : (pc : Int) + off = (tgt : Int)) (hp : 0 < x) (k : QW G R Y nc ns tgt ls st sh M J ρ) : QW G R Y nc ns pc ls (.int x :: st) sh M J ρ := by
  intro p e s m args below meth c H locs arr Z hc hz hR hS hL hZ
  exact lv_if_gt hc.1 hc.2.1 hd ht (fun _ => (k p e s m args below meth c H locs arr Z hc hz hR hS hL hZ)) (fun h => absurd hp h)
theorem q_if_gt_f {x : Int32} {off : Int} {tgt : Nat} (hd : decode Y.2.1 pc = .ok (.ifCond .gt off, 3)) (ht : (pc : Int) + off = (tgt : Int)) (hp : ¬ 0 < x) (k : QW G R Y nc ns (pc + 3) ls st sh M J ρ) : QW G R Y nc ns pc ls (.int x :: st) sh M J ρ := by
  intro p e s m args below meth c H locs arr Z hc hz hR hS hL hZ
  exact lv_if_gt hc.1 hc.2.1 hd ht (fun h => absurd h hp) (fun _ => (k p e s m args below meth c H locs arr Z hc hz hR hS hL hZ))
theorem q_icmp_gt_t {x y : Int32} {off : Int} {tgt : Nat} (hd : decode Y.2.1 pc = .ok (.if_icmp .gt off, 3)) (ht : (pc : Int) + off = (tgt : Int)) (hp : y < x) (k : QW G R Y nc ns tgt ls st sh M J ρ) : QW G R Y nc ns pc ls (.int y :: .int x :: st) sh M J ρ := by
  intro p e s m args below meth c H locs arr Z hc hz hR hS hL hZ
  exact lv_icmp_gt hc.1 hc.2.1 hd ht (fun _ => (k p e s m args below meth c H locs arr Z hc hz hR hS hL hZ)) (fun h => absurd hp h)
theorem q_icmp_gt_f {x y : Int32} {off : Int} {tgt : Nat} (hd : decode Y.2.1 pc = .ok (.if_icmp .gt off, 3)) (ht : (pc : Int) + off = (tgt : Int)) (hp : ¬ y < x) (k : QW G R Y nc ns (pc + 3) ls st sh M J ρ) : QW G R Y nc ns pc ls (.int y :: .int x :: st) sh M J ρ := by
  intro p e s m args below meth c H locs arr Z hc hz hR hS hL hZ
  exact lv_icmp_gt hc.1 hc.2.1 hd ht (fun h => absurd h hp) (fun _ => (k p e s m args below meth c H locs arr Z hc hz hR hS hL hZ))
theorem q_if_le_t {x : Int32} {off : Int} {tgt : Nat} (hd : decode Y.2.1 pc = .ok (.ifCond .le off, 3)) (ht : (pc : Int) + off = (tgt : Int)) (hp : x ≤ 0) (k : QW G R Y nc ns tgt ls st sh M J ρ) : QW G R Y nc ns pc ls (.int x :: st) sh M J ρ := by
  intro p e s m args below meth c H locs arr Z hc hz hR hS hL hZ
  exact lv_if_le hc.1 hc.2.1 hd ht (fun _ => (k p e s m args below meth c H locs arr Z hc hz hR hS hL hZ)) (fun h => absurd hp h)
theorem q_if_le_f {x : Int32} {off : Int} {tgt : Nat} (hd : decode Y.2.1 pc = .ok (.ifCond .le off, 3)) (ht : (pc : Int) + off = (tgt : Int)) (hp : ¬ x ≤ 0) (k : QW G R Y nc ns (pc + 3) ls st sh M J ρ) : QW G R Y nc ns pc ls (.int x :: st) sh M J ρ := by
  intro p e s m args below meth c H locs arr Z hc hz hR hS hL hZ
  exact lv_if_le hc.1 hc.2.1 hd ht (fun h => absurd h hp) (fun _ => (k p e s m args below meth c H locs arr Z hc hz hR hS hL hZ))
theorem q_icmp_le_t {x y : Int32} {off : Int} {tgt : Nat} (hd : decode Y.2.1 pc = .ok (.if_icmp .le off, 3)) (ht : (pc : Int) + off = (tgt : Int)) (hp : x ≤ y) (k : QW G R Y nc ns tgt ls st sh M J ρ) : QW G R Y nc ns pc ls (.int y :: .int x :: st) sh M J ρ := by
  intro p e s m args below meth c H locs arr Z hc hz hR hS hL hZ
  exact lv_icmp_le hc.1 hc.2.1 hd ht (fun _ => (k p e s m args below meth c H locs arr Z hc hz hR hS hL hZ)) (fun h => absurd hp h)
theorem q_icmp_le_f {x y : Int32} {off : Int} {tgt : Nat} (hd : decode Y.2.1 pc = .ok (.if_icmp .le off, 3)) (ht : (pc : Int) + off = (tgt : Int)) (hp : ¬ x ≤ y) (k : QW G R Y nc ns (pc + 3) ls st sh M J ρ) : QW G R Y nc ns pc ls (.int y :: .int x :: st) sh M J ρ := by
  intro p e s m args below meth c H locs arr Z hc hz hR hS hL hZ
  exact lv_icmp_le hc.1 hc.2.1 hd ht (fun h => absurd h hp) (fun _ => (k p e s m args below meth c H locs arr Z hc hz hR hS hL hZ))
theorem q_tabOut {dflt lo hi : Int} {offs : Array Int} {len : Nat} {x : Int32} {tgt : Nat} (hd : decode Y.2.1 pc = .ok (.tableswitch dflt lo hi offs, len)) (h : x.toInt < lo ∨ hi < x.toInt) (ht : (pc : Int) + dflt = (tgt : Int)) (k : QW G R Y nc ns tgt ls st sh M J ρ) : QW G R Y nc ns pc ls (.int x :: st) sh M J ρ := by
  intro p e s m args below meth c H locs arr Z hc hz hR hS hL hZ
  exact lv_tableOut hc.1 hc.2.1 hd h ht (k p e s m args below meth c H locs arr Z hc hz hR hS hL hZ)
theorem q_tabIn {dflt lo hi : Int} {offs : Array Int} {len : Nat} {x : Int32} {off : Int} {tgt : Nat} (hd : decode Y.2.1 pc = .ok (.tableswitch dflt lo hi offs, len)) {j : Int} (hx : x.toInt = j) (h1 : ¬ j < lo) (h2 : ¬ hi < j) (ho : offs[(j - lo).toNat]? = some off) (ht : (pc : Int) + off = (tgt : Int)) (k : QW G R Y nc ns tgt ls st sh M J ρ) : QW G R Y nc ns pc ls (.int x :: st) sh M J ρ := by
  intro p e s m args below meth c H locs arr Z hc hz hR hS hL hZ
  subst hx
  exact lv_tableIn hc.1 hc.2.1 hd h1 h2 ho ht (k p e s m args below meth c H locs arr Z hc hz hR hS hL hZ)
theorem q_look {dflt : Int} {ps : Array (Int × Int)} {len : Nat} {x : Int32} {off : Int} {tgt : Nat} (hd : decode Y.2.1 pc = .ok (.lookupswitch dflt ps, len)) (hp : (ps.toList.zip (ps.toList.drop 1)).all (fun (a, next) => a.1 < next.1) = true) (ho : Op.lookupswitch.offset ps.toList dflt x.toInt = off) (ht : (pc : Int) + off = (tgt : Int)) (k : QW G R Y nc ns tgt ls st sh M J ρ) : QW G R Y nc ns pc ls (.int x :: st) sh M J ρ := by
  intro p e s m args below meth c H locs arr Z hc hz hR hS hL hZ
  exact lv_lookup hc.1 hc.2.1 hd hp ho ht (k p e s m args below meth c H locs arr Z hc hz hR hS hL hZ)
theorem q_iret {x : Int32} (hd : decode Y.2.1 pc = .ok (.ireturn, 1)) (hc1 : nc = R.cells) (hs1 : ns = R.slots) (he : (some (.int x), sh, M, J) = ρ) : QW G R Y nc ns pc ls [.int x] sh M J ρ := by
  intro p e s m args below meth c H locs arr Z hc hz hR hS hL hZ
  subst he; subst hc1; subst hs1
  exact hZ H locs pc arr hz.1 hR hS hd
theorem q_vret (hd : decode Y.2.1 pc = .ok (.return_, 1)) (hc1 : nc = R.cells) (hs1 : ns = R.slots) (he : (none, sh, M, J) = ρ) : QW G R Y nc ns pc ls [] sh M J ρ := by
  intro p e s m args below meth c H locs arr Z hc hz hR hS hL hZ
  subst he; subst hc1; subst hs1
  exact hZ H locs pc arr hz.1 hR hS hd
theorem q_iald {q n : Nat} {i v : Int32} (hd : decode Y.2.1 pc = .ok (.iaload, 1)) (hq : sh[q]? = some (.inl (false, n))) (hv : qrd M q n i = some v) (k : QW G R Y nc ns (pc + 1) ls (.int v :: st) sh M J ρ) : QW G R Y nc ns pc ls (.int i :: .ref q :: st) sh M J ρ := by
  intro p e s m args below meth c H locs arr Z hc hz hR hS hL hZ
  obtain ⟨h0, rfl⟩ := qif hv
  show W p (gl G) e R s m args below meth c H locs nc ns Z (F0 m pc arr (.int i :: qcv G (.ref q) :: st.map (qcv G)))
  rw [hR.kn hq]
  exact va_iald hc.1 hc.2.1 hR.2.2.1 hR.2.1 q 0 (qw_get hq) rfl h0 hd (k p e s m args below meth c H locs arr Z hc hz hR hS hL hZ)
theorem q_bald {q n : Nat} {i v : Int32} (hd : decode Y.2.1 pc = .ok (.baload, 1)) (hq : sh[q]? = some (.inl (true, n))) (hv : qrd M q n i = some v) (k : QW G R Y nc ns (pc + 1) ls (.int v :: st) sh M J ρ) : QW G R Y nc ns pc ls (.int i :: .ref q :: st) sh M J ρ := by
  intro p e s m args below meth c H locs arr Z hc hz hR hS hL hZ
  obtain ⟨h0, rfl⟩ := qif hv
  show W p (gl G) e R s m args below meth c H locs nc ns Z (F0 m pc arr (.int i :: qcv G (.ref q) :: st.map (qcv G)))
  rw [hR.kn hq]
  exact va_zald hc.1 hc.2.1 hR.2.2.1 hR.2.1 q 1 (qw_get hq) rfl h0 hd (k p e s m args below meth c H locs arr Z hc hz hR hS hL hZ)
theorem q_scld {i v : Int32} (hd : decode Y.2.1 pc = .ok (.iaload, 1)) (hv : qsc (gx G) (gL G) i = some v) (k : QW G R Y nc ns (pc + 1) ls (.int v :: st) sh M J ρ) : QW G R Y nc ns pc ls (.int i :: .ref 4096 :: st) sh M J ρ := by
  intro p e s m args below meth c H locs arr Z hc hz hR hS hL hZ
  obtain ⟨h0, rfl⟩ := qif hv
  exact va_sld hc.1 hc.2.1 (H0 := H) (A := qA G) (hR.2.2.2.2) (va_lt hR.2.2.2.2) (Nat.not_le.mpr hR.1.2) ⟨Nat.le_refl _, fun _ _ _ => rfl, hS.2.2⟩ h0 hd (k p e s m args below meth c H locs arr Z hc hz hR hS hL hZ)
theorem q_sclen (hd : decode Y.2.1 pc = .ok (.arraylength, 1)) (k : QW G R Y nc ns (pc + 1) ls (.int (Int32.ofNat (gL G)) :: st) sh M J ρ) : QW G R Y nc ns pc ls (.ref 4096 :: st) sh M J ρ := by
  intro p e s m args below meth c H locs arr Z hc hz hR hS hL hZ
  exact va_slen hc.1 hc.2.1 (H0 := H) (A := qA G) (hR.2.2.2.2) (va_lt hR.2.2.2.2) (Nat.not_le.mpr hR.1.2) ⟨Nat.le_refl _, fun _ _ _ => rfl, hS.2.2⟩ hd (k p e s m args below meth c H locs arr Z hc hz hR hS hL hZ)
theorem q_alen {q n : Nat} {v : Int32} (hd : decode Y.2.1 pc = .ok (.arraylength, 1)) (hq : sh[q]? = some (.inl (false, n))) (hv : Int32.ofNat n = v) (k : QW G R Y nc ns (pc + 1) ls (.int v :: st) sh M J ρ) : QW G R Y nc ns pc ls (.ref q :: st) sh M J ρ := by
  intro p e s m args below meth c H locs arr Z hc hz hR hS hL hZ
  show W p (gl G) e R s m args below meth c H locs nc ns Z (F0 m pc arr (qcv G (.ref q) :: st.map (qcv G)))
  rw [hR.kn hq]
  exact va_alen hc.1 hc.2.1 hR.2.2.1 hR.2.1 q 0 (qw_get hq) rfl hv hd (k p e s m args below meth c H locs arr Z hc hz hR hS hL hZ)
theorem q_iast {q n : Nat} {i x : Int32} {M' : qM} (hd : decode Y.2.1 pc = .ok (.iastore, 1)) (hq : sh[q]? = some (.inl (false, n))) (hv : qwr M q n i x = some M') (k : QW G R Y nc ns (pc + 1) ls st sh M' J ρ) : QW G R Y nc ns pc ls (.int x :: .int i :: .ref q :: st) sh M J ρ := by
  intro p e s m args below meth c H locs arr Z hc hz hR hS hL hZ
  obtain ⟨h0, rfl⟩ := qif hv
  show W p (gl G) e R s m args below meth c H locs nc ns Z (F0 m pc arr (.int x :: .int i :: qcv G (.ref q) :: st.map (qcv G)))
  rw [hR.kn hq]
  refine va_iast hc.1 hc.2.1 hR.2.2.1 hR.2.1 qw_D hS q 0 (qw_get hq) rfl h0 hd (fun H1 locs1 hP hD hS1 => ?_)
  rw [qw_arr hq _ (qu M q i.toNatClampNeg x) (qu_row _ _ _ _) (fun a h => qu_ne _ _ _ _ h)] at hP
  exact k p e s m args below meth c H1 locs1 arr Z hc hz (hR.keep hS hS1 hz.2 hR.1.1 hP) hS1 hL hZ
theorem q_bast {q n : Nat} {i x : Int32} {M' : qM} (hd : decode Y.2.1 pc = .ok (.bastore, 1)) (hq : sh[q]? = some (.inl (true, n))) (hv : qwz M q n i x = some M') (k : QW G R Y nc ns (pc + 1) ls st sh M' J ρ) : QW G R Y nc ns pc ls (.int x :: .int i :: .ref q :: st) sh M J ρ := by
  intro p e s m args below meth c H locs arr Z hc hz hR hS hL hZ
  obtain ⟨h0, rfl⟩ := qif hv
  show W p (gl G) e R s m args below meth c H locs nc ns Z (F0 m pc arr (.int x :: .int i :: qcv G (.ref q) :: st.map (qcv G)))
  rw [hR.kn hq]
  refine va_zast hc.1 hc.2.1 hR.2.2.1 hR.2.1 qw_D hS q 1 (qw_get hq) rfl h0 hd (fun H1 locs1 hP hD hS1 => ?_)
  rw [qw_arr hq _ (qu M q i.toNatClampNeg (vp_nar .boolean x)) (qu_row _ _ _ _) (fun a h => qu_ne _ _ _ _ h)] at hP
  exact k p e s m args below meth c H1 locs1 arr Z hc hz (hR.keep hS hS1 hz.2 hR.1.1 hP) hS1 hL hZ
end QRULES
end
section
theorem mm_min : Cond.code Lib.Math.min.name Lib.Math.min.code 2 (some .int) ∈ qT := qin 468 (by decide +kernel) rfl
theorem mm_max : Cond.code Lib.Math.max.name Lib.Math.max.code 2 (some .int) ∈ qT := qin 476 (by decide +kernel) rfl
theorem ms_min : Cond.static Lib.Math.min.name ∈ qT := qin 467 (by decide +kernel) rfl
theorem ms_max : Cond.static Lib.Math.max.name ∈ qT := qin 475 (by decide +kernel) rfl
theorem mi_ini : Cond.initialized "java/lang/Math" ∈ qT := ini_J9
theorem sy_ini : Cond.initialized "java/lang/System" ∈ qT := ini_J10
def qmin (x y : Int32) : Int32 := if y < x then y else x
def qmax (x y : Int32) : Int32 := if x < y then y else x
def qb (b : Bool) : Int32 := if b then 1 else 0
theorem qRl.low {G : qG} {sh : qSh} {M : qM} {J : qJ} {s : State} {H : Heap} {locs : List Loc} (h : qRl G sh M J s H) (hb : gb G ≤ s.heap.size) (hS : va_S (qA G) s.heap H locs) : gb G + sh.length ≤ H.size := by
  by_cases h0 : sh.length = 0
  · have := hS.1
    omega
  · have hl : sh.length - 1 < sh.length := by omega
    have hg : sh[sh.length - 1]? = some sh[sh.length - 1] := List.getElem?_eq_getElem hl
    have := (h.2.1 _ _ (qw_get hg)).lt
    rw [qce_1] at this
    omega
section QCALLS
variable {G : qG} {R : Room} {Y : qY} {nc ns pc : Nat} {ls ls' : List (Option Value)} {st : List Value} {sh : qSh} {M : qM} {J : qJ} {ρ : qR}
theorem q_min {i : Nat} {x y : Int32} (hd : decode Y.2.1 pc = .ok (.invokestatic i, 3)) (hlk : Cond.methodLink Y.1.cls i Lib.Math.min.name ∈ qT) (h1 : 1 ≤ R.frames) (h2 : (st.map fun v => v.category).sum + 13 ≤ R.locals) (h3 : nc ≤ R.cells) (h4 : ns ≤ R.slots) (k : QW G R Y nc ns (pc + 3) ls (.int (qmin x y) :: st) sh M J ρ) : QW G R Y nc ns pc ls (.int y :: .int x :: st) sh M J ρ := by
  intro p e s m args below meth c H locs arr Z hc hz hR hS hL hZ
  have hcat : ((st.map (qcv G)).map fun v => v.category).sum = (st.map fun v => v.category).sum := by rw [List.map_map]; exact congrArg List.sum (List.map_congr_left fun v _ => qcv_cat G v)
  exact va_mmin hc.1 hc.2.1 (hc.2.2.1.trans hL.1.symm) hc.2.2.2.2.2.1 (hc.2.2.2.2.2.2.1 _ hlk) (hc.2.2.2.2.2.2.1 _ ms_min) (hc.2.2.2.2.2.2.1 _ mi_ini) (hc.2.2.2.2.2.2.1 _ mm_min) h1 (by rw [hcat]; exact h2) h3 h4 hd (k p e s m args below meth c H locs arr Z hc hz hR hS hL hZ)
theorem q_max {i : Nat} {x y : Int32} (hd : decode Y.2.1 pc = .ok (.invokestatic i, 3)) (hlk : Cond.methodLink Y.1.cls i Lib.Math.max.name ∈ qT) (h1 : 1 ≤ R.frames) (h2 : (st.map fun v => v.category).sum + 13 ≤ R.locals) (h3 : nc ≤ R.cells) (h4 : ns ≤ R.slots) (k : QW G R Y nc ns (pc + 3) ls (.int (qmax x y) :: st) sh M J ρ) : QW G R Y nc ns pc ls (.int y :: .int x :: st) sh M J ρ := by
  intro p e s m args below meth c H locs arr Z hc hz hR hS hL hZ
  have hcat : ((st.map (qcv G)).map fun v => v.category).sum = (st.map fun v => v.category).sum := by rw [List.map_map]; exact congrArg List.sum (List.map_congr_left fun v _ => qcv_cat G v)
  exact va_mmax hc.1 hc.2.1 (hc.2.2.1.trans hL.1.symm) hc.2.2.2.2.2.1 (hc.2.2.2.2.2.2.1 _ hlk) (hc.2.2.2.2.2.2.1 _ ms_max) (hc.2.2.2.2.2.2.1 _ mi_ini) (hc.2.2.2.2.2.2.1 _ mm_max) h1 (by rw [hcat]; exact h2) h3 h4 hd (k p e s m args below meth c H locs arr Z hc hz hR hS hL hZ)
theorem q_objInit {i q : Nat} (hd : decode Y.2.1 pc = .ok (.invokespecial i, 3)) (hlk : Cond.methodLink Y.1.cls i Lib.objectInit ∈ qT) (h1 : 1 ≤ R.frames) (h2 : (st.map fun v => v.category).sum + 12 ≤ R.locals) (k : QW G R Y nc ns (pc + 3) ls st sh M J ρ) : QW G R Y nc ns pc ls (.ref q :: st) sh M J ρ := by
  intro p e s m args below meth c H locs arr Z hc hz hR hS hL hZ
  have hcat : ((st.map (qcv G)).map fun v => v.category).sum = (st.map fun v => v.category).sum := by rw [List.map_map]; exact congrArg List.sum (List.map_congr_left fun v _ => qcv_cat G v)
  exact W.objInit hc.1 hc.2.1 hc.2.2.2.2.2.1 (hc.2.2.2.2.2.2.1 _ hlk) (hc.2.2.2.2.2.2.1 _ obj_inst) (hc.2.2.2.2.2.2.1 _ obj_code) rfl (hL.1.trans hc.2.2.1.symm) (a := if q < 4096 then gb G + q else gs G) (rest := st.map (qcv G)) rfl hd h1 (by show 2 * 0 + _ + 12 ≤ _; rw [hcat]; omega) (k p e s m args below meth c H locs arr Z hc hz hR hS hL hZ)
theorem q_copy {i q0 q1 n0 n1 : Nat} {sp dp n : Int32} {M' : qM} (hd : decode Y.2.1 pc = .ok (.invokestatic i, 3)) (hlk : Cond.methodLink Y.1.cls i arraycopyName ∈ qT) (h0 : sh[q0]? = some (.inl (false, n0))) (h1 : sh[q1]? = some (.inl (false, n1))) (hv : qco M q0 q1 n0 n1 sp dp n = some M') (hf : 1 ≤ R.frames) (hl : (st.map fun v => v.category).sum + 18 ≤ R.locals) (k : QW G R Y nc ns (pc + 3) ls st sh M' J ρ) : QW G R Y nc ns pc ls (.int n :: .int dp :: .ref q1 :: .int sp :: .ref q0 :: st) sh M J ρ := by
  intro p e s m args below meth c H locs arr Z hc hz hR hS hL hZ
  obtain ⟨hn, rfl⟩ := qif hv
  have hcat : ((st.map (qcv G)).map fun v => v.category).sum = (st.map fun v => v.category).sum := by rw [List.map_map]; exact congrArg List.sum (List.map_congr_left fun v _ => qcv_cat G v)
  show W p (gl G) e R s m args below meth c H locs nc ns Z (F0 m pc arr (.int n :: .int dp :: qcv G (.ref q1) :: .int sp :: qcv G (.ref q0) :: st.map (qcv G)))
  rw [hR.kn h0, hR.kn h1]
  refine va_copyi hc.1 hc.2.1 (hc.2.2.1.trans hL.1.symm) hc.2.2.2.2.2.1 (hc.2.2.2.2.2.2.1 _ hlk) (hc.2.2.2.2.2.2.1 _ nat_copy) (hc.2.2.2.2.2.2.1 _ sta_copy) (hc.2.2.2.2.2.2.1 _ sy_ini) hR.2.2.1 hR.2.1 qw_D hS q0 q1 0 0 (qw_get h0) (qw_get h1) rfl rfl rfl (fun h => hn (Or.inl h)) (fun h => hn (Or.inr (Or.inl h))) (fun h => hn (Or.inr (Or.inr (Or.inl h)))) (Nat.not_lt.mp fun h => hn (Or.inr (Or.inr (Or.inr (Or.inl h))))) (Nat.not_lt.mp fun h => hn (Or.inr (Or.inr (Or.inr (Or.inr h))))) (fun _ _ => rfl) hf (by rw [hcat]; show _ + (7 + 11) ≤ _; omega) hd (fun H1 locs1 hP hD hS1 => ?_)
  rw [qw_arr h1 _ (qcp M q0 q1 sp.toNatClampNeg dp.toNatClampNeg n.toNatClampNeg) (by simp [qcp]) (fun b h => by simp [qcp, h])] at hP
  exact k p e s m args below meth c H1 locs1 arr Z hc hz (hR.keep hS hS1 hz.2 hR.1.1 hP) hS1 hL hZ
-- fields
theorem q_getf {i q ci f N : Nat} {C : String} {T : u_T} {rs : List (Option Nat)} {v : Value} (hd : decode Y.2.1 pc = .ok (.getfield i, 3)) (hq : sh[q]? = some (.inr (ci, rs))) (hcl : vwCl[ci]? = some (C, T, N)) (hin : ∀ w ∈ u_ws C T N, w ∈ qT) (hN : qN ci = N) (hf : f < N) (hlk : Cond.fieldLink Y.1.cls i (T f).1 (T f).2.1 (T f).2.2.1 ∈ qT) (hv : qfa (qty ci f) (rs.getD f none) (M q f) (J q f) = v) (k : QW G R Y nc ns (pc + 3) ls (v :: st) sh M J ρ) : QW G R Y nc ns pc ls (.ref q :: st) sh M J ρ := by
  intro p e s m args below meth c H locs arr Z hc hz hR hS hL hZ
  subst hv
  show W p (gl G) e R s m args below meth c H locs nc ns Z (F0 m pc arr (qcv G (.ref q) :: st.map (qcv G)))
  rw [hR.kn hq]
  exact va_get (ref := (T f).1) hc.1 hc.2.1 hc.2.2.2.2.2.2.1 hin hc.2.2.2.2.2.1 hR.2.2.1 hR.2.1 q (qw_get hq) hcl f hf (hc.2.2.2.2.2.2.1 _ hlk) (fun _ h => h) (qfs_get (by rw [hN]; exact hf)) hd (k p e s m args below meth c H locs arr Z hc hz hR hS hL hZ)
theorem q_puti {i q ci f N : Nat} {C : String} {T : u_T} {rs : List (Option Nat)} {x : Int32} (ty0 : Nat → FieldType) (hd : decode Y.2.1 pc = .ok (.putfield i, 3)) (hq : sh[q]? = some (.inr (ci, rs))) (hcl : vwCl[ci]? = some (C, T, N)) (hin : ∀ w ∈ u_ws C T N, w ∈ qT) (hty : ∀ k, k < N → parseFieldDescriptor (T k).2.2.1 = some (ty0 k)) (hnm : ∀ a, a < N → ∀ b, b < N → a ≠ b → (T a).2.1 ≠ (T b).2.1) (hN : qN ci = N) (hf : f < N) (hlk : Cond.fieldLink Y.1.cls i (T f).1 (T f).2.1 (T f).2.2.1 ∈ qT) (hfin : (T f).2.2.2 = false) (ht : ty0 f = .int) (hqt : qty ci f = .int) (k : QW G R Y nc ns (pc + 3) ls st sh (qu M q f x) J ρ) : QW G R Y nc ns pc ls (.int x :: .ref q :: st) sh M J ρ := by
  intro p e s m args below meth c H locs arr Z hc hz hR hS hL hZ
  show W p (gl G) e R s m args below meth c H locs nc ns Z (F0 m pc arr (.int x :: qcv G (.ref q) :: st.map (qcv G)))
  rw [hR.kn hq]
  refine va_put (ref := (T f).1) (ty := .int) hc.1 hc.2.1 hc.2.2.2.2.2.2.1 hin ty0 hty hnm hc.2.2.2.2.2.1 hR.2.2.1 hR.2.1 qw_D hS q (qw_get hq) hcl f hf (hc.2.2.2.2.2.2.1 _ hlk) (fun _ h => h) hfin (by rw [hty f hf, ht]) rfl rfl (by simp [qfs, hN, hf]) hd (fun H1 locs1 hP hD hS1 => ?_)
  rw [qw_fld (sh' := sh) (M' := qu M q f x) (J' := J) (rs' := rs) hq hq (fun _ _ => rfl) (by rw [hN]; exact hf) (.int x) (by rw [hqt, qu_row]; simp [qfa, qcv, upd]) (fun j hj => ⟨rfl, by rw [qu_row]; simp [upd, hj], rfl⟩) (fun b hb => ⟨qu_ne _ _ _ _ hb, rfl⟩)] at hP
  exact k p e s m args below meth c H1 locs1 arr Z hc hz (hR.keep hS hS1 hz.2 hR.1.1 hP) hS1 hL hZ
theorem q_putl {i q ci f N : Nat} {C : String} {T : u_T} {rs : List (Option Nat)} {x : Int64} (ty0 : Nat → FieldType) (hd : decode Y.2.1 pc = .ok (.putfield i, 3)) (hq : sh[q]? = some (.inr (ci, rs))) (hcl : vwCl[ci]? = some (C, T, N)) (hin : ∀ w ∈ u_ws C T N, w ∈ qT) (hty : ∀ k, k < N → parseFieldDescriptor (T k).2.2.1 = some (ty0 k)) (hnm : ∀ a, a < N → ∀ b, b < N → a ≠ b → (T a).2.1 ≠ (T b).2.1) (hN : qN ci = N) (hf : f < N) (hlk : Cond.fieldLink Y.1.cls i (T f).1 (T f).2.1 (T f).2.2.1 ∈ qT) (hfin : (T f).2.2.2 = false) (ht : ty0 f = .long) (hqt : qty ci f = .long) (k : QW G R Y nc ns (pc + 3) ls st sh M (qv J q f x) ρ) : QW G R Y nc ns pc ls (.long x :: .ref q :: st) sh M J ρ := by
  intro p e s m args below meth c H locs arr Z hc hz hR hS hL hZ
  show W p (gl G) e R s m args below meth c H locs nc ns Z (F0 m pc arr (.long x :: qcv G (.ref q) :: st.map (qcv G)))
  rw [hR.kn hq]
  refine va_put (ref := (T f).1) (ty := .long) hc.1 hc.2.1 hc.2.2.2.2.2.2.1 hin ty0 hty hnm hc.2.2.2.2.2.1 hR.2.2.1 hR.2.1 qw_D hS q (qw_get hq) hcl f hf (hc.2.2.2.2.2.2.1 _ hlk) (fun _ h => h) hfin (by rw [hty f hf, ht]) rfl rfl (by simp [qfs, hN, hf]) hd (fun H1 locs1 hP hD hS1 => ?_)
  rw [qw_fld (sh' := sh) (M' := M) (J' := qv J q f x) (rs' := rs) hq hq (fun _ _ => rfl) (by rw [hN]; exact hf) (.long x) (by rw [hqt]; simp [qfa, qcv, qv]) (fun j hj => ⟨rfl, rfl, by simp [qv, hj]⟩) (fun b hb => ⟨rfl, qv_ne _ _ _ _ hb⟩)] at hP
  exact k p e s m args below meth c H1 locs1 arr Z hc hz (hR.keep hS hS1 hz.2 hR.1.1 hP) hS1 hL hZ
theorem q_putr {i q ci f N r : Nat} {C : String} {T : u_T} {rs : List (Option Nat)} {sh' : qSh} (ty0 : Nat → FieldType) (hd : decode Y.2.1 pc = .ok (.putfield i, 3)) (hq : sh[q]? = some (.inr (ci, rs))) (hcl : vwCl[ci]? = some (C, T, N)) (hin : ∀ w ∈ u_ws C T N, w ∈ qT) (hty : ∀ k, k < N → parseFieldDescriptor (T k).2.2.1 = some (ty0 k)) (hnm : ∀ a, a < N → ∀ b, b < N → a ≠ b → (T a).2.1 ≠ (T b).2.1) (hN : qN ci = N) (hf : f < N) (hlk : Cond.fieldLink Y.1.cls i (T f).1 (T f).2.1 (T f).2.2.1 ∈ qT) (hfin : (T f).2.2.2 = true) (hini : Y.1.name = "<init>") (hdc : (T f).1 = Y.1.cls)
    (hna : ∀ b, narrow (ty0 f) (.ref b) = .ref b) (hft : ∀ b, fits (ty0 f) (.ref b) = true) (hqt : ∀ b i j, qfa (qty ci f) (some b) i j = .ref b) (hrl : f < rs.length) (he : sh.set q (.inr (ci, rs.set f (some r))) = sh') (k : QW G R Y nc ns (pc + 3) ls st sh' M J ρ) : QW G R Y nc ns pc ls (.ref r :: .ref q :: st) sh M J ρ := by
  intro p e s m args below meth c H locs arr Z hc hz hR hS hL hZ
  subst he
  show W p (gl G) e R s m args below meth c H locs nc ns Z (F0 m pc arr (qcv G (.ref r) :: qcv G (.ref q) :: st.map (qcv G)))
  rw [hR.kn hq]
  refine va_putF (ref := (T f).1) (ty := ty0 f) hc.1 hc.2.1 hc.2.2.2.2.2.2.1 hin ty0 hty hnm hc.2.2.2.2.2.1 hR.2.2.1 hR.2.1 qw_D hS q (qw_get hq) hcl f hf (hc.2.2.2.2.2.2.1 _ hlk) (fun _ h => h) hfin (hc.2.2.2.2.2.2.2.trans hini) hdc (hty f hf) (hna _) (hft _) (by simp [qfs, hN, hf]) hd (fun H1 locs1 hP hD hS1 => ?_)
  have hlt := qsh_lt hq
  rw [qw_fld (sh' := sh.set q (.inr (ci, rs.set f (some r)))) (M' := M) (J' := J) (rs' := rs.set f (some r)) hq (List.getElem?_set_self hlt) (fun b hb => List.getElem?_set_ne (Ne.symm hb)) (by rw [hN]; exact hf) (qcv G (.ref r)) (by rw [show (rs.set f (some r)).getD f none = some r by simp [List.getD, hrl], hqt]) (fun j hj => ⟨by simp [List.getD, List.getElem?_set_ne (Ne.symm hj)], rfl, rfl⟩) (fun b hb => ⟨rfl, rfl⟩)] at hP
  exact k p e s m args below meth c H1 locs1 arr Z hc ⟨by rw [List.length_set]; exact hz.1, hz.2⟩ (hR.keep hS hS1 hz.2 (by rw [List.length_set]; exact hR.1.1) hP) hS1 hL hZ
end QCALLS
end
section
def qrm (d mc ms : Nat) : Room := { frames := d, cells := mc, slots := ms, locals := 39 * d }
def qen : List Value → List (Option Value)
  | [] => []
  | v :: r => if v.category = 2 then some v :: none :: qen r else some v :: qen r
abbrev qel (Y : qY) (as : List Value) : List (Option Value) := qen as ++ List.replicate (Y.2.2.1 - (qen as).length) none
def qrt (Y : qY) (r : Option Value) : Prop := match r with
  | none => Y.2.2.2 = none
  | some (.int v) => Y.2.2.2 = some .int ∨ (Y.2.2.2 = some .boolean ∧ ∃ b, v = qb b)
  | _ => False
/-- the method, called with as in the picture (sh, M, J), returns with just ρ -/
def QM (G : qG) (d mc ms : Nat) (Y : qY) (as : List Value) (sh : qSh) (M : qM) (J : qJ) (ρ : qR) : Prop := (qen as).length ≤ Y.2.2.1 ∧ qrt Y ρ.1 ∧ QW G (qrm d mc ms) Y 0 0 0 (qel Y as) [] sh M J ρ
abbrev qws (Y : qY) : List Cond := Cond.code Y.1 Y.2.1 Y.2.2.1 Y.2.2.2 :: qT
def qPc (G : qG) (as : List Value) (sh : qSh) (M : qM) (J : qJ) : Array Value → State → Prop := va_Pc (as.map (qcv G)) (fun U => qRl G sh M J U U.heap ∧ U.heap.size = gb G + sh.length)
def qQc (G : qG) (ρ : qR) : Array Value → State → Outcome → State → Prop := fun _ st o t => o = .returned (ρ.1.map (qcv G)) ∧ qRl G ρ.2.1 ρ.2.2.1 ρ.2.2.2 t t.heap ∧ va_F (qA G) st t
theorem qRl.moved {G : qG} {sh : qSh} {M : qM} {J : qJ} {s U : State} {H : Heap} (hW : s.WarmedH U.vm) (h : qRl G sh M J s H) : qRl G sh M J U H :=
  ⟨h.1, h.2.1, va_K.moved hW.alike h.2.2.1, fun w hw => va_Nw.warmM hW (h.2.2.2.1 w hw), va_X.moved hW.alike h.2.2.2.2⟩
theorem qPc.blind {G : qG} {as : List Value} {sh : qSh} {M : qM} {J : qJ} : FrameBlind (qPc G as sh M J) := by
  intro a U g mk h
  obtain ⟨h1, ⟨r1, r2, r3, r4, r5⟩, h3⟩ := h
  exact ⟨h1, ⟨r1, r2, va_K.moved (u := U) (U := U.calling g mk a) (Vm.Alike.refl U.vm) r3, fun w hw => va_Nw.same rfl rfl (r4 w hw), va_X.moved (u := U) (U := U.calling g mk a) (Vm.Alike.refl U.vm) r5⟩, h3⟩
theorem qen_in (G : qG) : ∀ (as : List Value) (k i : Nat) (v : Value), (qen as)[i]? = some (some v) → (k + i, qcv G v) ∈ lv_args k (as.map (qcv G))
  | [], k, i, v, h => by simp [qen] at h
  | w :: r, k, i, v, h => by
    show _ ∈ (k, qcv G w) :: lv_args (if (qcv G w).category = 2 then k + 2 else k + 1) (r.map (qcv G))
    rw [qcv_cat]
    unfold qen at h
    by_cases hc : w.category = 2
    · rw [if_pos hc] at h ⊢
      match i, h with
      | 0, h => simp at h; subst h; exact List.mem_cons_self
      | 1, h => simp at h
      | i + 2, h =>
        refine List.mem_cons_of_mem _ ?_
        have := qen_in G r (k + 2) i v (by simpa using h)
        rwa [show k + 2 + i = k + (i + 2) by omega] at this
    · rw [if_neg hc] at h ⊢
      match i, h with
      | 0, h => simp at h; subst h; exact List.mem_cons_self
      | i + 1, h =>
        refine List.mem_cons_of_mem _ ?_
        have := qen_in G r (k + 1) i v (by simpa using h)
        rwa [show k + 1 + i = k + (i + 1) by omega] at this
theorem qen_len (G : qG) : ∀ as : List Value, (lg_sl (as.map (qcv G))).length = (qen as).length
  | [] => rfl
  | v :: r => by
    have ih := qen_len G r
    unfold qen
    by_cases hc : v.category = 2
    · simp [lg_sl, qcv_cat, hc] at ih ⊢
      omega
    · simp [lg_sl, qcv_cat, hc] at ih ⊢
      omega
theorem qel_ok {G : qG} {Y : qY} {as : List Value} (h : (qen as).length ≤ Y.2.2.1) : qLs G ((lg_sl (as.map (qcv G)) ++ List.replicate (Y.2.2.1 - (lg_sl (as.map (qcv G))).length) Slot.unset).toArray) Y.2.2.1 (qel Y as) := by
  obtain ⟨h1, h2, h3⟩ := lv_entry (as.map (qcv G)) (n := Y.2.2.1) (by rw [qen_len]; exact h)
  refine ⟨h1, h2, fun i v hi => ?_⟩
  by_cases hl : i < (qen as).length
  · rw [List.getElem?_append_left hl] at hi
    have := h3 _ (qen_in G as 0 i v hi)
    rwa [Nat.zero_add] at this
  · rw [List.getElem?_append_right (by omega)] at hi
    have := List.mem_of_getElem? hi
    simp at this
theorem QM.met {G : qG} {d mc ms : Nat} {Y : qY} {as : List Value} {sh : qSh} {M : qM} {J : qJ} {ρ : qR} (h : QM G d mc ms Y as sh M J ρ) (hy : plainName Y.1.cls = true) : Met (gl G) Y.1 (qws Y) (qrm d mc ms) (qPc G as sh M J) (qQc G ρ) mc ms (qA G) := by
  obtain ⟨hlen, hrt, hq⟩ := h
  refine Met.ofW (cc := Y.2.1) (maxL := Y.2.2.1) (ret := Y.2.2.2) hy rfl ?_
  intro p e s m args below meth c s₁ B hml hv
  obtain ⟨rfl, hR, hsz⟩ := hv
  have hts0 := atoms_spec (ws := qws Y) B.pre
  have hlocks := B.notSynchronized
  rw [lg_entry_eq]
  refine hq p e s m _ below meth c s.heap [] _ _ ⟨B.exec, B.bytes, hml, B.returns, B.notSynchronized, findClass_of_methodNamed B.named, fun w hw => hts0 w (List.mem_cons_of_mem _ hw), (name_of_methodNamed B.named B.method).1⟩ ⟨by omega, by omega⟩ hR va_S.rf (qel_ok hlen) ?_
  intro H1 locs1 pc1 arr1 hz1 hR1 hS1 hd1
  obtain ⟨r, sh1, M1, J1⟩ := ρ
  match r, hrt, hd1 with
  | none, hrt, hd1 =>
    exact W.vret B.exec B.bytes (B.returns.trans hrt) (fun t ht hW => ⟨rfl, by rw [ht]; exact hR1.moved hW, hS1.F ht⟩) hS1.2.2 hd1
  | some (.int v), hrt, hd1 =>
    rcases hrt with hrt | ⟨hrt, b, rfl⟩
    · exact W.iret B.exec B.bytes (B.returns.trans hrt) (fun t ht hW => ⟨rfl, by rw [ht]; exact hR1.moved hW, hS1.F ht⟩) hS1.2.2 hd1
    · exact W.zret B.exec B.bytes (B.returns.trans hrt) (by cases b <;> rfl) (fun t ht hW => ⟨rfl, by rw [ht]; exact hR1.moved hW, hS1.F ht⟩) hS1.2.2 hd1
section QM
variable {G : qG} {R : Room} {Y : qY} {nc ns pc : Nat} {ls ls' : List (Option Value)} {st : List Value} {sh : qSh} {M : qM} {J : qJ} {ρ : qR}
theorem q_size {p : Program} {e : Env} {s : State} {m : MethodId} {args : Array Value} {below : List Frame} {meth : Method} {c : Code} {H : Heap} {locs : List Loc} {T : State} (hT : T.heap = H) (X : Stand p (gl G) e R s m args below meth c T locs nc ns) (hz : s.heap.size + nc = gb G + sh.length ∧ gb G ≤ s.heap.size) (hR : qRl G sh M J s H) (hS : va_S (qA G) s.heap H locs) : H.size = gb G + sh.length := by
  have h1 := X.heapSize
  have h2 := hR.low hz.2 hS
  rw [hT] at h1
  omega
/-- behind a call -/
theorem q_after {p : Program} {e : Env} {s : State} {m : MethodId} {args : Array Value} {below : List Frame} {meth : Method} {c : Code} {H : Heap} {locs : List Loc} {arr : Array Slot} {Z : State → Prop} {mc ms : Nat} {ρ' : qR} {av : Array Value} {st0 : List Value}
    (hr : va_Run p (gl G) e R s m args below meth c H locs nc ns mc ms (F0 m pc arr st0) (st.map (qcv G)) (qQc G ρ' av) (qA G)) (hc : qCx Y p s m args meth c) (hz : s.heap.size + nc = gb G + sh.length ∧ gb G ≤ s.heap.size) (hR : qRl G sh M J s H) (hS : va_S (qA G) s.heap H locs) (hL : qLs G arr Y.2.2.1 ls)
    (hZ : ∀ (H1 : Heap) (locs1 : List Loc) (pc1 : Nat) (arr1 : Array Slot), (s.heap.size + R.cells = gb G + ρ.2.1.length) → qRl G ρ.2.1 ρ.2.2.1 ρ.2.2.2 s H1 → va_S (qA G) s.heap H1 locs1 → decode Y.2.1 pc1 = .ok (qri ρ.1, 1) → W p (gl G) e R s m args below meth c H1 locs1 R.cells R.slots Z (F0 m pc1 arr1 (ρ.1.toList.map (qcv G))))
    (hsz : ρ'.2.1.length = sh.length + mc) (k : QW G R Y (nc + mc) (ns + ms) (pc + 3) ls (ρ'.1.toList ++ st) ρ'.2.1 ρ'.2.2.1 ρ'.2.2.2 ρ) : W p (gl G) e R s m args below meth c H locs nc ns Z (F0 m pc arr st0) := by
  intro T hT X
  obtain ⟨v, st₀, t, T', L, h0, X', hL', e1, e2, ⟨hv, hRt, hF⟩, hgo⟩ := hr T hT X
  cases hv
  have hS' : va_S (qA G) s.heap T'.heap (locs ++ L) := by
    refine ⟨?_, fun q h1 h2 => ?_, fun q hq => ?_⟩
    · rw [e1]
      have h3 := hF.1
      rw [h0] at h3
      exact Nat.le_trans hS.1 h3
    · rw [e1, hF.2 q (by rw [h0]; exact Nat.lt_of_lt_of_le h1 hS.1) h2, h0]
      exact hS.2.1 q h1 h2
    · rcases List.mem_append.mp hq with h | h
      · exact hS.2.2 q h
      · exact hL' q h
  have hR' : qRl G ρ'.2.1 ρ'.2.2.1 ρ'.2.2.2 s T'.heap := hR.keep hS hS' hz.2 hRt.1.1 (by rw [e1]; exact hRt.2.1)
  have hk := k p e s m args below meth c T'.heap (locs ++ L) arr Z hc ⟨by omega, hz.2⟩ hR' hS' hL hZ T' rfl X'
  obtain ⟨t2, a1, b1⟩ := hk
  refine ⟨t2, hgo t2 ?_, b1⟩
  have he : ((ρ'.1.toList ++ st).map (qcv G)) = (ρ'.1.map (qcv G)).toList ++ st.map (qcv G) := by cases ρ'.1 <;> rfl
  rw [he] at a1
  exact a1
theorem q_good {Y' : qY} {n : Nat} (h : qOKc Y' n) : GoodIn qT (qws Y') := by
  intro w hw
  have hm : w ∈ qT := by
    rcases List.mem_cons.mp hw with rfl | h1
    · exact h.1
    · exact h1
  exact ⟨hm, good_of_word (List.mem_filter.mp hm).2⟩
theorem q_cat (G : qG) (st : List Value) : ((st.map (qcv G)).map fun v => v.category).sum = (st.map fun v => v.category).sum := by rw [List.map_map]; exact congrArg List.sum (List.map_congr_left fun v _ => qcv_cat G v)
theorem q_pre {s : State} {H : Heap} {as : List Value} (hR : qRl G sh M J s H) (hsz : H.size = gb G + sh.length) : PreS s H (qPc G as sh M J) (as.map (qcv G)) :=
  ⟨qPc.blind, fun U hU hW => ⟨rfl, by rw [hU]; exact hR.moved hW, by rw [hU]; exact hsz⟩⟩
theorem q_callv {as : List Value} {Y' : qY} {i n d mc ms : Nat} {ρ' : qR} {st0 : List Value} {q ci N : Nat} {rs : List (Option Nat)} {T : u_T} (hM : QM G d mc ms Y' (.ref q :: as) sh M J ρ') (hok : qOKv Y' n) (hn : as.length = n) (hd : decode Y.2.1 pc = .ok (.invokevirtual i, 3)) (hlk : Cond.methodLink Y.1.cls i Y'.1 ∈ qT) (hq : sh[q]? = some (.inr (ci, rs))) (hcl : vwCl[ci]? = some (Y'.1.cls, T, N)) (he : st0 = as.reverse ++ .ref q :: st) (hfr : d + 1 ≤ R.frames) (hlo : 39 * d + 39 ≤ R.locals) (hst : (st.map fun v => v.category).sum ≤ 8) (hcc : nc + mc ≤ R.cells ∧ ns + ms ≤ R.slots) (hsz : ρ'.2.1.length = sh.length + mc)
    (k : QW G R Y (nc + mc) (ns + ms) (pc + 3) ls (ρ'.1.toList ++ st) ρ'.2.1 ρ'.2.2.1 ρ'.2.2.2 ρ) : QW G R Y nc ns pc ls st0 sh M J ρ := by
  intro p e s m args below meth c H locs arr Z hc hz hR hS hL hZ
  subst he
  intro T hT X
  have hH := q_size hT X hz hR hS
  have hc7 := hc.2.2.2.2.2.2.1
  have hroom : (qrm d mc ms).frames + 1 ≤ R.frames ∧ 8 + (Y'.2.2.1 + 11) + (qrm d mc ms).locals ≤ R.locals := ⟨hfr, by have := hok.1.2.2.2.2; show 8 + (Y'.2.2.1 + 11) + 39 * d ≤ R.locals; omega⟩
  have hpre := q_pre (as := .ref q :: as) hR hH
  have hrun := va_runV (p := p) (e := e) (below := below) (meth := meth) (locs := locs) (cells := nc) (slots := ns) (As := as.map (qcv G)) (rest := st.map (qcv G)) (b := gb G + q) (C := Y'.1.cls) (g := F0 m pc arr ((as.reverse ++ .ref q :: st).map (qcv G))) ⟨hc.1, hc.2.1, hc.2.2.1, hc.2.2.2.2.2.1, hc7⟩ (hM.met hok.1.2.2.2.1)
    ⟨callB_of n hc7 (q_good hok.1) rfl rfl rfl (hc7 _ hok.1.2.1) (hc7 _ hlk) hok.1.2.2.1 hroom, hc7 _ hok.2.1, hc7 _ hok.2.2⟩
    ⟨hpre.1, va_recv hR.2.2.1 hR.2.1 hcl (qw_get hq), fun U hU hW => by have := hpre.2 U hU hW; rwa [List.map_cons, hR.kn hq] at this⟩ rfl (by rw [List.length_map]; exact hn) hL.1 (by show List.map _ _ = _; rw [List.map_append, List.map_reverse, List.map_cons, hR.kn hq]) (by show 2 * 0 + _ ≤ 8; rw [q_cat]; omega) hd hcc
  exact q_after hrun hc hz hR hS hL hZ hsz k T hT X
theorem q_calls {as : List Value} {Y' : qY} {i n d mc ms : Nat} {ρ' : qR} {st0 : List Value} (hM : QM G d mc ms Y' as sh M J ρ') (hok : qOKs Y' n) (hn : as.length = n) (hd : decode Y.2.1 pc = .ok (.invokestatic i, 3)) (hlk : Cond.methodLink Y.1.cls i Y'.1 ∈ qT) (he : st0 = as.reverse ++ st) (hfr : d + 1 ≤ R.frames) (hlo : 39 * d + 39 ≤ R.locals) (hst : (st.map fun v => v.category).sum ≤ 8) (hcc : nc + mc ≤ R.cells ∧ ns + ms ≤ R.slots) (hsz : ρ'.2.1.length = sh.length + mc)
    (k : QW G R Y (nc + mc) (ns + ms) (pc + 3) ls (ρ'.1.toList ++ st) ρ'.2.1 ρ'.2.2.1 ρ'.2.2.2 ρ) : QW G R Y nc ns pc ls st0 sh M J ρ := by
  intro p e s m args below meth c H locs arr Z hc hz hR hS hL hZ
  subst he
  intro T hT X
  have hH := q_size hT X hz hR hS
  have hc7 := hc.2.2.2.2.2.2.1
  have hroom : (qrm d mc ms).frames + 1 ≤ R.frames ∧ 8 + (Y'.2.2.1 + 11) + (qrm d mc ms).locals ≤ R.locals := ⟨hfr, by have := hok.1.2.2.2.2; show 8 + (Y'.2.2.1 + 11) + 39 * d ≤ R.locals; omega⟩
  have hpre := q_pre (as := as) hR hH
  have hrun := va_runS (p := p) (e := e) (below := below) (meth := meth) (locs := locs) (cells := nc) (slots := ns) (As := as.map (qcv G)) (rest := st.map (qcv G)) (g := F0 m pc arr ((as.reverse ++ st).map (qcv G))) ⟨hc.1, hc.2.1, hc.2.2.1, hc.2.2.2.2.2.1, hc7⟩ (hM.met hok.1.2.2.2.1)
    ⟨callB_of n hc7 (q_good hok.1) rfl rfl rfl (hc7 _ hok.1.2.1) (hc7 _ hlk) hok.1.2.2.1 hroom, hc7 _ hok.2⟩
    hpre rfl (by rw [List.length_map]; exact hn) hL.1 (by show List.map _ _ = _; rw [List.map_append, List.map_reverse]) (by show 2 * 0 + _ ≤ 8; rw [q_cat]; omega) hd hcc
  exact q_after hrun hc hz hR hS hL hZ hsz k T hT X
theorem q_calli {as : List Value} {Y' : qY} {i n d mc ms : Nat} {ρ' : qR} {st0 : List Value} {q : Nat} (hM : QM G d mc ms Y' (.ref q :: as) sh M J ρ') (hok : qOKi Y' n) (hn : as.length = n) (hd : decode Y.2.1 pc = .ok (.invokespecial i, 3)) (hlk : Cond.methodLink Y.1.cls i Y'.1 ∈ qT) (hq : q < 4096) (he : st0 = as.reverse ++ .ref q :: st) (hfr : d + 1 ≤ R.frames) (hlo : 39 * d + 39 ≤ R.locals) (hst : (st.map fun v => v.category).sum ≤ 8) (hcc : nc + mc ≤ R.cells ∧ ns + ms ≤ R.slots) (hsz : ρ'.2.1.length = sh.length + mc)
    (k : QW G R Y (nc + mc) (ns + ms) (pc + 3) ls (ρ'.1.toList ++ st) ρ'.2.1 ρ'.2.2.1 ρ'.2.2.2 ρ) : QW G R Y nc ns pc ls st0 sh M J ρ := by
  intro p e s m args below meth c H locs arr Z hc hz hR hS hL hZ
  subst he
  intro T hT X
  have hH := q_size hT X hz hR hS
  have hc7 := hc.2.2.2.2.2.2.1
  have hroom : (qrm d mc ms).frames + 1 ≤ R.frames ∧ 8 + (Y'.2.2.1 + 11) + (qrm d mc ms).locals ≤ R.locals := ⟨hfr, by have := hok.1.2.2.2.2; show 8 + (Y'.2.2.1 + 11) + 39 * d ≤ R.locals; omega⟩
  have hpre := q_pre (as := .ref q :: as) hR hH
  have hkn : qcv G (.ref q) = .ref (gb G + q) := by show Value.ref (if q < 4096 then gb G + q else gs G) = _; rw [if_pos hq]
  have hrun := va_runI (p := p) (e := e) (below := below) (meth := meth) (locs := locs) (cells := nc) (slots := ns) (As := as.map (qcv G)) (rest := st.map (qcv G)) (b := gb G + q) (g := F0 m pc arr ((as.reverse ++ .ref q :: st).map (qcv G))) ⟨hc.1, hc.2.1, hc.2.2.1, hc.2.2.2.2.2.1, hc7⟩ (hM.met hok.1.2.2.2.1)
    ⟨callB_of n hc7 (q_good hok.1) (ret := none) (by rw [← hok.2.2.1]) rfl rfl (hc7 _ hok.1.2.1) (hc7 _ hlk) hok.1.2.2.1 hroom, hok.2.1, hc7 _ hok.2.2.2⟩
    ⟨hpre.1, fun U hU hW => by have := hpre.2 U hU hW; rwa [List.map_cons, hkn] at this⟩ rfl (by rw [List.length_map]; exact hn) hL.1 (by show List.map _ _ = _; rw [List.map_append, List.map_reverse, List.map_cons, hkn]) (by show 2 * 0 + _ ≤ 8; rw [q_cat]; omega) hd hcc
  exact q_after hrun hc hz hR hS hL hZ hsz k T hT X
theorem q_callsn {as : List Value} {Y' : qY} {i n d mc ms : Nat} {ρ' : qR} {st0 : List Value} {host : String} (hM : QM G d mc ms Y' as sh M J ρ') (hok : qOKs Y' n) (hn : as.length = n) (hd : decode Y.2.1 pc = .ok (.invokestatic i, 3)) (hlk : (Y.1.cls, i, Y'.1, host) ∈ qnest) (he : st0 = as.reverse ++ st) (hfr : d + 1 ≤ R.frames) (hlo : 39 * d + 39 ≤ R.locals) (hst : (st.map fun v => v.category).sum ≤ 8) (hcc : nc + mc ≤ R.cells ∧ ns + ms ≤ R.slots) (hsz : ρ'.2.1.length = sh.length + mc)
    (k : QW G R Y (nc + mc) (ns + ms) (pc + 3) ls (ρ'.1.toList ++ st) ρ'.2.1 ρ'.2.2.1 ρ'.2.2.2 ρ) : QW G R Y nc ns pc ls st0 sh M J ρ := by
  intro p e s m args below meth c H locs arr Z hc hz hR hS hL hZ
  subst he
  intro T hT X
  have hH := q_size hT X hz hR hS
  have hc7 := hc.2.2.2.2.2.2.1
  have hroom : (qrm d mc ms).frames + 1 ≤ R.frames ∧ 8 + (Y'.2.2.1 + 11) + (qrm d mc ms).locals ≤ R.locals := ⟨hfr, by have := hok.1.2.2.2.2; show 8 + (Y'.2.2.1 + 11) + 39 * d ≤ R.locals; omega⟩
  have hpre := q_pre (as := as) hR hH
  have hrun := va_runSN (p := p) (e := e) (below := below) (meth := meth) (locs := locs) (cells := nc) (slots := ns) (As := as.map (qcv G)) (rest := st.map (qcv G)) (g := F0 m pc arr ((as.reverse ++ st).map (qcv G))) ⟨hc.1, hc.2.1, hc.2.2.1, hc.2.2.2.2.2.1, hc7⟩ (hM.met hok.1.2.2.2.1)
    ⟨va_cnB n hc7 (q_good hok.1) rfl rfl rfl (hR.2.2.2.1 _ hlk) (hc7 _ hok.1.2.1) hok.1.2.2.1 hroom, hc7 _ hok.2, trivial⟩
    hpre rfl (by rw [List.length_map]; exact hn) hL.1 (by show List.map _ _ = _; rw [List.map_append, List.map_reverse]) (by show 2 * 0 + _ ≤ 8; rw [q_cat]; omega) hd hcc
  exact q_after hrun hc hz hR hS hL hZ hsz k T hT X
theorem q_callin {as : List Value} {Y' : qY} {i n d mc ms : Nat} {ρ' : qR} {st0 : List Value} {q : Nat} {host : String} (hM : QM G d mc ms Y' (.ref q :: as) sh M J ρ') (hok : qOKi Y' n) (hn : as.length = n) (hd : decode Y.2.1 pc = .ok (.invokespecial i, 3)) (hlk : (Y.1.cls, i, Y'.1, host) ∈ qnest) (hq : q < 4096) (he : st0 = as.reverse ++ .ref q :: st) (hfr : d + 1 ≤ R.frames) (hlo : 39 * d + 39 ≤ R.locals) (hst : (st.map fun v => v.category).sum ≤ 8) (hcc : nc + mc ≤ R.cells ∧ ns + ms ≤ R.slots) (hsz : ρ'.2.1.length = sh.length + mc)
    (k : QW G R Y (nc + mc) (ns + ms) (pc + 3) ls (ρ'.1.toList ++ st) ρ'.2.1 ρ'.2.2.1 ρ'.2.2.2 ρ) : QW G R Y nc ns pc ls st0 sh M J ρ := by
  intro p e s m args below meth c H locs arr Z hc hz hR hS hL hZ
  subst he
  intro T hT X
  have hH := q_size hT X hz hR hS
  have hc7 := hc.2.2.2.2.2.2.1
  have hroom : (qrm d mc ms).frames + 1 ≤ R.frames ∧ 8 + (Y'.2.2.1 + 11) + (qrm d mc ms).locals ≤ R.locals := ⟨hfr, by have := hok.1.2.2.2.2; show 8 + (Y'.2.2.1 + 11) + 39 * d ≤ R.locals; omega⟩
  have hpre := q_pre (as := .ref q :: as) hR hH
  have hkn : qcv G (.ref q) = .ref (gb G + q) := by show Value.ref (if q < 4096 then gb G + q else gs G) = _; rw [if_pos hq]
  have hrun := va_runIN (p := p) (e := e) (below := below) (meth := meth) (locs := locs) (cells := nc) (slots := ns) (As := as.map (qcv G)) (rest := st.map (qcv G)) (b := gb G + q) (g := F0 m pc arr ((as.reverse ++ .ref q :: st).map (qcv G))) ⟨hc.1, hc.2.1, hc.2.2.1, hc.2.2.2.2.2.1, hc7⟩ (hM.met hok.1.2.2.2.1)
    ⟨va_cnB n hc7 (q_good hok.1) (ret := none) (by rw [← hok.2.2.1]) rfl rfl (hR.2.2.2.1 _ hlk) (hc7 _ hok.1.2.1) hok.1.2.2.1 hroom, hok.2.1, hc7 _ hok.2.2.2⟩
    ⟨hpre.1, fun U hU hW => by have := hpre.2 U hU hW; rwa [List.map_cons, hkn] at this⟩ rfl (by rw [List.length_map]; exact hn) hL.1 (by show List.map _ _ = _; rw [List.map_append, List.map_reverse, List.map_cons, hkn]) (by show 2 * 0 + _ ≤ 8; rw [q_cat]; omega) hd hcc
  exact q_after hrun hc hz hR hS hL hZ hsz k T hT X
theorem qw_push (G : qG) (sh : qSh) (c : qC) (M : qM) (J : qJ) : qw G (sh ++ [c]) M J = qw G sh M J ++ [qce G M J sh.length c] := by
  simp [qw, List.mapIdx_append]
theorem qfa_nul (G : qG) (ty : FieldType) (i : Int32) (j : Int64) : qcv G (qfa ty none i j) = qfa ty none i j := by
  cases ty <;> rfl
theorem q_new {i ci N : Nat} {C : String} {T : u_T} {sh' : qSh} (ty0 : Nat → FieldType) (hd : decode Y.2.1 pc = .ok (.new i, 3)) (hcl : vwCl[ci]? = some (C, T, N)) (hin : ∀ w ∈ u_ws C T N, w ∈ qT) (hty : ∀ k, k < N → parseFieldDescriptor (T k).2.2.1 = some (ty0 k)) (hN : qN ci = N) (hqt : ∀ k, k < N → qty ci k = ty0 k ∧ defaultValue (ty0 k) = qfa (ty0 k) none 0 0) (hlk : Cond.classLink Y.1.cls i C ∈ qT) (hins : Cond.instantiable C N ∈ qT) (hini : Cond.initialized C ∈ qT)
    (hM : ∀ k, M sh.length k = 0) (hJ : ∀ k, J sh.length k = 0) (hl : sh.length < 4096) (h1 : nc + 1 ≤ R.cells) (h2 : ns + N ≤ R.slots) {q : Nat} (hq : sh.length = q) (he : sh ++ [.inr (ci, List.replicate N none)] = sh') (k : QW G R Y (nc + 1) (ns + N) (pc + 3) ls (.ref q :: st) sh' M J ρ) : QW G R Y nc ns pc ls st sh M J ρ := by
  intro p e s m args below meth c H locs arr Z hc hz hR hS hL hZ
  subst he; subst hq
  intro T0 hT X
  have hH := q_size hT X hz hR hS
  have hc7 := hc.2.2.2.2.2.2.1
  have hKn := hR.2.2.1.1 ci _ hcl
  refine (W.newcK (p := p) (l := gl G) (e := e) (R := R) (s := s) (m := m) (args := args) (below := below) (meth := meth) (c := c) (H := H) (locs := locs) (cells := nc) (slots := ns) (Q := Z) hc.1 hc.2.1 hc.2.2.2.2.2.1 (hc7 _ hlk) (hc7 _ hins) (hc7 _ hini) rfl hd h1 h2 hKn.2.1 hH (g := F0 m pc arr (st.map (qcv G))) fun H1 kC hkC e1 z1 o1 => ?_) T0 hT X
  have hkp : ∀ (j : Nat) (x : Nat × va_E), (qw G sh M J)[j]? = some x → H1[x.1]? = H[x.1]? := fun j x hx => o1 x.1 (by rw [← hH]; exact (hR.2.1 j x hx).lt)
  have hS1 : va_S (qA G) s.heap H1 locs := ⟨Nat.le_trans hS.1 (by omega), fun x a1 a2 => (o1 x (by have := hS.1; omega)).trans (hS.2.1 x a1 a2), hS.2.2⟩
  have hP1 : va_P (gD G) vwCl (qw G (sh ++ [.inr (ci, List.replicate N none)]) M J) H1 := by
    rw [qw_push]
    refine (hR.2.1.kept hkp).app (fun j x hx => ?_)
    have hz1 : j < 1 := (List.getElem?_eq_some_iff.mp hx).1
    rw [show j = 0 by omega] at hx
    cases hx
    refine ⟨_, hcl, (u_born ty0 hc7 hin hKn hkC e1 hty).to (fun f hf => ?_)⟩
    show defaultValue (ty0 f) = (qfs G M J sh.length ci (List.replicate N none)).getD f .null
    rw [List.getD, qfs_get (by rw [hN]; exact hf)]
    show _ = qcv G _
    rw [hM, hJ, show (List.replicate N (none : Option Nat)).getD f none = none by simp [List.getD, List.getElem?_replicate, hf], qfa_nul, (hqt f hf).1]
    exact (hqt f hf).2
  have hk := k p e s m args below meth c H1 locs arr Z hc ⟨by rw [List.length_append]; have := hz.1; simp; omega, hz.2⟩ (hR.keep hS hS1 hz.2 (by simp; omega) hP1) hS1 hL hZ
  have hr : qcv G (.ref sh.length) = .ref (gb G + sh.length) := by show Value.ref (if sh.length < 4096 then gb G + sh.length else gs G) = _; rw [if_pos hl]
  rw [List.map_cons, hr] at hk
  exact hk
theorem q_newa_int {x : Int32} {N : Nat} {sh' : qSh} (hd : decode Y.2.1 pc = .ok (.newarray .int, 2)) (hx0 : ¬ x < 0) (hxN : x.toNatClampNeg = N) (hbig : N ≤ 100000)
    (hM : ∀ k, M sh.length k = 0) (hl : sh.length < 4096) (h1 : nc + 1 ≤ R.cells) (h2 : ns + N ≤ R.slots) {q : Nat} (hq : sh.length = q) (he : sh ++ [.inl (false, N)] = sh') (k : QW G R Y (nc + 1) (ns + N) (pc + 2) ls (.ref q :: st) sh' M J ρ) : QW G R Y nc ns pc ls (.int x :: st) sh M J ρ := by
  intro p e s m args below meth c H locs arr Z hc hz hR hS hL hZ
  subst he; subst hq
  intro T0 hT X
  have hH := q_size hT X hz hR hS
  have hc7 := hc.2.2.2.2.2.2.1
  refine (va_newaK (p := p) (l := gl G) (e := e) (R := R) (s := s) (m := m) (args := args) (below := below) (meth := meth) (c := c) (H := H) (locs := locs) (cells := nc) (slots := ns) (Q := Z) hc.1 hc.2.1 (atype := .int) (hc7 _ acl_int) rfl hd (rest := st.map (qcv G)) rfl hx0 hxN (by show N * 4 ≤ _; omega) h1 h2 hH (g := F0 m pc arr (.int x :: st.map (qcv G))) fun H1 cA e1 z1 o1 hAr hNm => ?_) T0 hT X
  have hcA : cA = gI G := Option.some.inj (hNm.symm.trans (hR.2.2.1.2 0 _ rfl).2)
  subst hcA
  have hkp : ∀ (j : Nat) (x : Nat × va_E), (qw G sh M J)[j]? = some x → H1[x.1]? = H[x.1]? := fun j x hx => o1 x.1 (by rw [← hH]; exact (hR.2.1 j x hx).lt)
  have hS1 : va_S (qA G) s.heap H1 locs := ⟨Nat.le_trans hS.1 (by omega), fun x a1 a2 => (o1 x (by have := hS.1; omega)).trans (hS.2.1 x a1 a2), hS.2.2⟩
  have hP1 : va_P (gD G) vwCl (qw G (sh ++ [.inl (false, N)]) M J) H1 := by
    rw [qw_push]
    refine (hR.2.1.kept hkp).app (fun j x hx => ?_)
    have hz1 : j < 1 := (List.getElem?_eq_some_iff.mp hx).1
    rw [show j = 0 by omega] at hx
    cases hx
    show H1[gb G + sh.length]? = some (vp_cell _ _)
    rw [e1]
    show _ = some (vp_cell (gI G) (N, .inl (M sh.length)))
    rw [vp_cell_i, show M sh.length = fun _ => (0 : Int32) from funext hM]
    rfl
  have hk := k p e s m args below meth c H1 locs arr Z hc ⟨by rw [List.length_append]; have := hz.1; simp; omega, hz.2⟩ (hR.keep hS hS1 hz.2 (by simp; omega) hP1) hS1 hL hZ
  have hr : qcv G (.ref sh.length) = .ref (gb G + sh.length) := by show Value.ref (if sh.length < 4096 then gb G + sh.length else gs G) = _; rw [if_pos hl]
  rw [List.map_cons, hr] at hk
  exact hk
theorem q_newa_boolean {x : Int32} {N : Nat} {sh' : qSh} (hd : decode Y.2.1 pc = .ok (.newarray .boolean, 2)) (hx0 : ¬ x < 0) (hxN : x.toNatClampNeg = N) (hbig : N ≤ 100000)
    (hM : ∀ k, M sh.length k = 0) (hl : sh.length < 4096) (h1 : nc + 1 ≤ R.cells) (h2 : ns + N ≤ R.slots) {q : Nat} (hq : sh.length = q) (he : sh ++ [.inl (true, N)] = sh') (k : QW G R Y (nc + 1) (ns + N) (pc + 2) ls (.ref q :: st) sh' M J ρ) : QW G R Y nc ns pc ls (.int x :: st) sh M J ρ := by
  intro p e s m args below meth c H locs arr Z hc hz hR hS hL hZ
  subst he; subst hq
  intro T0 hT X
  have hH := q_size hT X hz hR hS
  have hc7 := hc.2.2.2.2.2.2.1
  refine (va_newaK (p := p) (l := gl G) (e := e) (R := R) (s := s) (m := m) (args := args) (below := below) (meth := meth) (c := c) (H := H) (locs := locs) (cells := nc) (slots := ns) (Q := Z) hc.1 hc.2.1 (atype := .boolean) (hc7 _ acl_boolean) rfl hd (rest := st.map (qcv G)) rfl hx0 hxN (by show N * 1 ≤ _; omega) h1 h2 hH (g := F0 m pc arr (.int x :: st.map (qcv G))) fun H1 cA e1 z1 o1 hAr hNm => ?_) T0 hT X
  have hcA : cA = gZ G := Option.some.inj (hNm.symm.trans (hR.2.2.1.2 1 _ rfl).2)
  subst hcA
  have hkp : ∀ (j : Nat) (x : Nat × va_E), (qw G sh M J)[j]? = some x → H1[x.1]? = H[x.1]? := fun j x hx => o1 x.1 (by rw [← hH]; exact (hR.2.1 j x hx).lt)
  have hS1 : va_S (qA G) s.heap H1 locs := ⟨Nat.le_trans hS.1 (by omega), fun x a1 a2 => (o1 x (by have := hS.1; omega)).trans (hS.2.1 x a1 a2), hS.2.2⟩
  have hP1 : va_P (gD G) vwCl (qw G (sh ++ [.inl (true, N)]) M J) H1 := by
    rw [qw_push]
    refine (hR.2.1.kept hkp).app (fun j x hx => ?_)
    have hz1 : j < 1 := (List.getElem?_eq_some_iff.mp hx).1
    rw [show j = 0 by omega] at hx
    cases hx
    show H1[gb G + sh.length]? = some (vp_cell _ _)
    rw [e1]
    show _ = some (vp_cell (gZ G) (N, .inl (M sh.length)))
    rw [vp_cell_i, show M sh.length = fun _ => (0 : Int32) from funext hM]
    rfl
  have hk := k p e s m args below meth c H1 locs arr Z hc ⟨by rw [List.length_append]; have := hz.1; simp; omega, hz.2⟩ (hR.keep hS hS1 hz.2 (by simp; omega) hP1) hS1 hL hZ
  have hr : qcv G (.ref sh.length) = .ref (gb G + sh.length) := by show Value.ref (if sh.length < 4096 then gb G + sh.length else gs G) = _; rw [if_pos hl]
  rw [List.map_cons, hr] at hk
  exact hk
end QM
end
