-- ===== PART A: goes FIRST, ahead of the names: the tables' words, and 'selects' of the private methods out of them =====
/-- a private method of a class that the tables say can be made, by its rows of tables_1 -/
def lw_okq (q : MethodName × Nat) : Prop := (q.1.cls ≠ "java/lang/invoke/MethodHandle" ∧ q.1.cls ≠ "java/lang/invoke/VarHandle") ∧ Cond.instantiable q.1.cls q.2 ∈ tables_1 ∧ Cond.privateMethod q.1 ∈ tables_1 ∧ Cond.instanceMethod q.1 ∈ tables_1
theorem lw_p0 : lw_okq (⟨"CoalIsLent$Reader", "readToken", "()V"⟩, 10) := ⟨⟨by decide +kernel, by decide +kernel⟩, List.mem_of_getElem? (i := 46) (by decide +kernel), List.mem_of_getElem? (i := 143) (by decide +kernel), List.mem_of_getElem? (i := 144) (by decide +kernel)⟩
theorem lw_p1 : lw_okq (⟨"CoalIsLent$Reader", "byteAt", "(I)I"⟩, 10) := ⟨⟨by decide +kernel, by decide +kernel⟩, List.mem_of_getElem? (i := 46) (by decide +kernel), List.mem_of_getElem? (i := 147) (by decide +kernel), List.mem_of_getElem? (i := 148) (by decide +kernel)⟩
theorem lw_p2 : lw_okq (⟨"CoalIsLent$Reader", "endOfWord", "()I"⟩, 10) := ⟨⟨by decide +kernel, by decide +kernel⟩, List.mem_of_getElem? (i := 46) (by decide +kernel), List.mem_of_getElem? (i := 160) (by decide +kernel), List.mem_of_getElem? (i := 161) (by decide +kernel)⟩
theorem lw_p3 : lw_okq (⟨"CoalIsLent$Reader", "nameRead", "()I"⟩, 10) := ⟨⟨by decide +kernel, by decide +kernel⟩, List.mem_of_getElem? (i := 46) (by decide +kernel), List.mem_of_getElem? (i := 164) (by decide +kernel), List.mem_of_getElem? (i := 165) (by decide +kernel)⟩
theorem lw_p4 : lw_okq (⟨"CoalIsLent$Reader", "isRead", "(Ljava/lang/String;)Z"⟩, 10) := ⟨⟨by decide +kernel, by decide +kernel⟩, List.mem_of_getElem? (i := 46) (by decide +kernel), List.mem_of_getElem? (i := 169) (by decide +kernel), List.mem_of_getElem? (i := 170) (by decide +kernel)⟩
theorem lw_p5 : lw_okq (⟨"CoalIsLent$Reader", "keyRead", "()I"⟩, 10) := ⟨⟨by decide +kernel, by decide +kernel⟩, List.mem_of_getElem? (i := 46) (by decide +kernel), List.mem_of_getElem? (i := 180) (by decide +kernel), List.mem_of_getElem? (i := 181) (by decide +kernel)⟩
theorem lw_p6 : lw_okq (⟨"CoalIsLent$Reader", "readNumber", "()V"⟩, 10) := ⟨⟨by decide +kernel, by decide +kernel⟩, List.mem_of_getElem? (i := 46) (by decide +kernel), List.mem_of_getElem? (i := 193) (by decide +kernel), List.mem_of_getElem? (i := 194) (by decide +kernel)⟩
theorem lw_p7 : lw_okq (⟨"CoalIsLent$Reader", "expect", "(I)V"⟩, 10) := ⟨⟨by decide +kernel, by decide +kernel⟩, List.mem_of_getElem? (i := 46) (by decide +kernel), List.mem_of_getElem? (i := 200) (by decide +kernel), List.mem_of_getElem? (i := 201) (by decide +kernel)⟩
theorem lw_p8 : lw_okq (⟨"CoalIsLent$Reader", "fail", "()V"⟩, 10) := ⟨⟨by decide +kernel, by decide +kernel⟩, List.mem_of_getElem? (i := 46) (by decide +kernel), List.mem_of_getElem? (i := 204) (by decide +kernel), List.mem_of_getElem? (i := 205) (by decide +kernel)⟩
theorem lw_p9 : lw_okq (⟨"CoalIsLent$Reader", "readOr", "(I)V"⟩, 10) := ⟨⟨by decide +kernel, by decide +kernel⟩, List.mem_of_getElem? (i := 46) (by decide +kernel), List.mem_of_getElem? (i := 208) (by decide +kernel), List.mem_of_getElem? (i := 209) (by decide +kernel)⟩
theorem lw_p10 : lw_okq (⟨"CoalIsLent$Reader", "readAnd", "(I)V"⟩, 10) := ⟨⟨by decide +kernel, by decide +kernel⟩, List.mem_of_getElem? (i := 46) (by decide +kernel), List.mem_of_getElem? (i := 212) (by decide +kernel), List.mem_of_getElem? (i := 213) (by decide +kernel)⟩
theorem lw_p11 : lw_okq (⟨"CoalIsLent$Reader", "readNot", "(I)V"⟩, 10) := ⟨⟨by decide +kernel, by decide +kernel⟩, List.mem_of_getElem? (i := 46) (by decide +kernel), List.mem_of_getElem? (i := 216) (by decide +kernel), List.mem_of_getElem? (i := 217) (by decide +kernel)⟩
theorem lw_p12 : lw_okq (⟨"CoalIsLent$Reader", "opens", "(I)Z"⟩, 10) := ⟨⟨by decide +kernel, by decide +kernel⟩, List.mem_of_getElem? (i := 46) (by decide +kernel), List.mem_of_getElem? (i := 220) (by decide +kernel), List.mem_of_getElem? (i := 221) (by decide +kernel)⟩
theorem lw_p13 : lw_okq (⟨"CoalIsLent$Reader", "emit", "(I)V"⟩, 10) := ⟨⟨by decide +kernel, by decide +kernel⟩, List.mem_of_getElem? (i := 46) (by decide +kernel), List.mem_of_getElem? (i := 224) (by decide +kernel), List.mem_of_getElem? (i := 225) (by decide +kernel)⟩
theorem lw_p14 : lw_okq (⟨"CoalIsLent$Reader", "readSum", "(I)V"⟩, 10) := ⟨⟨by decide +kernel, by decide +kernel⟩, List.mem_of_getElem? (i := 46) (by decide +kernel), List.mem_of_getElem? (i := 228) (by decide +kernel), List.mem_of_getElem? (i := 229) (by decide +kernel)⟩
theorem lw_p15 : lw_okq (⟨"CoalIsLent$Reader", "readTerm", "(I)V"⟩, 10) := ⟨⟨by decide +kernel, by decide +kernel⟩, List.mem_of_getElem? (i := 46) (by decide +kernel), List.mem_of_getElem? (i := 232) (by decide +kernel), List.mem_of_getElem? (i := 233) (by decide +kernel)⟩
def lw_privs_1 : List (MethodName × Nat) := [(⟨"CoalIsLent$Reader", "readToken", "()V"⟩, 10), (⟨"CoalIsLent$Reader", "byteAt", "(I)I"⟩, 10), (⟨"CoalIsLent$Reader", "endOfWord", "()I"⟩, 10), (⟨"CoalIsLent$Reader", "nameRead", "()I"⟩, 10), (⟨"CoalIsLent$Reader", "isRead", "(Ljava/lang/String;)Z"⟩, 10), (⟨"CoalIsLent$Reader", "keyRead", "()I"⟩, 10), (⟨"CoalIsLent$Reader", "readNumber", "()V"⟩, 10), (⟨"CoalIsLent$Reader", "expect", "(I)V"⟩, 10), (⟨"CoalIsLent$Reader", "fail", "()V"⟩, 10), (⟨"CoalIsLent$Reader", "readOr", "(I)V"⟩, 10), (⟨"CoalIsLent$Reader", "readAnd", "(I)V"⟩, 10), (⟨"CoalIsLent$Reader", "readNot", "(I)V"⟩, 10), (⟨"CoalIsLent$Reader", "opens", "(I)Z"⟩, 10), (⟨"CoalIsLent$Reader", "emit", "(I)V"⟩, 10), (⟨"CoalIsLent$Reader", "readSum", "(I)V"⟩, 10), (⟨"CoalIsLent$Reader", "readTerm", "(I)V"⟩, 10)]
theorem lw_r1 : ∀ q ∈ lw_privs_1, lw_okq q := List.forall_mem_cons.mpr ⟨lw_p0, List.forall_mem_cons.mpr ⟨lw_p1, List.forall_mem_cons.mpr ⟨lw_p2, List.forall_mem_cons.mpr ⟨lw_p3, List.forall_mem_cons.mpr ⟨lw_p4, List.forall_mem_cons.mpr ⟨lw_p5, List.forall_mem_cons.mpr ⟨lw_p6, List.forall_mem_cons.mpr ⟨lw_p7, List.forall_mem_cons.mpr ⟨lw_p8, List.forall_mem_cons.mpr ⟨lw_p9, List.forall_mem_cons.mpr ⟨lw_p10, List.forall_mem_cons.mpr ⟨lw_p11, List.forall_mem_cons.mpr ⟨lw_p12, List.forall_mem_cons.mpr ⟨lw_p13, List.forall_mem_cons.mpr ⟨lw_p14, List.forall_mem_cons.mpr ⟨lw_p15, fun _ h => absurd h List.not_mem_nil⟩⟩⟩⟩⟩⟩⟩⟩⟩⟩⟩⟩⟩⟩⟩⟩
theorem lw_p16 : lw_okq (⟨"CoalIsLent$Reader", "readOne", "(I)V"⟩, 10) := ⟨⟨by decide +kernel, by decide +kernel⟩, List.mem_of_getElem? (i := 46) (by decide +kernel), List.mem_of_getElem? (i := 236) (by decide +kernel), List.mem_of_getElem? (i := 237) (by decide +kernel)⟩
theorem lw_p17 : lw_okq (⟨"CoalIsLent$World", "coalsWhere", "([II)I"⟩, 15) := ⟨⟨by decide +kernel, by decide +kernel⟩, List.mem_of_getElem? (i := 254) (by decide +kernel), List.mem_of_getElem? (i := 400) (by decide +kernel), List.mem_of_getElem? (i := 401) (by decide +kernel)⟩
theorem lw_p18 : lw_okq (⟨"CoalIsLent$World", "pass", "(III)V"⟩, 15) := ⟨⟨by decide +kernel, by decide +kernel⟩, List.mem_of_getElem? (i := 254) (by decide +kernel), List.mem_of_getElem? (i := 479) (by decide +kernel), List.mem_of_getElem? (i := 480) (by decide +kernel)⟩
theorem lw_p19 : lw_okq (⟨"CoalIsLent$World", "grow", "(I)V"⟩, 15) := ⟨⟨by decide +kernel, by decide +kernel⟩, List.mem_of_getElem? (i := 254) (by decide +kernel), List.mem_of_getElem? (i := 519) (by decide +kernel), List.mem_of_getElem? (i := 520) (by decide +kernel)⟩
theorem lw_p20 : lw_okq (⟨"CoalIsLent$World", "endDueLoans", "()I"⟩, 15) := ⟨⟨by decide +kernel, by decide +kernel⟩, List.mem_of_getElem? (i := 254) (by decide +kernel), List.mem_of_getElem? (i := 527) (by decide +kernel), List.mem_of_getElem? (i := 528) (by decide +kernel)⟩
theorem lw_p21 : lw_okq (⟨"CoalIsLent$World", "warm", "(I)V"⟩, 15) := ⟨⟨by decide +kernel, by decide +kernel⟩, List.mem_of_getElem? (i := 254) (by decide +kernel), List.mem_of_getElem? (i := 534) (by decide +kernel), List.mem_of_getElem? (i := 535) (by decide +kernel)⟩
theorem lw_p22 : lw_okq (⟨"CoalIsLent", "think", "()LCoalIsLent$World;"⟩, 8) := ⟨⟨by decide +kernel, by decide +kernel⟩, List.mem_of_getElem? (i := 17) (by decide +kernel), List.mem_of_getElem? (i := 548) (by decide +kernel), List.mem_of_getElem? (i := 549) (by decide +kernel)⟩
theorem lw_p23 : lw_okq (⟨"CoalIsLent", "nightsToFailing", "(I)I"⟩, 8) := ⟨⟨by decide +kernel, by decide +kernel⟩, List.mem_of_getElem? (i := 17) (by decide +kernel), List.mem_of_getElem? (i := 566) (by decide +kernel), List.mem_of_getElem? (i := 567) (by decide +kernel)⟩
theorem lw_p24 : lw_okq (⟨"CoalIsLent", "nightsToNoHeat", "(I)I"⟩, 8) := ⟨⟨by decide +kernel, by decide +kernel⟩, List.mem_of_getElem? (i := 17) (by decide +kernel), List.mem_of_getElem? (i := 573) (by decide +kernel), List.mem_of_getElem? (i := 574) (by decide +kernel)⟩
theorem lw_p25 : lw_okq (⟨"CoalIsLent", "payOnce", "()I"⟩, 8) := ⟨⟨by decide +kernel, by decide +kernel⟩, List.mem_of_getElem? (i := 17) (by decide +kernel), List.mem_of_getElem? (i := 587) (by decide +kernel), List.mem_of_getElem? (i := 588) (by decide +kernel)⟩
theorem lw_p26 : lw_okq (⟨"CoalIsLent", "heatIfLent", "(III)I"⟩, 8) := ⟨⟨by decide +kernel, by decide +kernel⟩, List.mem_of_getElem? (i := 17) (by decide +kernel), List.mem_of_getElem? (i := 609) (by decide +kernel), List.mem_of_getElem? (i := 610) (by decide +kernel)⟩
theorem lw_p27 : lw_okq (⟨"CoalIsLent", "heatOfOthersWithout", "(II)I"⟩, 8) := ⟨⟨by decide +kernel, by decide +kernel⟩, List.mem_of_getElem? (i := 17) (by decide +kernel), List.mem_of_getElem? (i := 635) (by decide +kernel), List.mem_of_getElem? (i := 636) (by decide +kernel)⟩
theorem lw_p28 : lw_okq (⟨"CoalIsLent", "judgeRefusal", "(II)I"⟩, 8) := ⟨⟨by decide +kernel, by decide +kernel⟩, List.mem_of_getElem? (i := 17) (by decide +kernel), List.mem_of_getElem? (i := 643) (by decide +kernel), List.mem_of_getElem? (i := 644) (by decide +kernel)⟩
theorem lw_p29 : lw_okq (⟨"CoalIsLent", "toldRefusal", "(I)I"⟩, 8) := ⟨⟨by decide +kernel, by decide +kernel⟩, List.mem_of_getElem? (i := 17) (by decide +kernel), List.mem_of_getElem? (i := 647) (by decide +kernel), List.mem_of_getElem? (i := 648) (by decide +kernel)⟩
theorem lw_p30 : lw_okq (⟨"CoalIsLent", "firstOtherwise", "(ILCoalIsLent$World;I)I"⟩, 8) := ⟨⟨by decide +kernel, by decide +kernel⟩, List.mem_of_getElem? (i := 17) (by decide +kernel), List.mem_of_getElem? (i := 663) (by decide +kernel), List.mem_of_getElem? (i := 664) (by decide +kernel)⟩
theorem lw_p31 : lw_okq (⟨"CoalIsLent", "isTold", "(ILCoalIsLent$World;I)Z"⟩, 8) := ⟨⟨by decide +kernel, by decide +kernel⟩, List.mem_of_getElem? (i := 17) (by decide +kernel), List.mem_of_getElem? (i := 675) (by decide +kernel), List.mem_of_getElem? (i := 676) (by decide +kernel)⟩
def lw_privs_2 : List (MethodName × Nat) := [(⟨"CoalIsLent$Reader", "readOne", "(I)V"⟩, 10), (⟨"CoalIsLent$World", "coalsWhere", "([II)I"⟩, 15), (⟨"CoalIsLent$World", "pass", "(III)V"⟩, 15), (⟨"CoalIsLent$World", "grow", "(I)V"⟩, 15), (⟨"CoalIsLent$World", "endDueLoans", "()I"⟩, 15), (⟨"CoalIsLent$World", "warm", "(I)V"⟩, 15), (⟨"CoalIsLent", "think", "()LCoalIsLent$World;"⟩, 8), (⟨"CoalIsLent", "nightsToFailing", "(I)I"⟩, 8), (⟨"CoalIsLent", "nightsToNoHeat", "(I)I"⟩, 8), (⟨"CoalIsLent", "payOnce", "()I"⟩, 8), (⟨"CoalIsLent", "heatIfLent", "(III)I"⟩, 8), (⟨"CoalIsLent", "heatOfOthersWithout", "(II)I"⟩, 8), (⟨"CoalIsLent", "judgeRefusal", "(II)I"⟩, 8), (⟨"CoalIsLent", "toldRefusal", "(I)I"⟩, 8), (⟨"CoalIsLent", "firstOtherwise", "(ILCoalIsLent$World;I)I"⟩, 8), (⟨"CoalIsLent", "isTold", "(ILCoalIsLent$World;I)Z"⟩, 8)]
theorem lw_r2 : ∀ q ∈ lw_privs_2, lw_okq q := List.forall_mem_cons.mpr ⟨lw_p16, List.forall_mem_cons.mpr ⟨lw_p17, List.forall_mem_cons.mpr ⟨lw_p18, List.forall_mem_cons.mpr ⟨lw_p19, List.forall_mem_cons.mpr ⟨lw_p20, List.forall_mem_cons.mpr ⟨lw_p21, List.forall_mem_cons.mpr ⟨lw_p22, List.forall_mem_cons.mpr ⟨lw_p23, List.forall_mem_cons.mpr ⟨lw_p24, List.forall_mem_cons.mpr ⟨lw_p25, List.forall_mem_cons.mpr ⟨lw_p26, List.forall_mem_cons.mpr ⟨lw_p27, List.forall_mem_cons.mpr ⟨lw_p28, List.forall_mem_cons.mpr ⟨lw_p29, List.forall_mem_cons.mpr ⟨lw_p30, List.forall_mem_cons.mpr ⟨lw_p31, fun _ h => absurd h List.not_mem_nil⟩⟩⟩⟩⟩⟩⟩⟩⟩⟩⟩⟩⟩⟩⟩⟩
theorem lw_p32 : lw_okq (⟨"CoalIsLentModel", "next", "()V"⟩, 37) := ⟨⟨by decide +kernel, by decide +kernel⟩, List.mem_of_getElem? (i := 775) (by decide +kernel), List.mem_of_getElem? (i := 785) (by decide +kernel), List.mem_of_getElem? (i := 786) (by decide +kernel)⟩
theorem lw_p33 : lw_okq (⟨"CoalIsLentModel", "wordFrom", "(II)I"⟩, 37) := ⟨⟨by decide +kernel, by decide +kernel⟩, List.mem_of_getElem? (i := 775) (by decide +kernel), List.mem_of_getElem? (i := 792) (by decide +kernel), List.mem_of_getElem? (i := 793) (by decide +kernel)⟩
theorem lw_p34 : lw_okq (⟨"CoalIsLentModel", "eRead", "()Z"⟩, 37) := ⟨⟨by decide +kernel, by decide +kernel⟩, List.mem_of_getElem? (i := 775) (by decide +kernel), List.mem_of_getElem? (i := 796) (by decide +kernel), List.mem_of_getElem? (i := 797) (by decide +kernel)⟩
theorem lw_p35 : lw_okq (⟨"CoalIsLentModel", "puts", "(I)V"⟩, 37) := ⟨⟨by decide +kernel, by decide +kernel⟩, List.mem_of_getElem? (i := 775) (by decide +kernel), List.mem_of_getElem? (i := 801) (by decide +kernel), List.mem_of_getElem? (i := 802) (by decide +kernel)⟩
theorem lw_p36 : lw_okq (⟨"CoalIsLentModel", "unwinds", "(I)V"⟩, 37) := ⟨⟨by decide +kernel, by decide +kernel⟩, List.mem_of_getElem? (i := 775) (by decide +kernel), List.mem_of_getElem? (i := 805) (by decide +kernel), List.mem_of_getElem? (i := 806) (by decide +kernel)⟩
theorem lw_p37 : lw_okq (⟨"CoalIsLentModel", "opensOne", "(I)Z"⟩, 37) := ⟨⟨by decide +kernel, by decide +kernel⟩, List.mem_of_getElem? (i := 775) (by decide +kernel), List.mem_of_getElem? (i := 812) (by decide +kernel), List.mem_of_getElem? (i := 813) (by decide +kernel)⟩
theorem lw_p38 : lw_okq (⟨"CoalIsLentModel", "holds", "(I)V"⟩, 37) := ⟨⟨by decide +kernel, by decide +kernel⟩, List.mem_of_getElem? (i := 775) (by decide +kernel), List.mem_of_getElem? (i := 816) (by decide +kernel), List.mem_of_getElem? (i := 817) (by decide +kernel)⟩
theorem lw_p39 : lw_okq (⟨"CoalIsLentModel", "signOf", "()I"⟩, 37) := ⟨⟨by decide +kernel, by decide +kernel⟩, List.mem_of_getElem? (i := 775) (by decide +kernel), List.mem_of_getElem? (i := 820) (by decide +kernel), List.mem_of_getElem? (i := 821) (by decide +kernel)⟩
theorem lw_p40 : lw_okq (⟨"CoalIsLentModel", "between", "(I)Z"⟩, 37) := ⟨⟨by decide +kernel, by decide +kernel⟩, List.mem_of_getElem? (i := 775) (by decide +kernel), List.mem_of_getElem? (i := 824) (by decide +kernel), List.mem_of_getElem? (i := 825) (by decide +kernel)⟩
theorem lw_p41 : lw_okq (⟨"CoalIsLentModel", "heatAll", "()I"⟩, 37) := ⟨⟨by decide +kernel, by decide +kernel⟩, List.mem_of_getElem? (i := 775) (by decide +kernel), List.mem_of_getElem? (i := 944) (by decide +kernel), List.mem_of_getElem? (i := 945) (by decide +kernel)⟩
theorem lw_p42 : lw_okq (⟨"CoalIsLentModel", "isHut", "(I)Z"⟩, 37) := ⟨⟨by decide +kernel, by decide +kernel⟩, List.mem_of_getElem? (i := 775) (by decide +kernel), List.mem_of_getElem? (i := 964) (by decide +kernel), List.mem_of_getElem? (i := 965) (by decide +kernel)⟩
theorem lw_p43 : lw_okq (⟨"CoalIsLentModel", "asksOf", "(III)I"⟩, 37) := ⟨⟨by decide +kernel, by decide +kernel⟩, List.mem_of_getElem? (i := 775) (by decide +kernel), List.mem_of_getElem? (i := 968) (by decide +kernel), List.mem_of_getElem? (i := 969) (by decide +kernel)⟩
theorem lw_p44 : lw_okq (⟨"CoalIsLentModel", "owedBy", "(I)I"⟩, 37) := ⟨⟨by decide +kernel, by decide +kernel⟩, List.mem_of_getElem? (i := 775) (by decide +kernel), List.mem_of_getElem? (i := 972) (by decide +kernel), List.mem_of_getElem? (i := 973) (by decide +kernel)⟩
theorem lw_p45 : lw_okq (⟨"CoalIsLentModel", "says", "(I)I"⟩, 37) := ⟨⟨by decide +kernel, by decide +kernel⟩, List.mem_of_getElem? (i := 775) (by decide +kernel), List.mem_of_getElem? (i := 976) (by decide +kernel), List.mem_of_getElem? (i := 977) (by decide +kernel)⟩
theorem lw_p46 : lw_okq (⟨"CoalIsLentModel", "owedTo", "(I)I"⟩, 37) := ⟨⟨by decide +kernel, by decide +kernel⟩, List.mem_of_getElem? (i := 775) (by decide +kernel), List.mem_of_getElem? (i := 999) (by decide +kernel), List.mem_of_getElem? (i := 1000) (by decide +kernel)⟩
theorem lw_p47 : lw_okq (⟨"CoalIsLentModel", "lentBy", "(I)I"⟩, 37) := ⟨⟨by decide +kernel, by decide +kernel⟩, List.mem_of_getElem? (i := 775) (by decide +kernel), List.mem_of_getElem? (i := 1003) (by decide +kernel), List.mem_of_getElem? (i := 1004) (by decide +kernel)⟩
def lw_privs_3 : List (MethodName × Nat) := [(⟨"CoalIsLentModel", "next", "()V"⟩, 37), (⟨"CoalIsLentModel", "wordFrom", "(II)I"⟩, 37), (⟨"CoalIsLentModel", "eRead", "()Z"⟩, 37), (⟨"CoalIsLentModel", "puts", "(I)V"⟩, 37), (⟨"CoalIsLentModel", "unwinds", "(I)V"⟩, 37), (⟨"CoalIsLentModel", "opensOne", "(I)Z"⟩, 37), (⟨"CoalIsLentModel", "holds", "(I)V"⟩, 37), (⟨"CoalIsLentModel", "signOf", "()I"⟩, 37), (⟨"CoalIsLentModel", "between", "(I)Z"⟩, 37), (⟨"CoalIsLentModel", "heatAll", "()I"⟩, 37), (⟨"CoalIsLentModel", "isHut", "(I)Z"⟩, 37), (⟨"CoalIsLentModel", "asksOf", "(III)I"⟩, 37), (⟨"CoalIsLentModel", "owedBy", "(I)I"⟩, 37), (⟨"CoalIsLentModel", "says", "(I)I"⟩, 37), (⟨"CoalIsLentModel", "owedTo", "(I)I"⟩, 37), (⟨"CoalIsLentModel", "lentBy", "(I)I"⟩, 37)]
theorem lw_r3 : ∀ q ∈ lw_privs_3, lw_okq q := List.forall_mem_cons.mpr ⟨lw_p32, List.forall_mem_cons.mpr ⟨lw_p33, List.forall_mem_cons.mpr ⟨lw_p34, List.forall_mem_cons.mpr ⟨lw_p35, List.forall_mem_cons.mpr ⟨lw_p36, List.forall_mem_cons.mpr ⟨lw_p37, List.forall_mem_cons.mpr ⟨lw_p38, List.forall_mem_cons.mpr ⟨lw_p39, List.forall_mem_cons.mpr ⟨lw_p40, List.forall_mem_cons.mpr ⟨lw_p41, List.forall_mem_cons.mpr ⟨lw_p42, List.forall_mem_cons.mpr ⟨lw_p43, List.forall_mem_cons.mpr ⟨lw_p44, List.forall_mem_cons.mpr ⟨lw_p45, List.forall_mem_cons.mpr ⟨lw_p46, List.forall_mem_cons.mpr ⟨lw_p47, fun _ h => absurd h List.not_mem_nil⟩⟩⟩⟩⟩⟩⟩⟩⟩⟩⟩⟩⟩⟩⟩⟩
theorem lw_p48 : lw_okq (⟨"CoalIsLentModel", "mayLend", "(II)Z"⟩, 37) := ⟨⟨by decide +kernel, by decide +kernel⟩, List.mem_of_getElem? (i := 775) (by decide +kernel), List.mem_of_getElem? (i := 1014) (by decide +kernel), List.mem_of_getElem? (i := 1015) (by decide +kernel)⟩
theorem lw_p49 : lw_okq (⟨"CoalIsLentModel", "lends", "(III)V"⟩, 37) := ⟨⟨by decide +kernel, by decide +kernel⟩, List.mem_of_getElem? (i := 775) (by decide +kernel), List.mem_of_getElem? (i := 1018) (by decide +kernel), List.mem_of_getElem? (i := 1019) (by decide +kernel)⟩
theorem lw_p50 : lw_okq (⟨"CoalIsLentModel", "moves", "(III)V"⟩, 37) := ⟨⟨by decide +kernel, by decide +kernel⟩, List.mem_of_getElem? (i := 775) (by decide +kernel), List.mem_of_getElem? (i := 1022) (by decide +kernel), List.mem_of_getElem? (i := 1023) (by decide +kernel)⟩
theorem lw_p51 : lw_okq (⟨"CoalIsLentModel", "isLoan", "(I)Z"⟩, 37) := ⟨⟨by decide +kernel, by decide +kernel⟩, List.mem_of_getElem? (i := 775) (by decide +kernel), List.mem_of_getElem? (i := 1030) (by decide +kernel), List.mem_of_getElem? (i := 1031) (by decide +kernel)⟩
theorem lw_p52 : lw_okq (⟨"CoalIsLentModel", "drops", "(I)V"⟩, 37) := ⟨⟨by decide +kernel, by decide +kernel⟩, List.mem_of_getElem? (i := 775) (by decide +kernel), List.mem_of_getElem? (i := 1038) (by decide +kernel), List.mem_of_getElem? (i := 1039) (by decide +kernel)⟩
theorem lw_p53 : lw_okq (⟨"CoalIsLentModel", "nightOf", "()I"⟩, 37) := ⟨⟨by decide +kernel, by decide +kernel⟩, List.mem_of_getElem? (i := 775) (by decide +kernel), List.mem_of_getElem? (i := 1050) (by decide +kernel), List.mem_of_getElem? (i := 1051) (by decide +kernel)⟩
theorem lw_p54 : lw_okq (⟨"CoalIsLentModel", "growsOf", "(II)I"⟩, 37) := ⟨⟨by decide +kernel, by decide +kernel⟩, List.mem_of_getElem? (i := 775) (by decide +kernel), List.mem_of_getElem? (i := 1054) (by decide +kernel), List.mem_of_getElem? (i := 1055) (by decide +kernel)⟩
theorem lw_p55 : lw_okq (⟨"CoalIsLentModel", "hearth", "(I)V"⟩, 37) := ⟨⟨by decide +kernel, by decide +kernel⟩, List.mem_of_getElem? (i := 775) (by decide +kernel), List.mem_of_getElem? (i := 1058) (by decide +kernel), List.mem_of_getElem? (i := 1059) (by decide +kernel)⟩
theorem lw_p56 : lw_okq (⟨"CoalIsLentModel", "burnsOf", "(I)I"⟩, 37) := ⟨⟨by decide +kernel, by decide +kernel⟩, List.mem_of_getElem? (i := 775) (by decide +kernel), List.mem_of_getElem? (i := 1062) (by decide +kernel), List.mem_of_getElem? (i := 1063) (by decide +kernel)⟩
theorem lw_p57 : lw_okq (⟨"CoalIsLentModel", "coolsOf", "(I)I"⟩, 37) := ⟨⟨by decide +kernel, by decide +kernel⟩, List.mem_of_getElem? (i := 775) (by decide +kernel), List.mem_of_getElem? (i := 1066) (by decide +kernel), List.mem_of_getElem? (i := 1067) (by decide +kernel)⟩
theorem lw_p58 : lw_okq (⟨"CoalIsLentModel", "keeps", "()V"⟩, 37) := ⟨⟨by decide +kernel, by decide +kernel⟩, List.mem_of_getElem? (i := 775) (by decide +kernel), List.mem_of_getElem? (i := 1074) (by decide +kernel), List.mem_of_getElem? (i := 1075) (by decide +kernel)⟩
theorem lw_p59 : lw_okq (⟨"CoalIsLentModel", "goes", "(I)I"⟩, 37) := ⟨⟨by decide +kernel, by decide +kernel⟩, List.mem_of_getElem? (i := 775) (by decide +kernel), List.mem_of_getElem? (i := 1078) (by decide +kernel), List.mem_of_getElem? (i := 1079) (by decide +kernel)⟩
theorem lw_p60 : lw_okq (⟨"CoalIsLentModel", "lays", "()V"⟩, 37) := ⟨⟨by decide +kernel, by decide +kernel⟩, List.mem_of_getElem? (i := 775) (by decide +kernel), List.mem_of_getElem? (i := 1082) (by decide +kernel), List.mem_of_getElem? (i := 1083) (by decide +kernel)⟩
theorem lw_p61 : lw_okq (⟨"CoalIsLentModel", "sourceOf", "(I)I"⟩, 37) := ⟨⟨by decide +kernel, by decide +kernel⟩, List.mem_of_getElem? (i := 775) (by decide +kernel), List.mem_of_getElem? (i := 1103) (by decide +kernel), List.mem_of_getElem? (i := 1104) (by decide +kernel)⟩
theorem lw_p62 : lw_okq (⟨"CoalIsLentModel", "failsBut", "(II)I"⟩, 37) := ⟨⟨by decide +kernel, by decide +kernel⟩, List.mem_of_getElem? (i := 775) (by decide +kernel), List.mem_of_getElem? (i := 1123) (by decide +kernel), List.mem_of_getElem? (i := 1124) (by decide +kernel)⟩
theorem lw_p63 : lw_okq (⟨"CoalIsLentModel", "toldWrong", "(II)I"⟩, 37) := ⟨⟨by decide +kernel, by decide +kernel⟩, List.mem_of_getElem? (i := 775) (by decide +kernel), List.mem_of_getElem? (i := 1138) (by decide +kernel), List.mem_of_getElem? (i := 1139) (by decide +kernel)⟩
def lw_privs_4 : List (MethodName × Nat) := [(⟨"CoalIsLentModel", "mayLend", "(II)Z"⟩, 37), (⟨"CoalIsLentModel", "lends", "(III)V"⟩, 37), (⟨"CoalIsLentModel", "moves", "(III)V"⟩, 37), (⟨"CoalIsLentModel", "isLoan", "(I)Z"⟩, 37), (⟨"CoalIsLentModel", "drops", "(I)V"⟩, 37), (⟨"CoalIsLentModel", "nightOf", "()I"⟩, 37), (⟨"CoalIsLentModel", "growsOf", "(II)I"⟩, 37), (⟨"CoalIsLentModel", "hearth", "(I)V"⟩, 37), (⟨"CoalIsLentModel", "burnsOf", "(I)I"⟩, 37), (⟨"CoalIsLentModel", "coolsOf", "(I)I"⟩, 37), (⟨"CoalIsLentModel", "keeps", "()V"⟩, 37), (⟨"CoalIsLentModel", "goes", "(I)I"⟩, 37), (⟨"CoalIsLentModel", "lays", "()V"⟩, 37), (⟨"CoalIsLentModel", "sourceOf", "(I)I"⟩, 37), (⟨"CoalIsLentModel", "failsBut", "(II)I"⟩, 37), (⟨"CoalIsLentModel", "toldWrong", "(II)I"⟩, 37)]
theorem lw_r4 : ∀ q ∈ lw_privs_4, lw_okq q := List.forall_mem_cons.mpr ⟨lw_p48, List.forall_mem_cons.mpr ⟨lw_p49, List.forall_mem_cons.mpr ⟨lw_p50, List.forall_mem_cons.mpr ⟨lw_p51, List.forall_mem_cons.mpr ⟨lw_p52, List.forall_mem_cons.mpr ⟨lw_p53, List.forall_mem_cons.mpr ⟨lw_p54, List.forall_mem_cons.mpr ⟨lw_p55, List.forall_mem_cons.mpr ⟨lw_p56, List.forall_mem_cons.mpr ⟨lw_p57, List.forall_mem_cons.mpr ⟨lw_p58, List.forall_mem_cons.mpr ⟨lw_p59, List.forall_mem_cons.mpr ⟨lw_p60, List.forall_mem_cons.mpr ⟨lw_p61, List.forall_mem_cons.mpr ⟨lw_p62, List.forall_mem_cons.mpr ⟨lw_p63, fun _ h => absurd h List.not_mem_nil⟩⟩⟩⟩⟩⟩⟩⟩⟩⟩⟩⟩⟩⟩⟩⟩
theorem lw_p64 : lw_okq (⟨"CoalIsLentModel", "sheetWrong", "(I)I"⟩, 37) := ⟨⟨by decide +kernel, by decide +kernel⟩, List.mem_of_getElem? (i := 775) (by decide +kernel), List.mem_of_getElem? (i := 1142) (by decide +kernel), List.mem_of_getElem? (i := 1143) (by decide +kernel)⟩
theorem lw_p65 : lw_okq (⟨"CoalIsLentModel", "unlike", "(II)I"⟩, 37) := ⟨⟨by decide +kernel, by decide +kernel⟩, List.mem_of_getElem? (i := 775) (by decide +kernel), List.mem_of_getElem? (i := 1146) (by decide +kernel), List.mem_of_getElem? (i := 1147) (by decide +kernel)⟩
theorem lw_p66 : lw_okq (⟨"CoalIsLentModel", "snows", "(II)I"⟩, 37) := ⟨⟨by decide +kernel, by decide +kernel⟩, List.mem_of_getElem? (i := 775) (by decide +kernel), List.mem_of_getElem? (i := 1175) (by decide +kernel), List.mem_of_getElem? (i := 1176) (by decide +kernel)⟩
def lw_privs_5 : List (MethodName × Nat) := [(⟨"CoalIsLentModel", "sheetWrong", "(I)I"⟩, 37), (⟨"CoalIsLentModel", "unlike", "(II)I"⟩, 37), (⟨"CoalIsLentModel", "snows", "(II)I"⟩, 37)]
theorem lw_r5 : ∀ q ∈ lw_privs_5, lw_okq q := List.forall_mem_cons.mpr ⟨lw_p64, List.forall_mem_cons.mpr ⟨lw_p65, List.forall_mem_cons.mpr ⟨lw_p66, fun _ h => absurd h List.not_mem_nil⟩⟩⟩
def lw_privs : List (MethodName × Nat) := lw_privs_1 ++ (lw_privs_2 ++ (lw_privs_3 ++ (lw_privs_4 ++ (lw_privs_5))))
def lw_tbl : List Cond := k2_sels lw_privs ++ tables_1
theorem lw_privs_ok : ∀ q ∈ lw_privs, lw_okq q := by
  show ∀ q ∈ lw_privs_1 ++ (lw_privs_2 ++ (lw_privs_3 ++ (lw_privs_4 ++ (lw_privs_5)))), lw_okq q
  exact List.forall_mem_append.mpr ⟨lw_r1, List.forall_mem_append.mpr ⟨lw_r2, List.forall_mem_append.mpr ⟨lw_r3, List.forall_mem_append.mpr ⟨lw_r4, lw_r5⟩⟩⟩⟩
-- ===== end of PART A; then your names; then what follows =====
/-! ===== BEGIN words of one list among another's, by their places ===== -/
theorem goodIn_r {big : List Cond} (ws : List Cond) (ps : List Nat) (hp : ws = ps.filterMap (fun i => big[i]?)) (h : ws.all goodWord = true) : GoodIn big ws := by
  intro w hw
  have h1 := List.all_eq_true.mp h w hw
  rw [hp] at hw
  obtain ⟨i, -, hi⟩ := List.mem_filterMap.mp hw
  have hm : w ∈ big := by first | exact List.mem_of_getElem? hi | exact List.getElem?_mem hi
  exact ⟨hm, good_of_word h1⟩
theorem goodIn_app {big a b : List Cond} (ha : GoodIn big a) (hb : GoodIn big b) : GoodIn big (a ++ b) := fun w h => (List.mem_append.mp h).elim (ha w) (hb w)
theorem goodIn_ca {big a b : List Cond} {c : Cond} (ha : GoodIn big (c :: a)) (hb : GoodIn big b) : GoodIn big (c :: (a ++ b)) := fun w h => (List.mem_cons.mp h).elim (fun e => ha w (List.mem_cons.mpr (Or.inl e))) (fun h => (List.mem_append.mp h).elim (fun h => ha w (List.mem_cons.mpr (Or.inr h))) (hb w))
theorem goodIn_sub {big ws : List Cond} (hm : ∀ w ∈ ws, w ∈ big) (h : ws.all goodWord = true) : GoodIn big ws := fun w hw => ⟨hm w hw, good_of_word (List.all_eq_true.mp h w hw)⟩
/-! ===== END ===== -/

/-! ===== BEGIN printed: names, fields, word lists, decode rows ===== -/
def RX0 : String := "CoalIsLent$Code"
def TX0 : u_T := fun k => match k with
  | _ => ("", "", "", false)
def tyX0 : Nat → FieldType := fun k => match k with
  | _ => .int
abbrev wsX00 : List Cond := u_ws RX0 TX0 0
theorem nmX0 : ∀ a, a < 0 → ∀ b, b < 0 → a ≠ b → (TX0 a).2.1 ≠ (TX0 b).2.1 := by decide +kernel
theorem tyX0_ok : ∀ k, k < 0 → parseFieldDescriptor (TX0 k).2.2.1 = some (tyX0 k) := by decide +kernel
abbrev cX0_ofName : ByteArray := prog_2_method_2_code
def yX0_ofName : MethodName := ⟨RX0, "ofName", "(I)I"⟩
abbrev cX0_isName : ByteArray := prog_2_method_3_code
def yX0_isName : MethodName := ⟨RX0, "isName", "(I)Z"⟩
abbrev cX0_isOfOne : ByteArray := prog_2_method_4_code
def yX0_isOfOne : MethodName := ⟨RX0, "isOfOne", "(I)Z"⟩
abbrev cX0_ofOne : ByteArray := prog_2_method_5_code
def yX0_ofOne : MethodName := ⟨RX0, "ofOne", "(II)I"⟩
abbrev cX0_isOfTwo : ByteArray := prog_2_method_6_code
def yX0_isOfTwo : MethodName := ⟨RX0, "isOfTwo", "(I)Z"⟩
abbrev cX0_ofTwo : ByteArray := prog_2_method_7_code
def yX0_ofTwo : MethodName := ⟨RX0, "ofTwo", "(III)I"⟩
def RX1 : String := "CoalIsLent$Kinds"
def TX1 : u_T := fun k => match k with
  | _ => ("", "", "", false)
def tyX1 : Nat → FieldType := fun k => match k with
  | _ => .int
abbrev wsX10 : List Cond := u_ws RX1 TX1 0
theorem nmX1 : ∀ a, a < 0 → ∀ b, b < 0 → a ≠ b → (TX1 a).2.1 ≠ (TX1 b).2.1 := by decide +kernel
theorem tyX1_ok : ∀ k, k < 0 → parseFieldDescriptor (TX1 k).2.2.1 = some (tyX1 k) := by decide +kernel
abbrev cX1_isOne : ByteArray := prog_3_method_2_code
def yX1_isOne : MethodName := ⟨RX1, "isOne", "(II)Z"⟩
abbrev cX1_growth : ByteArray := prog_3_method_3_code
def yX1_growth : MethodName := ⟨RX1, "growth", "(IIII)I"⟩
abbrev cX1_cooling : ByteArray := prog_3_method_4_code
def yX1_cooling : MethodName := ⟨RX1, "cooling", "(III)I"⟩
abbrev cX1_burning : ByteArray := prog_3_method_5_code
def yX1_burning : MethodName := ⟨RX1, "burning", "(IIII)I"⟩
def RX2 : String := "CoalIsLent$Reader"
def TX2 : u_T := fun k => match k with
  | 0 => ("CoalIsLent$Reader", "bytes", "[I", true)
  | 1 => ("CoalIsLent$Reader", "size", "I", false)
  | 2 => ("CoalIsLent$Reader", "code", "[I", true)
  | 3 => ("CoalIsLent$Reader", "codes", "I", false)
  | 4 => ("CoalIsLent$Reader", "ends", "[I", true)
  | 5 => ("CoalIsLent$Reader", "place", "I", false)
  | 6 => ("CoalIsLent$Reader", "start", "I", false)
  | 7 => ("CoalIsLent$Reader", "token", "I", false)
  | 8 => ("CoalIsLent$Reader", "number", "I", false)
  | _ => ("CoalIsLent$Reader", "fault", "I", false)
def tyX2 : Nat → FieldType := fun k => match k with
  | 0 => .array .int
  | 1 => .int
  | 2 => .array .int
  | 3 => .int
  | 4 => .array .int
  | 5 => .int
  | 6 => .int
  | 7 => .int
  | 8 => .int
  | _ => .int
abbrev wsX20 : List Cond := u_ws RX2 TX2 10
theorem nmX2 : ∀ a, a < 10 → ∀ b, b < 10 → a ≠ b → (TX2 a).2.1 ≠ (TX2 b).2.1 := by decide +kernel
theorem tyX2_ok : ∀ k, k < 10 → parseFieldDescriptor (TX2 k).2.2.1 = some (tyX2 k) := by decide +kernel
abbrev cX2_init : ByteArray := prog_4_method_1_code
def yX2_init : MethodName := ⟨RX2, "<init>", "()V"⟩
abbrev cX2_takeByte : ByteArray := prog_4_method_2_code
def yX2_takeByte : MethodName := ⟨RX2, "takeByte", "(I)V"⟩
abbrev cX2_clear : ByteArray := prog_4_method_3_code
def yX2_clear : MethodName := ⟨RX2, "clear", "()V"⟩
abbrev cX2_readText : ByteArray := prog_4_method_4_code
def yX2_readText : MethodName := ⟨RX2, "readText", "()I"⟩
abbrev cX2_expect : ByteArray := prog_4_method_5_code
def yX2_expect : MethodName := ⟨RX2, "expect", "(I)V"⟩
abbrev cX2_fail : ByteArray := prog_4_method_6_code
def yX2_fail : MethodName := ⟨RX2, "fail", "()V"⟩
abbrev cX2_emit : ByteArray := prog_4_method_7_code
def yX2_emit : MethodName := ⟨RX2, "emit", "(I)V"⟩
abbrev cX2_readOr : ByteArray := prog_4_method_8_code
def yX2_readOr : MethodName := ⟨RX2, "readOr", "(I)V"⟩
abbrev cX2_readAnd : ByteArray := prog_4_method_9_code
def yX2_readAnd : MethodName := ⟨RX2, "readAnd", "(I)V"⟩
abbrev cX2_readNot : ByteArray := prog_4_method_10_code
def yX2_readNot : MethodName := ⟨RX2, "readNot", "(I)V"⟩
abbrev cX2_readSum : ByteArray := prog_4_method_11_code
def yX2_readSum : MethodName := ⟨RX2, "readSum", "(I)V"⟩
abbrev cX2_readTerm : ByteArray := prog_4_method_12_code
def yX2_readTerm : MethodName := ⟨RX2, "readTerm", "(I)V"⟩
abbrev cX2_readOne : ByteArray := prog_4_method_13_code
def yX2_readOne : MethodName := ⟨RX2, "readOne", "(I)V"⟩
abbrev cX2_opens : ByteArray := prog_4_method_14_code
def yX2_opens : MethodName := ⟨RX2, "opens", "(I)Z"⟩
abbrev cX2_readToken : ByteArray := prog_4_method_15_code
def yX2_readToken : MethodName := ⟨RX2, "readToken", "()V"⟩
abbrev cX2_endOfWord : ByteArray := prog_4_method_16_code
def yX2_endOfWord : MethodName := ⟨RX2, "endOfWord", "()I"⟩
abbrev cX2_readNumber : ByteArray := prog_4_method_17_code
def yX2_readNumber : MethodName := ⟨RX2, "readNumber", "()V"⟩
abbrev cX2_keyRead : ByteArray := prog_4_method_18_code
def yX2_keyRead : MethodName := ⟨RX2, "keyRead", "()I"⟩
abbrev cX2_nameRead : ByteArray := prog_4_method_19_code
def yX2_nameRead : MethodName := ⟨RX2, "nameRead", "()I"⟩
abbrev cX2_isRead : ByteArray := prog_4_method_20_code
def yX2_isRead : MethodName := ⟨RX2, "isRead", "(Ljava/lang/String;)Z"⟩
abbrev cX2_byteAt : ByteArray := prog_4_method_21_code
def yX2_byteAt : MethodName := ⟨RX2, "byteAt", "(I)I"⟩
abbrev cX2_isBlank : ByteArray := prog_4_method_22_code
def yX2_isBlank : MethodName := ⟨RX2, "isBlank", "(I)Z"⟩
abbrev cX2_isLetter : ByteArray := prog_4_method_23_code
def yX2_isLetter : MethodName := ⟨RX2, "isLetter", "(I)Z"⟩
abbrev cX2_isDigit : ByteArray := prog_4_method_24_code
def yX2_isDigit : MethodName := ⟨RX2, "isDigit", "(I)Z"⟩
abbrev cX2_isSign : ByteArray := prog_4_method_25_code
def yX2_isSign : MethodName := ⟨RX2, "isSign", "(I)Z"⟩
def RX3 : String := "CoalIsLent$Sheets"
def TX3 : u_T := fun k => match k with
  | 0 => ("CoalIsLent$Sheets", "sorts", "[I", true)
  | 1 => ("CoalIsLent$Sheets", "sizes", "[I", true)
  | _ => ("CoalIsLent$Sheets", "numbers", "[I", true)
def tyX3 : Nat → FieldType := fun k => match k with
  | 0 => .array .int
  | 1 => .array .int
  | _ => .array .int
abbrev wsX30 : List Cond := u_ws RX3 TX3 3
theorem nmX3 : ∀ a, a < 3 → ∀ b, b < 3 → a ≠ b → (TX3 a).2.1 ≠ (TX3 b).2.1 := by decide +kernel
theorem tyX3_ok : ∀ k, k < 3 → parseFieldDescriptor (TX3 k).2.2.1 = some (tyX3 k) := by decide +kernel
abbrev cX3_init : ByteArray := prog_5_method_1_code
def yX3_init : MethodName := ⟨RX3, "<init>", "()V"⟩
abbrev cX3_isSheet : ByteArray := prog_5_method_2_code
def yX3_isSheet : MethodName := ⟨RX3, "isSheet", "(I)Z"⟩
abbrev cX3_isMissing : ByteArray := prog_5_method_3_code
def yX3_isMissing : MethodName := ⟨RX3, "isMissing", "(I)Z"⟩
abbrev cX3_sortOf : ByteArray := prog_5_method_4_code
def yX3_sortOf : MethodName := ⟨RX3, "sortOf", "(I)I"⟩
abbrev cX3_sizeOf : ByteArray := prog_5_method_5_code
def yX3_sizeOf : MethodName := ⟨RX3, "sizeOf", "(I)I"⟩
abbrev cX3_isPlace : ByteArray := prog_5_method_6_code
def yX3_isPlace : MethodName := ⟨RX3, "isPlace", "(II)Z"⟩
abbrev cX3_isStretch : ByteArray := prog_5_method_7_code
def yX3_isStretch : MethodName := ⟨RX3, "isStretch", "(III)Z"⟩
abbrev cX3_renew : ByteArray := prog_5_method_8_code
def yX3_renew : MethodName := ⟨RX3, "renew", "(III)V"⟩
abbrev cX3_at : ByteArray := prog_5_method_9_code
def yX3_at : MethodName := ⟨RX3, "at", "(II)I"⟩
abbrev cX3_write : ByteArray := prog_5_method_10_code
def yX3_write : MethodName := ⟨RX3, "write", "(III)V"⟩
abbrev cX3_move : ByteArray := prog_5_method_11_code
def yX3_move : MethodName := ⟨RX3, "move", "(IIIII)V"⟩
def RX4 : String := "CoalIsLent$Texts"
def TX4 : u_T := fun k => match k with
  | 0 => ("CoalIsLent$Texts", "code", "[I", true)
  | 1 => ("CoalIsLent$Texts", "ends", "[I", true)
  | 2 => ("CoalIsLent$Texts", "stack", "[I", true)
  | _ => ("CoalIsLent$Texts", "known", "I", false)
def tyX4 : Nat → FieldType := fun k => match k with
  | 0 => .array .int
  | 1 => .array .int
  | 2 => .array .int
  | _ => .int
abbrev wsX40 : List Cond := u_ws RX4 TX4 4
theorem nmX4 : ∀ a, a < 4 → ∀ b, b < 4 → a ≠ b → (TX4 a).2.1 ≠ (TX4 b).2.1 := by decide +kernel
theorem tyX4_ok : ∀ k, k < 4 → parseFieldDescriptor (TX4 k).2.2.1 = some (tyX4 k) := by decide +kernel
abbrev cX4_init : ByteArray := prog_6_method_1_code
def yX4_init : MethodName := ⟨RX4, "<init>", "()V"⟩
abbrev cX4_keep : ByteArray := prog_6_method_2_code
def yX4_keep : MethodName := ⟨RX4, "keep", "(LCoalIsLent$Reader;)I"⟩
abbrev cX4_valueOf : ByteArray := prog_6_method_3_code
def yX4_valueOf : MethodName := ⟨RX4, "valueOf", "(II[I)I"⟩
def RX5 : String := "CoalIsLent$World"
def TX5 : u_T := fun k => match k with
  | 0 => ("CoalIsLent$World", "heat", "[I", true)
  | 1 => ("CoalIsLent$World", "wood", "[I", true)
  | 2 => ("CoalIsLent$World", "cold", "[I", true)
  | 3 => ("CoalIsLent$World", "kind", "[I", true)
  | 4 => ("CoalIsLent$World", "more", "[I", true)
  | 5 => ("CoalIsLent$World", "from", "[I", true)
  | 6 => ("CoalIsLent$World", "to", "[I", true)
  | 7 => ("CoalIsLent$World", "coal", "[I", true)
  | 8 => ("CoalIsLent$World", "due", "[I", true)
  | 9 => ("CoalIsLent$World", "huts", "I", false)
  | 10 => ("CoalIsLent$World", "loans", "I", false)
  | 11 => ("CoalIsLent$World", "night", "I", false)
  | 12 => ("CoalIsLent$World", "law", "I", false)
  | 13 => ("CoalIsLent$World", "texts", "LCoalIsLent$Texts;", true)
  | _ => ("CoalIsLent$World", "names", "[I", true)
def tyX5 : Nat → FieldType := fun k => match k with
  | 0 => .array .int
  | 1 => .array .int
  | 2 => .array .int
  | 3 => .array .int
  | 4 => .array .int
  | 5 => .array .int
  | 6 => .array .int
  | 7 => .array .int
  | 8 => .array .int
  | 9 => .int
  | 10 => .int
  | 11 => .int
  | 12 => .int
  | 13 => .object "CoalIsLent$Texts"
  | _ => .array .int
abbrev wsX50 : List Cond := u_ws RX5 TX5 15
theorem nmX5 : ∀ a, a < 15 → ∀ b, b < 15 → a ≠ b → (TX5 a).2.1 ≠ (TX5 b).2.1 := by decide +kernel
theorem tyX5_ok : ∀ k, k < 15 → parseFieldDescriptor (TX5 k).2.2.1 = some (tyX5 k) := by decide +kernel
abbrev cX5_init : ByteArray := prog_7_method_1_code
def yX5_init : MethodName := ⟨RX5, "<init>", "(LCoalIsLent$Texts;)V"⟩
abbrev cX5_becomeAs : ByteArray := prog_7_method_2_code
def yX5_becomeAs : MethodName := ⟨RX5, "becomeAs", "(LCoalIsLent$World;)V"⟩
abbrev cX5_isHut : ByteArray := prog_7_method_3_code
def yX5_isHut : MethodName := ⟨RX5, "isHut", "(I)Z"⟩
abbrev cX5_isLoan : ByteArray := prog_7_method_4_code
def yX5_isLoan : MethodName := ⟨RX5, "isLoan", "(I)Z"⟩
abbrev cX5_comes : ByteArray := prog_7_method_5_code
def yX5_comes : MethodName := ⟨RX5, "comes", "(II)I"⟩
abbrev cX5_stateOf : ByteArray := prog_7_method_6_code
def yX5_stateOf : MethodName := ⟨RX5, "stateOf", "(II)I"⟩
abbrev cX5_become : ByteArray := prog_7_method_7_code
def yX5_become : MethodName := ⟨RX5, "become", "(III)V"⟩
abbrev cX5_heatOfAll : ByteArray := prog_7_method_8_code
def yX5_heatOfAll : MethodName := ⟨RX5, "heatOfAll", "()I"⟩
abbrev cX5_owes : ByteArray := prog_7_method_9_code
def yX5_owes : MethodName := ⟨RX5, "owes", "(I)I"⟩
abbrev cX5_isOwed : ByteArray := prog_7_method_10_code
def yX5_isOwed : MethodName := ⟨RX5, "isOwed", "(I)I"⟩
abbrev cX5_coalsWhere : ByteArray := prog_7_method_11_code
def yX5_coalsWhere : MethodName := ⟨RX5, "coalsWhere", "([II)I"⟩
abbrev cX5_loansFrom : ByteArray := prog_7_method_12_code
def yX5_loansFrom : MethodName := ⟨RX5, "loansFrom", "(I)I"⟩
abbrev cX5_sourceOf : ByteArray := prog_7_method_13_code
def yX5_sourceOf : MethodName := ⟨RX5, "sourceOf", "(I)I"⟩
abbrev cX5_lends : ByteArray := prog_7_method_14_code
def yX5_lends : MethodName := ⟨RX5, "lends", "(IIII)I"⟩
abbrev cX5_pass : ByteArray := prog_7_method_15_code
def yX5_pass : MethodName := ⟨RX5, "pass", "(III)V"⟩
abbrev cX5_canRepay : ByteArray := prog_7_method_16_code
def yX5_canRepay : MethodName := ⟨RX5, "canRepay", "(I)Z"⟩
abbrev cX5_payBack : ByteArray := prog_7_method_17_code
def yX5_payBack : MethodName := ⟨RX5, "payBack", "(I)V"⟩
abbrev cX5_drop : ByteArray := prog_7_method_18_code
def yX5_drop : MethodName := ⟨RX5, "drop", "(I)V"⟩
abbrev cX5_passNight : ByteArray := prog_7_method_19_code
def yX5_passNight : MethodName := ⟨RX5, "passNight", "()I"⟩
abbrev cX5_passNights : ByteArray := prog_7_method_20_code
def yX5_passNights : MethodName := ⟨RX5, "passNights", "(I)I"⟩
abbrev cX5_failedIn : ByteArray := prog_7_method_21_code
def yX5_failedIn : MethodName := ⟨RX5, "failedIn", "(I)I"⟩
abbrev cX5_passSnow : ByteArray := prog_7_method_22_code
def yX5_passSnow : MethodName := ⟨RX5, "passSnow", "(II)I"⟩
abbrev cX5_grow : ByteArray := prog_7_method_23_code
def yX5_grow : MethodName := ⟨RX5, "grow", "(I)V"⟩
abbrev cX5_endDueLoans : ByteArray := prog_7_method_24_code
def yX5_endDueLoans : MethodName := ⟨RX5, "endDueLoans", "()I"⟩
abbrev cX5_warm : ByteArray := prog_7_method_25_code
def yX5_warm : MethodName := ⟨RX5, "warm", "(I)V"⟩
abbrev cX5_says : ByteArray := prog_7_method_26_code
def yX5_says : MethodName := ⟨RX5, "says", "(III)I"⟩
def RX6 : String := "CoalIsLent"
def TX6 : u_T := fun k => match k with
  | 0 => ("CoalIsLent", "texts", "LCoalIsLent$Texts;", true)
  | 1 => ("CoalIsLent", "tape", "LCoalIsLent$Reader;", true)
  | 2 => ("CoalIsLent", "now", "LCoalIsLent$World;", true)
  | 3 => ("CoalIsLent", "thought", "LCoalIsLent$World;", true)
  | 4 => ("CoalIsLent", "kept", "LCoalIsLent$World;", true)
  | 5 => ("CoalIsLent", "sheets", "LCoalIsLent$Sheets;", true)
  | 6 => ("CoalIsLent", "nets", "[I", true)
  | _ => ("CoalIsLent", "isKept", "Z", false)
def tyX6 : Nat → FieldType := fun k => match k with
  | 0 => .object "CoalIsLent$Texts"
  | 1 => .object "CoalIsLent$Reader"
  | 2 => .object "CoalIsLent$World"
  | 3 => .object "CoalIsLent$World"
  | 4 => .object "CoalIsLent$World"
  | 5 => .object "CoalIsLent$Sheets"
  | 6 => .array .int
  | _ => .boolean
abbrev wsX60 : List Cond := u_ws RX6 TX6 8
theorem nmX6 : ∀ a, a < 8 → ∀ b, b < 8 → a ≠ b → (TX6 a).2.1 ≠ (TX6 b).2.1 := by decide +kernel
theorem tyX6_ok : ∀ k, k < 8 → parseFieldDescriptor (TX6 k).2.2.1 = some (tyX6 k) := by decide +kernel
abbrev cX6_init : ByteArray := prog_1_method_1_code
def yX6_init : MethodName := ⟨RX6, "<init>", "()V"⟩
abbrev cX6_count : ByteArray := prog_1_method_2_code
def yX6_count : MethodName := ⟨RX6, "count", "(I)I"⟩
abbrev cX6_feed : ByteArray := prog_1_method_3_code
def yX6_feed : MethodName := ⟨RX6, "feed", "(IIIIII)I"⟩
abbrev cX6_text : ByteArray := prog_1_method_4_code
def yX6_text : MethodName := ⟨RX6, "text", "()I"⟩
abbrev cX6_force : ByteArray := prog_1_method_5_code
def yX6_force : MethodName := ⟨RX6, "force", "(I)I"⟩
abbrev cX6_asks : ByteArray := prog_1_method_6_code
def yX6_asks : MethodName := ⟨RX6, "asks", "(III)I"⟩
abbrev cX6_hut : ByteArray := prog_1_method_7_code
def yX6_hut : MethodName := ⟨RX6, "hut", "(II)I"⟩
abbrev cX6_put : ByteArray := prog_1_method_8_code
def yX6_put : MethodName := ⟨RX6, "put", "(III)I"⟩
abbrev cX6_told : ByteArray := prog_1_method_9_code
def yX6_told : MethodName := ⟨RX6, "told", "(II)I"⟩
abbrev cX6_lend : ByteArray := prog_1_method_10_code
def yX6_lend : MethodName := ⟨RX6, "lend", "(II)I"⟩
abbrev cX6_loan : ByteArray := prog_1_method_11_code
def yX6_loan : MethodName := ⟨RX6, "loan", "(II)I"⟩
abbrev cX6_repay : ByteArray := prog_1_method_12_code
def yX6_repay : MethodName := ⟨RX6, "repay", "(I)I"⟩
abbrev cX6_forgive : ByteArray := prog_1_method_13_code
def yX6_forgive : MethodName := ⟨RX6, "forgive", "(I)I"⟩
abbrev cX6_night : ByteArray := prog_1_method_14_code
def yX6_night : MethodName := ⟨RX6, "night", "()I"⟩
abbrev cX6_run : ByteArray := prog_1_method_15_code
def yX6_run : MethodName := ⟨RX6, "run", "(II)I"⟩
abbrev cX6_lasts : ByteArray := prog_1_method_16_code
def yX6_lasts : MethodName := ⟨RX6, "lasts", "(II)I"⟩
abbrev cX6_nightsToFailing : ByteArray := prog_1_method_17_code
def yX6_nightsToFailing : MethodName := ⟨RX6, "nightsToFailing", "(I)I"⟩
abbrev cX6_nightsToNoHeat : ByteArray := prog_1_method_18_code
def yX6_nightsToNoHeat : MethodName := ⟨RX6, "nightsToNoHeat", "(I)I"⟩
abbrev cX6_net : ByteArray := prog_1_method_19_code
def yX6_net : MethodName := ⟨RX6, "net", "(I)I"⟩
abbrev cX6_settle : ByteArray := prog_1_method_20_code
def yX6_settle : MethodName := ⟨RX6, "settle", "(I)I"⟩
abbrev cX6_payOnce : ByteArray := prog_1_method_21_code
def yX6_payOnce : MethodName := ⟨RX6, "payOnce", "()I"⟩
abbrev cX6_source : ByteArray := prog_1_method_22_code
def yX6_source : MethodName := ⟨RX6, "source", "(I)I"⟩
abbrev cX6_rings : ByteArray := prog_1_method_23_code
def yX6_rings : MethodName := ⟨RX6, "rings", "(I)I"⟩
abbrev cX6_ask : ByteArray := prog_1_method_24_code
def yX6_ask : MethodName := ⟨RX6, "ask", "(III)I"⟩
abbrev cX6_heatIfLent : ByteArray := prog_1_method_25_code
def yX6_heatIfLent : MethodName := ⟨RX6, "heatIfLent", "(III)I"⟩
abbrev cX6_needs : ByteArray := prog_1_method_26_code
def yX6_needs : MethodName := ⟨RX6, "needs", "(II)I"⟩
abbrev cX6_mercy : ByteArray := prog_1_method_27_code
def yX6_mercy : MethodName := ⟨RX6, "mercy", "(II)I"⟩
abbrev cX6_worst : ByteArray := prog_1_method_28_code
def yX6_worst : MethodName := ⟨RX6, "worst", "(II)I"⟩
abbrev cX6_heatOfOthersWithout : ByteArray := prog_1_method_29_code
def yX6_heatOfOthersWithout : MethodName := ⟨RX6, "heatOfOthersWithout", "(II)I"⟩
abbrev cX6_judge : ByteArray := prog_1_method_30_code
def yX6_judge : MethodName := ⟨RX6, "judge", "(II)I"⟩
abbrev cX6_kinds : ByteArray := prog_1_method_31_code
def yX6_kinds : MethodName := ⟨RX6, "kinds", "(III)I"⟩
abbrev cX6_states : ByteArray := prog_1_method_32_code
def yX6_states : MethodName := ⟨RX6, "states", "(IIII)I"⟩
abbrev cX6_whose : ByteArray := prog_1_method_33_code
def yX6_whose : MethodName := ⟨RX6, "whose", "(I)I"⟩
abbrev cX6_laws : ByteArray := prog_1_method_34_code
def yX6_laws : MethodName := ⟨RX6, "laws", "(II)I"⟩
abbrev cX6_film : ByteArray := prog_1_method_35_code
def yX6_film : MethodName := ⟨RX6, "film", "(III)I"⟩
abbrev cX6_firstOtherwise : ByteArray := prog_1_method_36_code
def yX6_firstOtherwise : MethodName := ⟨RX6, "firstOtherwise", "(ILCoalIsLent$World;I)I"⟩
abbrev cX6_isTold : ByteArray := prog_1_method_37_code
def yX6_isTold : MethodName := ⟨RX6, "isTold", "(ILCoalIsLent$World;I)Z"⟩
abbrev cX6_toldRefusal : ByteArray := prog_1_method_38_code
def yX6_toldRefusal : MethodName := ⟨RX6, "toldRefusal", "(I)I"⟩
abbrev cX6_judgeRefusal : ByteArray := prog_1_method_39_code
def yX6_judgeRefusal : MethodName := ⟨RX6, "judgeRefusal", "(II)I"⟩
abbrev cX6_drawn : ByteArray := prog_1_method_40_code
def yX6_drawn : MethodName := ⟨RX6, "drawn", "(III)I"⟩
abbrev cX6_odds : ByteArray := prog_1_method_41_code
def yX6_odds : MethodName := ⟨RX6, "odds", "(IIIII)J"⟩
abbrev cX6_greatestShared : ByteArray := prog_1_method_42_code
def yX6_greatestShared : MethodName := ⟨RX6, "greatestShared", "(II)I"⟩
abbrev cX6_image : ByteArray := prog_1_method_43_code
def yX6_image : MethodName := ⟨RX6, "image", "()I"⟩
abbrev cX6_back : ByteArray := prog_1_method_44_code
def yX6_back : MethodName := ⟨RX6, "back", "()I"⟩
abbrev cX6_sheet : ByteArray := prog_1_method_45_code
def yX6_sheet : MethodName := ⟨RX6, "sheet", "(III)I"⟩
abbrev cX6_cell : ByteArray := prog_1_method_46_code
def yX6_cell : MethodName := ⟨RX6, "cell", "(III)I"⟩
abbrev cX6_copy : ByteArray := prog_1_method_47_code
def yX6_copy : MethodName := ⟨RX6, "copy", "(IIIII)I"⟩
abbrev cX6_hutsBy : ByteArray := prog_1_method_48_code
def yX6_hutsBy : MethodName := ⟨RX6, "hutsBy", "(IIII)I"⟩
abbrev cX6_taken : ByteArray := prog_1_method_49_code
def yX6_taken : MethodName := ⟨RX6, "taken", "(II)I"⟩
abbrev cX6_think : ByteArray := prog_1_method_50_code
def yX6_think : MethodName := ⟨RX6, "think", "()LCoalIsLent$World;"⟩
abbrev cX6_isFromTo : ByteArray := prog_1_method_51_code
def yX6_isFromTo : MethodName := ⟨RX6, "isFromTo", "(III)Z"⟩
abbrev cX6_isByte : ByteArray := prog_1_method_52_code
def yX6_isByte : MethodName := ⟨RX6, "isByte", "(I)Z"⟩
abbrev cX6_isCoalNights : ByteArray := prog_1_method_53_code
def yX6_isCoalNights : MethodName := ⟨RX6, "isCoalNights", "(II)Z"⟩
abbrev cX6_isSnow : ByteArray := prog_1_method_54_code
def yX6_isSnow : MethodName := ⟨RX6, "isSnow", "(II)Z"⟩
abbrev cX6_has : ByteArray := prog_1_method_55_code
def yX6_has : MethodName := ⟨RX6, "has", "(II)Z"⟩
abbrev cX6_mostOf : ByteArray := prog_1_method_56_code
def yX6_mostOf : MethodName := ⟨RX6, "mostOf", "(I)I"⟩
def RX7 : String := "CoalIsLentModel"
def TX7 : u_T := fun k => match k with
  | 0 => ("CoalIsLentModel", "huts", "I", false)
  | 1 => ("CoalIsLentModel", "kind", "[I", true)
  | 2 => ("CoalIsLentModel", "moreOf", "[I", true)
  | 3 => ("CoalIsLentModel", "rows", "[I", true)
  | 4 => ("CoalIsLentModel", "lender", "[I", true)
  | 5 => ("CoalIsLentModel", "ower", "[I", true)
  | 6 => ("CoalIsLentModel", "coals", "[I", true)
  | 7 => ("CoalIsLentModel", "dues", "[I", true)
  | 8 => ("CoalIsLentModel", "loans", "I", false)
  | 9 => ("CoalIsLentModel", "nights", "I", false)
  | 10 => ("CoalIsLentModel", "tape", "[I", true)
  | 11 => ("CoalIsLentModel", "taped", "I", false)
  | 12 => ("CoalIsLentModel", "codes", "[I", true)
  | 13 => ("CoalIsLentModel", "starts", "[I", true)
  | 14 => ("CoalIsLentModel", "texts", "I", false)
  | 15 => ("CoalIsLentModel", "rule", "I", false)
  | 16 => ("CoalIsLentModel", "hasImage", "Z", false)
  | 17 => ("CoalIsLentModel", "imageRows", "[I", true)
  | 18 => ("CoalIsLentModel", "imageHeld", "[I", true)
  | 19 => ("CoalIsLentModel", "sheetSort", "[I", true)
  | 20 => ("CoalIsLentModel", "sheetSize", "[I", true)
  | 21 => ("CoalIsLentModel", "cells", "[I", true)
  | 22 => ("CoalIsLentModel", "law", "[I", true)
  | 23 => ("CoalIsLentModel", "at", "I", false)
  | 24 => ("CoalIsLentModel", "begun", "I", false)
  | 25 => ("CoalIsLentModel", "token", "I", false)
  | 26 => ("CoalIsLentModel", "value", "I", false)
  | 27 => ("CoalIsLentModel", "words", "[I", true)
  | 28 => ("CoalIsLentModel", "held", "[I", true)
  | 29 => ("CoalIsLentModel", "heldMany", "I", false)
  | 30 => ("CoalIsLentModel", "opens", "I", false)
  | 31 => ("CoalIsLentModel", "out", "I", false)
  | 32 => ("CoalIsLentModel", "stack", "[I", true)
  | 33 => ("CoalIsLentModel", "named", "[I", true)
  | 34 => ("CoalIsLentModel", "kept", "[I", true)
  | 35 => ("CoalIsLentModel", "nets", "[I", true)
  | _ => ("CoalIsLentModel", "heatThen", "I", false)
def tyX7 : Nat → FieldType := fun k => match k with
  | 0 => .int
  | 1 => .array .int
  | 2 => .array .int
  | 3 => .array .int
  | 4 => .array .int
  | 5 => .array .int
  | 6 => .array .int
  | 7 => .array .int
  | 8 => .int
  | 9 => .int
  | 10 => .array .int
  | 11 => .int
  | 12 => .array .int
  | 13 => .array .int
  | 14 => .int
  | 15 => .int
  | 16 => .boolean
  | 17 => .array .int
  | 18 => .array .int
  | 19 => .array .int
  | 20 => .array .int
  | 21 => .array .int
  | 22 => .array .int
  | 23 => .int
  | 24 => .int
  | 25 => .int
  | 26 => .int
  | 27 => .array .int
  | 28 => .array .int
  | 29 => .int
  | 30 => .int
  | 31 => .int
  | 32 => .array .int
  | 33 => .array .int
  | 34 => .array .int
  | 35 => .array .int
  | _ => .int
abbrev wsX70 : List Cond := u_ws RX7 TX7 37
theorem nmX7 : ∀ a, a < 37 → ∀ b, b < 37 → a ≠ b → (TX7 a).2.1 ≠ (TX7 b).2.1 := by decide +kernel
theorem tyX7_ok : ∀ k, k < 37 → parseFieldDescriptor (TX7 k).2.2.1 = some (tyX7 k) := by decide +kernel
abbrev cX7_init : ByteArray := prog_9_method_1_code
def yX7_init : MethodName := ⟨RX7, "<init>", "()V"⟩
abbrev cX7_in : ByteArray := prog_9_method_3_code
def yX7_in : MethodName := ⟨RX7, "in", "(III)Z"⟩
abbrev cX7_within : ByteArray := prog_9_method_4_code
def yX7_within : MethodName := ⟨RX7, "within", "(III)I"⟩
abbrev cX7_isHut : ByteArray := prog_9_method_5_code
def yX7_isHut : MethodName := ⟨RX7, "isHut", "(I)Z"⟩
abbrev cX7_isLoan : ByteArray := prog_9_method_6_code
def yX7_isLoan : MethodName := ⟨RX7, "isLoan", "(I)Z"⟩
abbrev cX7_owedBy : ByteArray := prog_9_method_7_code
def yX7_owedBy : MethodName := ⟨RX7, "owedBy", "(I)I"⟩
abbrev cX7_owedTo : ByteArray := prog_9_method_8_code
def yX7_owedTo : MethodName := ⟨RX7, "owedTo", "(I)I"⟩
abbrev cX7_lentBy : ByteArray := prog_9_method_9_code
def yX7_lentBy : MethodName := ⟨RX7, "lentBy", "(I)I"⟩
abbrev cX7_heatAll : ByteArray := prog_9_method_10_code
def yX7_heatAll : MethodName := ⟨RX7, "heatAll", "()I"⟩
abbrev cX7_count : ByteArray := prog_9_method_11_code
def yX7_count : MethodName := ⟨RX7, "count", "(I)I"⟩
abbrev cX7_isByte : ByteArray := prog_9_method_12_code
def yX7_isByte : MethodName := ⟨RX7, "isByte", "(I)Z"⟩
abbrev cX7_feed : ByteArray := prog_9_method_13_code
def yX7_feed : MethodName := ⟨RX7, "feed", "(IIIIII)I"⟩
abbrev cX7_wordFrom : ByteArray := prog_9_method_14_code
def yX7_wordFrom : MethodName := ⟨RX7, "wordFrom", "(II)I"⟩
abbrev cX7_next : ByteArray := prog_9_method_15_code
def yX7_next : MethodName := ⟨RX7, "next", "()V"⟩
abbrev cX7_rank : ByteArray := prog_9_method_16_code
def yX7_rank : MethodName := ⟨RX7, "rank", "(I)I"⟩
abbrev cX7_puts : ByteArray := prog_9_method_17_code
def yX7_puts : MethodName := ⟨RX7, "puts", "(I)V"⟩
abbrev cX7_unwinds : ByteArray := prog_9_method_18_code
def yX7_unwinds : MethodName := ⟨RX7, "unwinds", "(I)V"⟩
abbrev cX7_holds : ByteArray := prog_9_method_19_code
def yX7_holds : MethodName := ⟨RX7, "holds", "(I)V"⟩
abbrev cX7_opensOne : ByteArray := prog_9_method_20_code
def yX7_opensOne : MethodName := ⟨RX7, "opensOne", "(I)Z"⟩
abbrev cX7_between : ByteArray := prog_9_method_21_code
def yX7_between : MethodName := ⟨RX7, "between", "(I)Z"⟩
abbrev cX7_signOf : ByteArray := prog_9_method_22_code
def yX7_signOf : MethodName := ⟨RX7, "signOf", "()I"⟩
abbrev cX7_eRead : ByteArray := prog_9_method_23_code
def yX7_eRead : MethodName := ⟨RX7, "eRead", "()Z"⟩
abbrev cX7_text : ByteArray := prog_9_method_24_code
def yX7_text : MethodName := ⟨RX7, "text", "()I"⟩
abbrev cX7_two : ByteArray := prog_9_method_25_code
def yX7_two : MethodName := ⟨RX7, "two", "(III)I"⟩
abbrev cX7_says : ByteArray := prog_9_method_26_code
def yX7_says : MethodName := ⟨RX7, "says", "(I)I"⟩
abbrev cX7_force : ByteArray := prog_9_method_27_code
def yX7_force : MethodName := ⟨RX7, "force", "(I)I"⟩
abbrev cX7_asksOf : ByteArray := prog_9_method_28_code
def yX7_asksOf : MethodName := ⟨RX7, "asksOf", "(III)I"⟩
abbrev cX7_asks : ByteArray := prog_9_method_29_code
def yX7_asks : MethodName := ⟨RX7, "asks", "(III)I"⟩
abbrev cX7_hut : ByteArray := prog_9_method_30_code
def yX7_hut : MethodName := ⟨RX7, "hut", "(II)I"⟩
abbrev cX7_put : ByteArray := prog_9_method_31_code
def yX7_put : MethodName := ⟨RX7, "put", "(III)I"⟩
abbrev cX7_told : ByteArray := prog_9_method_32_code
def yX7_told : MethodName := ⟨RX7, "told", "(II)I"⟩
abbrev cX7_areCoalNights : ByteArray := prog_9_method_33_code
def yX7_areCoalNights : MethodName := ⟨RX7, "areCoalNights", "(I)Z"⟩
abbrev cX7_mayLend : ByteArray := prog_9_method_34_code
def yX7_mayLend : MethodName := ⟨RX7, "mayLend", "(II)Z"⟩
abbrev cX7_moves : ByteArray := prog_9_method_35_code
def yX7_moves : MethodName := ⟨RX7, "moves", "(III)V"⟩
abbrev cX7_lends : ByteArray := prog_9_method_36_code
def yX7_lends : MethodName := ⟨RX7, "lends", "(III)V"⟩
abbrev cX7_lend : ByteArray := prog_9_method_37_code
def yX7_lend : MethodName := ⟨RX7, "lend", "(II)I"⟩
abbrev cX7_loan : ByteArray := prog_9_method_38_code
def yX7_loan : MethodName := ⟨RX7, "loan", "(II)I"⟩
abbrev cX7_drops : ByteArray := prog_9_method_39_code
def yX7_drops : MethodName := ⟨RX7, "drops", "(I)V"⟩
abbrev cX7_repay : ByteArray := prog_9_method_40_code
def yX7_repay : MethodName := ⟨RX7, "repay", "(I)I"⟩
abbrev cX7_forgive : ByteArray := prog_9_method_41_code
def yX7_forgive : MethodName := ⟨RX7, "forgive", "(I)I"⟩
abbrev cX7_growsOf : ByteArray := prog_9_method_42_code
def yX7_growsOf : MethodName := ⟨RX7, "growsOf", "(II)I"⟩
abbrev cX7_coolsOf : ByteArray := prog_9_method_43_code
def yX7_coolsOf : MethodName := ⟨RX7, "coolsOf", "(I)I"⟩
abbrev cX7_burnsOf : ByteArray := prog_9_method_44_code
def yX7_burnsOf : MethodName := ⟨RX7, "burnsOf", "(I)I"⟩
abbrev cX7_hearth : ByteArray := prog_9_method_45_code
def yX7_hearth : MethodName := ⟨RX7, "hearth", "(I)V"⟩
abbrev cX7_nightOf : ByteArray := prog_9_method_46_code
def yX7_nightOf : MethodName := ⟨RX7, "nightOf", "()I"⟩
abbrev cX7_night : ByteArray := prog_9_method_47_code
def yX7_night : MethodName := ⟨RX7, "night", "()I"⟩
abbrev cX7_keeps : ByteArray := prog_9_method_48_code
def yX7_keeps : MethodName := ⟨RX7, "keeps", "()V"⟩
abbrev cX7_lays : ByteArray := prog_9_method_49_code
def yX7_lays : MethodName := ⟨RX7, "lays", "()V"⟩
abbrev cX7_goes : ByteArray := prog_9_method_50_code
def yX7_goes : MethodName := ⟨RX7, "goes", "(I)I"⟩
abbrev cX7_ones : ByteArray := prog_9_method_51_code
def yX7_ones : MethodName := ⟨RX7, "ones", "(I)I"⟩
abbrev cX7_run : ByteArray := prog_9_method_52_code
def yX7_run : MethodName := ⟨RX7, "run", "(II)I"⟩
abbrev cX7_lasts : ByteArray := prog_9_method_53_code
def yX7_lasts : MethodName := ⟨RX7, "lasts", "(II)I"⟩
abbrev cX7_net : ByteArray := prog_9_method_54_code
def yX7_net : MethodName := ⟨RX7, "net", "(I)I"⟩
abbrev cX7_settle : ByteArray := prog_9_method_55_code
def yX7_settle : MethodName := ⟨RX7, "settle", "(I)I"⟩
abbrev cX7_sourceOf : ByteArray := prog_9_method_56_code
def yX7_sourceOf : MethodName := ⟨RX7, "sourceOf", "(I)I"⟩
abbrev cX7_source : ByteArray := prog_9_method_57_code
def yX7_source : MethodName := ⟨RX7, "source", "(I)I"⟩
abbrev cX7_rings : ByteArray := prog_9_method_58_code
def yX7_rings : MethodName := ⟨RX7, "rings", "(I)I"⟩
abbrev cX7_ask : ByteArray := prog_9_method_59_code
def yX7_ask : MethodName := ⟨RX7, "ask", "(III)I"⟩
abbrev cX7_needs : ByteArray := prog_9_method_60_code
def yX7_needs : MethodName := ⟨RX7, "needs", "(II)I"⟩
abbrev cX7_failsBut : ByteArray := prog_9_method_61_code
def yX7_failsBut : MethodName := ⟨RX7, "failsBut", "(II)I"⟩
abbrev cX7_mercy : ByteArray := prog_9_method_62_code
def yX7_mercy : MethodName := ⟨RX7, "mercy", "(II)I"⟩
abbrev cX7_worst : ByteArray := prog_9_method_63_code
def yX7_worst : MethodName := ⟨RX7, "worst", "(II)I"⟩
abbrev cX7_sheetWrong : ByteArray := prog_9_method_64_code
def yX7_sheetWrong : MethodName := ⟨RX7, "sheetWrong", "(I)I"⟩
abbrev cX7_toldWrong : ByteArray := prog_9_method_65_code
def yX7_toldWrong : MethodName := ⟨RX7, "toldWrong", "(II)I"⟩
abbrev cX7_unlike : ByteArray := prog_9_method_66_code
def yX7_unlike : MethodName := ⟨RX7, "unlike", "(II)I"⟩
abbrev cX7_judge : ByteArray := prog_9_method_67_code
def yX7_judge : MethodName := ⟨RX7, "judge", "(II)I"⟩
abbrev cX7_kinds : ByteArray := prog_9_method_68_code
def yX7_kinds : MethodName := ⟨RX7, "kinds", "(III)I"⟩
abbrev cX7_states : ByteArray := prog_9_method_69_code
def yX7_states : MethodName := ⟨RX7, "states", "(IIII)I"⟩
abbrev cX7_whose : ByteArray := prog_9_method_70_code
def yX7_whose : MethodName := ⟨RX7, "whose", "(I)I"⟩
abbrev cX7_laws : ByteArray := prog_9_method_71_code
def yX7_laws : MethodName := ⟨RX7, "laws", "(II)I"⟩
abbrev cX7_film : ByteArray := prog_9_method_72_code
def yX7_film : MethodName := ⟨RX7, "film", "(III)I"⟩
abbrev cX7_snows : ByteArray := prog_9_method_73_code
def yX7_snows : MethodName := ⟨RX7, "snows", "(II)I"⟩
abbrev cX7_drawn : ByteArray := prog_9_method_74_code
def yX7_drawn : MethodName := ⟨RX7, "drawn", "(III)I"⟩
abbrev cX7_lowest : ByteArray := prog_9_method_75_code
def yX7_lowest : MethodName := ⟨RX7, "lowest", "(JJI)J"⟩
abbrev cX7_odds : ByteArray := prog_9_method_76_code
def yX7_odds : MethodName := ⟨RX7, "odds", "(IIIII)J"⟩
abbrev cX7_image : ByteArray := prog_9_method_77_code
def yX7_image : MethodName := ⟨RX7, "image", "()I"⟩
abbrev cX7_back : ByteArray := prog_9_method_78_code
def yX7_back : MethodName := ⟨RX7, "back", "()I"⟩
abbrev cX7_sheet : ByteArray := prog_9_method_79_code
def yX7_sheet : MethodName := ⟨RX7, "sheet", "(III)I"⟩
abbrev cX7_cell : ByteArray := prog_9_method_80_code
def yX7_cell : MethodName := ⟨RX7, "cell", "(III)I"⟩
abbrev cX7_copy : ByteArray := prog_9_method_81_code
def yX7_copy : MethodName := ⟨RX7, "copy", "(IIIII)I"⟩
abbrev cX7_hutsBy : ByteArray := prog_9_method_82_code
def yX7_hutsBy : MethodName := ⟨RX7, "hutsBy", "(IIII)I"⟩
abbrev cX7_isUnder : ByteArray := prog_9_method_83_code
def yX7_isUnder : MethodName := ⟨RX7, "isUnder", "(II)Z"⟩
abbrev cX7_taken : ByteArray := prog_9_method_84_code
def yX7_taken : MethodName := ⟨RX7, "taken", "(II)I"⟩
def RJ6 : String := "java/lang/Integer"
def TJ6 : u_T := fun k => match k with
  | _ => ("", "", "", false)
def tyJ6 : Nat → FieldType := fun k => match k with
  | _ => .int
abbrev wsJ60 : List Cond := u_ws RJ6 TJ6 0
theorem nmJ6 : ∀ a, a < 0 → ∀ b, b < 0 → a ≠ b → (TJ6 a).2.1 ≠ (TJ6 b).2.1 := by decide +kernel
theorem tyJ6_ok : ∀ k, k < 0 → parseFieldDescriptor (TJ6 k).2.2.1 = some (tyJ6 k) := by decide +kernel
abbrev cJ6_bitCount_0f7a4 : ByteArray := prog_10_method_49_code
def yJ6_bitCount_0f7a4 : MethodName := ⟨RJ6, "bitCount", "(I)I"⟩
def RJ9 : String := "java/lang/Math"
def TJ9 : u_T := fun k => match k with
  | _ => ("", "", "", false)
def tyJ9 : Nat → FieldType := fun k => match k with
  | _ => .int
abbrev wsJ90 : List Cond := u_ws RJ9 TJ9 0
theorem nmJ9 : ∀ a, a < 0 → ∀ b, b < 0 → a ≠ b → (TJ9 a).2.1 ≠ (TJ9 b).2.1 := by decide +kernel
theorem tyJ9_ok : ∀ k, k < 0 → parseFieldDescriptor (TJ9 k).2.2.1 = some (tyJ9 k) := by decide +kernel
abbrev cJ9_max_7cf53 : ByteArray := prog_11_method_65_code
def yJ9_max_7cf53 : MethodName := ⟨RJ9, "max", "(II)I"⟩
abbrev cJ9_min_7cf53 : ByteArray := prog_11_method_69_code
def yJ9_min_7cf53 : MethodName := ⟨RJ9, "min", "(II)I"⟩
def RJ0 : String := "java/lang/String"
def TJ0 : u_T := fun k => match k with
  | _ => ("", "", "", false)
def tyJ0 : Nat → FieldType := fun k => match k with
  | _ => .int
abbrev wsJ00 : List Cond := u_ws RJ0 TJ0 0
theorem nmJ0 : ∀ a, a < 0 → ∀ b, b < 0 → a ≠ b → (TJ0 a).2.1 ≠ (TJ0 b).2.1 := by decide +kernel
theorem tyJ0_ok : ∀ k, k < 0 → parseFieldDescriptor (TJ0 k).2.2.1 = some (tyJ0 k) := by decide +kernel
abbrev cJ0_length_8abf5 : ByteArray := prog_12_method_54_code
def yJ0_length_8abf5 : MethodName := ⟨RJ0, "length", "()I"⟩
abbrev cJ0_charAt_5068e : ByteArray := prog_12_method_56_code
def yJ0_charAt_5068e : MethodName := ⟨RJ0, "charAt", "(I)C"⟩
abbrev cJ0_coder_7d493 : ByteArray := prog_12_method_152_code
def yJ0_coder_7d493 : MethodName := ⟨RJ0, "coder", "()B"⟩
abbrev cJ0_isLatin1_aae02 : ByteArray := prog_12_method_154_code
def yJ0_isLatin1_aae02 : MethodName := ⟨RJ0, "isLatin1", "()Z"⟩
abbrev cJ0_checkIndex_df160 : ByteArray := prog_12_method_155_code
def yJ0_checkIndex_df160 : MethodName := ⟨RJ0, "checkIndex", "(II)V"⟩
def RJ1 : String := "java/lang/StringLatin1"
def TJ1 : u_T := fun k => match k with
  | _ => ("", "", "", false)
def tyJ1 : Nat → FieldType := fun k => match k with
  | _ => .int
abbrev wsJ10 : List Cond := u_ws RJ1 TJ1 0
theorem nmJ1 : ∀ a, a < 0 → ∀ b, b < 0 → a ≠ b → (TJ1 a).2.1 ≠ (TJ1 b).2.1 := by decide +kernel
theorem tyJ1_ok : ∀ k, k < 0 → parseFieldDescriptor (TJ1 k).2.2.1 = some (tyJ1 k) := by decide +kernel
abbrev cJ1_charAt_3b067 : ByteArray := prog_13_method_2_code
def yJ1_charAt_3b067 : MethodName := ⟨RJ1, "charAt", "([BI)C"⟩
def RJ2 : String := "java/lang/StringUTF16"
def TJ2 : u_T := fun k => match k with
  | _ => ("", "", "", false)
def tyJ2 : Nat → FieldType := fun k => match k with
  | _ => .int
abbrev wsJ20 : List Cond := u_ws RJ2 TJ2 0
theorem nmJ2 : ∀ a, a < 0 → ∀ b, b < 0 → a ≠ b → (TJ2 a).2.1 ≠ (TJ2 b).2.1 := by decide +kernel
theorem tyJ2_ok : ∀ k, k < 0 → parseFieldDescriptor (TJ2 k).2.2.1 = some (tyJ2 k) := by decide +kernel
abbrev cJ2_getChar_3b067 : ByteArray := prog_14_method_5_code
def yJ2_getChar_3b067 : MethodName := ⟨RJ2, "getChar", "([BI)C"⟩
abbrev cJ2_length_9d52b : ByteArray := prog_14_method_6_code
def yJ2_length_9d52b : MethodName := ⟨RJ2, "length", "([B)I"⟩
abbrev cJ2_charAt_3b067 : ByteArray := prog_14_method_83_code
def yJ2_charAt_3b067 : MethodName := ⟨RJ2, "charAt", "([BI)C"⟩
abbrev cJ2_checkIndex_2214a : ByteArray := prog_14_method_91_code
def yJ2_checkIndex_2214a : MethodName := ⟨RJ2, "checkIndex", "(I[B)V"⟩
def RJ10 : String := "java/lang/System"
def TJ10 : u_T := fun k => match k with
  | _ => ("", "", "", false)
def tyJ10 : Nat → FieldType := fun k => match k with
  | _ => .int
abbrev wsJ100 : List Cond := u_ws RJ10 TJ10 0
theorem nmJ10 : ∀ a, a < 0 → ∀ b, b < 0 → a ≠ b → (TJ10 a).2.1 ≠ (TJ10 b).2.1 := by decide +kernel
theorem tyJ10_ok : ∀ k, k < 0 → parseFieldDescriptor (TJ10 k).2.2.1 = some (tyJ10 k) := by decide +kernel
def RJ3 : String := "jdk/internal/util/Preconditions"
def TJ3 : u_T := fun k => match k with
  | _ => ("", "", "", false)
def tyJ3 : Nat → FieldType := fun k => match k with
  | _ => .int
abbrev wsJ30 : List Cond := u_ws RJ3 TJ3 0
theorem nmJ3 : ∀ a, a < 0 → ∀ b, b < 0 → a ≠ b → (TJ3 a).2.1 ≠ (TJ3 b).2.1 := by decide +kernel
theorem tyJ3_ok : ∀ k, k < 0 → parseFieldDescriptor (TJ3 k).2.2.1 = some (tyJ3 k) := by decide +kernel
abbrev cJ3_checkIndex_8e157 : ByteArray := prog_16_method_11_code
def yJ3_checkIndex_8e157 : MethodName := ⟨RJ3, "checkIndex", "(IILjava/util/function/BiFunction;)I"⟩
def RL : String := "CoalIsLentLaw"
abbrev cL_law : ByteArray := code
def yL_law : MethodName := ⟨RL, "law", "([I)Z"⟩
abbrev vwCl : List vw_C := [(RX2, TX2, 10), (RX3, TX3, 3), (RX4, TX4, 4), (RX5, TX5, 15), (RX6, TX6, 8), (RX7, TX7, 37)]
