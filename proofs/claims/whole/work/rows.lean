section
-- ===== PART A: goes FIRST, ahead of the names: the tables' words, and 'selects' of the private methods out of them =====
/-- a private method of a class that the tables say can be made, by its rows of tables_1 -/
def lw_okq (q : MethodName × Nat) : Prop := (q.1.cls ≠ "java/lang/invoke/MethodHandle" ∧ q.1.cls ≠ "java/lang/invoke/VarHandle") ∧ Cond.instantiable q.1.cls q.2 ∈ tables_1 ∧ Cond.privateMethod q.1 ∈ tables_1 ∧ Cond.instanceMethod q.1 ∈ tables_1
theorem lw_p0 : lw_okq (⟨"CoalIsLent$Reader", "readToken", "()V"⟩, 10) := ⟨⟨by decide +kernel, by decide +kernel⟩, List.mem_of_getElem? (i := 46) (by decide +kernel), List.mem_of_getElem? (i := 143) (by decide +kernel), List.mem_of_getElem? (i := 144) (by decide +kernel)⟩
theorem lw_p1 : lw_okq (⟨"CoalIsLent$Reader", "byteAt", "(I)I"⟩, 10) := ⟨⟨by decide +kernel, by decide +kernel⟩, List.mem_of_getElem? (i := 46) (by decide +kernel), List.mem_of_getElem? (i := 147) (by decide +kernel), List.mem_of_getElem? (i := 148) (by decide +kernel)⟩
theorem lw_p2 : lw_okq (⟨"CoalIsLent$Reader", "endOfWord", "()I"⟩, 10) := ⟨⟨by decide +kernel, by decide +kernel⟩, List.mem_of_getElem? (i := 46) (by decide +kernel), List.mem_of_getElem? (i := 160) (by decide +kernel), List.mem_of_getElem? (i := 161) (by decide +kernel)⟩
theorem lw_p3 : lw_okq (⟨"CoalIsLent$Reader", "nameRead", "()I"⟩, 10) := ⟨⟨by decide +kernel, by decide +kernel⟩, List.mem_of_getElem? (i := 46) (by decide +kernel), List.mem_of_getElem? (i := 164) (by decide +kernel), List.mem_of_getElem? (i := 165) (by decide +kernel)⟩
theorem lw_p4 : lw_okq (⟨"CoalIsLent$Reader", "isRead", "(Ljava/lang/String;)Z"⟩, 10) := ⟨⟨by decide +kernel, by decide +kernel⟩, List.mem_of_getElem? (i := 46) (by decide +kernel), List.mem_of_getElem? (i := 169) (by decide +kernel), List.mem_of_getElem? (i := 170) (by decide +kernel)⟩
theorem lw_p5 : lw_okq (⟨"CoalIsLent$Reader", "keyRead", "()I"⟩, 10) := ⟨⟨by decide +kernel, by decide +kernel⟩, List.mem_of_getElem? (i := 46) (by decide +kernel), List.mem_of_getElem? (i := 180) (by decide +kernel), List.mem_of_getElem? (i := 181) (by decide +kernel)⟩
theorem lw_p6 : lw_okq (⟨"CoalIsLent$Reader", "readNumber", "()V"⟩, 10) := ⟨⟨by decide +kernel, by decide +kernel⟩, List.mem_of_getElem? (i := 46) (by decide +kernel), List.mem_of_getElem? (i := 193) (by decide +kernel), List.mem_of_getElem? (i := 194) (by decide +kernel)⟩
theorem lw_p7 : lw_okq (⟨"CoalIsLent$Reader", "expect", "(I)V"⟩, 10) := ⟨⟨by decide +kernel, by decide +kernel⟩, List.mem_of_getElem? (i := 46) (by decide +kernel), List.mem_of_getElem? (i := 200) (by decide +kernel), List.mem_of_getElem? (i := 201) (by decide +kernel)⟩
theorem lw_p8 : lw_okq (⟨"CoalIsLent$Reader", "fail", "()V"⟩, 10) := ⟨⟨by decide +kernel, by decide +kernel⟩, List.mem_of_getElem? (i := 46) (by decide +kernel), List.mem_of_getElem? (i := 204) (by decide +kernel), List.mem_of_getElem? (i := 205) (by decide +kernel)⟩
theorem lw_p9 : lw_okq (⟨"CoalIsLent$Reader", "readOr", "(I)V"⟩, 10) := ⟨⟨by decide +kernel, by decide +kernel⟩, List.mem_of_getElem? (i := 46) (by decide +kernel), List.mem_of_getElem? (i := 208) (by decide +kernel), List.mem_of_getElem? (i := 209) (by decide +kernel)⟩
theorem lw_p10 : lw_okq (⟨"CoalIsLent$Reader", "readAnd", "(I)V"⟩, 10) := ⟨⟨by decide +kernel, by decide +kernel⟩, List.mem_of_getElem? (i := 46) (by decide +kernel), List.mem_of_getElem? (i := 212) (by decide +kernel), List.mem_of_getElem? (i := 213) (by decide +kernel)⟩
theorem lw_p11 : lw_okq (⟨"CoalIsLent$Reader", "readNot", "(I)V"⟩, 10) := ⟨⟨by decide +kernel, by decide +kernel⟩, List.mem_of_getElem? (i := 46) (by decide +kernel), List.mem_of_getElem? (i := 216) (by decide +kernel), List.mem_of_getElem? (i := 217) (by decide +kernel)⟩
theorem lw_p12 : lw_okq (⟨"CoalIsLent$Reader", "opens", "(I)Z"⟩, 10) := ⟨⟨by decide +kernel, by decide +kernel⟩, List.mem_of_getElem? (i := 46) (by decide +kernel), List.mem_of_getElem? (i := 220) (by decide +kernel), List.mem_of_getElem? (i := 221) (by decide +kernel)⟩
theorem lw_p13 : lw_okq (⟨"CoalIsLent$Reader", "emit", "(I)V"⟩, 10) := ⟨⟨by decide +kernel, by decide +kernel⟩, List.mem_of_getElem? (i := 46) (by decide +kernel), List.mem_of_getElem? (i := 224) (by decide +kernel), List.mem_of_getElem? (i := 225) (by decide +kernel)⟩
theorem lw_p14 : lw_okq (⟨"CoalIsLent$Reader", "readSum", "(I)V"⟩, 10) := ⟨⟨by decide +kernel, by decide +kernel⟩, List.mem_of_getElem? (i := 46) (by decide +kernel), List.mem_of_getElem? (i := 228) (by decide +kernel), List.mem_of_getElem? (i := 229) (by decide +kernel)⟩
theorem lw_p15 : lw_okq (⟨"CoalIsLent$Reader", "readTerm", "(I)V"⟩, 10) := ⟨⟨by decide +kernel, by decide +kernel⟩, List.mem_of_getElem? (i := 46) (by decide +kernel), List.mem_of_getElem? (i := 232) (by decide +kernel), List.mem_of_getElem? (i := 233) (by decide +kernel)⟩
def lw_privs_1 : List (MethodName × Nat) := [(⟨"CoalIsLent$Reader", "readToken", "()V"⟩, 10), (⟨"CoalIsLent$Reader", "byteAt", "(I)I"⟩, 10), (⟨"CoalIsLent$Reader", "endOfWord", "()I"⟩, 10), (⟨"CoalIsLent$Reader", "nameRead", "()I"⟩, 10), (⟨"CoalIsLent$Reader", "isRead", "(Ljava/lang/String;)Z"⟩, 10), (⟨"CoalIsLent$Reader", "keyRead", "()I"⟩, 10), (⟨"CoalIsLent$Reader", "readNumber", "()V"⟩, 10), (⟨"CoalIsLent$Reader", "expect", "(I)V"⟩, 10), (⟨"CoalIsLent$Reader", "fail", "()V"⟩, 10), (⟨"CoalIsLent$Reader", "readOr", "(I)V"⟩, 10), (⟨"CoalIsLent$Reader", "readAnd", "(I)V"⟩, 10), (⟨"CoalIsLent$Reader", "readNot", "(I)V"⟩, 10), (⟨"CoalIsLent$Reader", "opens", "(I)Z"⟩, 10), (⟨"CoalIsLent$Reader", "emit", "(I)V"⟩, 10), (⟨"CoalIsLent$Reader", "readSum", "(I)V"⟩, 10), (⟨"CoalIsLent$Reader", "readTerm", "(I)V"⟩, 10)]
theorem lw_r1 : ∀ q ∈ lw_privs_1, lw_okq q := List.forall_mem_cons.mpr ⟨lw_p0, List.forall_mem_cons.mpr ⟨lw_p1, List.forall_mem_cons.mpr ⟨lw_p2, List.forall_mem_cons.mpr ⟨lw_p3, List.forall_mem_cons.mpr ⟨lw_p4, List.forall_mem_cons.mpr ⟨lw_p5, List.forall_mem_cons.mpr ⟨lw_p6, List.forall_mem_cons.mpr ⟨lw_p7, List.forall_mem_cons.mpr ⟨lw_p8, List.forall_mem_cons.mpr ⟨lw_p9, List.forall_mem_cons.mpr ⟨lw_p10, List.forall_mem_cons.mpr ⟨lw_p11, List.forall_mem_cons.mpr ⟨lw_p12, List.forall_mem_cons.mpr ⟨lw_p13, List.forall_mem_cons.mpr ⟨lw_p14, List.forall_mem_cons.mpr ⟨lw_p15, fun _ h => absurd h List.not_mem_nil⟩⟩⟩⟩⟩⟩⟩⟩⟩⟩⟩⟩⟩⟩⟩⟩
theorem lw_p16 : lw_okq (⟨"CoalIsLent$Reader", "readOne", "(I)V"⟩, 10) := ⟨⟨by decide +kernel, by decide +kernel⟩, List.mem_of_getElem? (i := 46) (by decide +kernel), List.mem_of_getElem? (i := 236) (by decide +kernel), List.mem_of_getElem? (i := 237) (by decide +kernel)⟩
theorem lw_p17 : lw_okq (⟨"CoalIsLent$World", "coalsWhere", "([II)I"⟩, 15) := ⟨⟨by decide +kernel, by decide +kernel⟩, List.mem_of_getElem? (i := 254) (by decide +kernel), List.mem_of_getElem? (i := 400) (by decide +kernel), List.mem_of_getElem? (i := 401) (by decide +kernel)⟩
theorem lw_p18 : lw_okq (⟨"CoalIsLent$World", "pass", "(III)V"⟩, 15) := ⟨⟨by decide +kernel, by decide +kernel⟩, List.mem_of_getElem? (i := 254) (by decide +kernel), List.mem_of_getElem? (i := 479) (by decide +kernel), List.mem_of_getElem? (i := 480) (by decide +kernel)⟩
theorem lw_p19 : lw_okq (⟨"CoalIsLent$World", "grow", "(I)V"⟩, 15) := ⟨⟨by decide +kernel, by decide +kernel⟩, List.mem_of_getElem? (i := 254) (by decide +kernel), List.mem_of_getElem? (i := 519) (by decide +kernel), List.mem_of_getElem? (i := 520) (by decide +kernel)⟩
theorem lw_p20 : lw_okq (⟨"CoalIsLent$World", "endDueLoans", "()I"⟩, 15) := ⟨⟨by decide +kernel, by decide +kernel⟩, List.mem_of_getElem? (i := 254) (by decide +kernel), List.mem_of_getElem? (i := 527) (by decide +kernel), List.mem_of_getElem? (i := 528) (by decide +kernel)⟩
theorem lw_p21 : lw_okq (⟨"CoalIsLent$World", "warm", "(I)V"⟩, 15) := ⟨⟨by decide +kernel, by decide +kernel⟩, List.mem_of_getElem? (i := 254) (by decide +kernel), List.mem_of_getElem? (i := 534) (by decide +kernel), List.mem_of_getElem? (i := 535) (by decide +kernel)⟩
theorem lw_p22 : lw_okq (⟨"CoalIsLent", "think", "()LCoalIsLent$World;"⟩, 8) := ⟨⟨by decide +kernel, by decide +kernel⟩, List.mem_of_getElem? (i := 17) (by decide +kernel), List.mem_of_getElem? (i := 548) (by decide +kernel), List.mem_of_getElem? (i := 549) (by decide +kernel)⟩
theorem lw_p23 : lw_okq (⟨"CoalIsLent", "nightsToFailing", "(I)I"⟩, 8) := ⟨⟨by decide +kernel, by decide +kernel⟩, List.mem_of_getElem? (i := 17) (by decide +kernel), List.mem_of_getElem? (i := 566) (by decide +kernel), List.mem_of_getElem? (i := 567) (by decide +kernel)⟩
theorem lw_p24 : lw_okq (⟨"CoalIsLent", "nightsToNoHeat", "(I)I"⟩, 8) := ⟨⟨by decide +kernel, by decide +kernel⟩, List.mem_of_getElem? (i := 17) (by decide +kernel), List.mem_of_getElem? (i := 573) (by decide +kernel), List.mem_of_getElem? (i := 574) (by decide +kernel)⟩
theorem lw_p25 : lw_okq (⟨"CoalIsLent", "payOnce", "()I"⟩, 8) := ⟨⟨by decide +kernel, by decide +kernel⟩, List.mem_of_getElem? (i := 17) (by decide +kernel), List.mem_of_getElem? (i := 587) (by decide +kernel), List.mem_of_getElem? (i := 588) (by decide +kernel)⟩
theorem lw_p26 : lw_okq (⟨"CoalIsLent", "heatIfLent", "(III)I"⟩, 8) := ⟨⟨by decide +kernel, by decide +kernel⟩, List.mem_of_getElem? (i := 17) (by decide +kernel), List.mem_of_getElem? (i := 609) (by decide +kernel), List.mem_of_getElem? (i := 610) (by decide +kernel)⟩
theorem lw_p27 : lw_okq (⟨"CoalIsLent", "heatOfOthersWithout", "(II)I"⟩, 8) := ⟨⟨by decide +kernel, by decide +kernel⟩, List.mem_of_getElem? (i := 17) (by decide +kernel), List.mem_of_getElem? (i := 635) (by decide +kernel), List.mem_of_getElem? (i := 636) (by decide +kernel)⟩
theorem lw_p28 : lw_okq (⟨"CoalIsLent", "judgeRefusal", "(II)I"⟩, 8) := ⟨⟨by decide +kernel, by decide +kernel⟩, List.mem_of_getElem? (i := 17) (by decide +kernel), List.mem_of_getElem? (i := 643) (by decide +kernel), List.mem_of_getElem? (i := 644) (by decide +kernel)⟩
theorem lw_p29 : lw_okq (⟨"CoalIsLent", "toldRefusal", "(I)I"⟩, 8) := ⟨⟨by decide +kernel, by decide +kernel⟩, List.mem_of_getElem? (i := 17) (by decide +kernel), List.mem_of_getElem? (i := 647) (by decide +kernel), List.mem_of_getElem? (i := 648) (by decide +kernel)⟩
theorem lw_p30 : lw_okq (⟨"CoalIsLent", "firstOtherwise", "(ILCoalIsLent$World;I)I"⟩, 8) := ⟨⟨by decide +kernel, by decide +kernel⟩, List.mem_of_getElem? (i := 17) (by decide +kernel), List.mem_of_getElem? (i := 663) (by decide +kernel), List.mem_of_getElem? (i := 664) (by decide +kernel)⟩
theorem lw_p31 : lw_okq (⟨"CoalIsLent", "isTold", "(ILCoalIsLent$World;I)Z"⟩, 8) := ⟨⟨by decide +kernel, by decide +kernel⟩, List.mem_of_getElem? (i := 17) (by decide +kernel), List.mem_of_getElem? (i := 675) (by decide +kernel), List.mem_of_getElem? (i := 676) (by decide +kernel)⟩
def lw_privs_2 : List (MethodName × Nat) := [(⟨"CoalIsLent$Reader", "readOne", "(I)V"⟩, 10), (⟨"CoalIsLent$World", "coalsWhere", "([II)I"⟩, 15), (⟨"CoalIsLent$World", "pass", "(III)V"⟩, 15), (⟨"CoalIsLent$World", "grow", "(I)V"⟩, 15), (⟨"CoalIsLent$World", "endDueLoans", "()I"⟩, 15), (⟨"CoalIsLent$World", "warm", "(I)V"⟩, 15), (⟨"CoalIsLent", "think", "()LCoalIsLent$World;"⟩, 8), (⟨"CoalIsLent", "nightsToFailing", "(I)I"⟩, 8), (⟨"CoalIsLent", "nightsToNoHeat", "(I)I"⟩, 8), (⟨"CoalIsLent", "payOnce", "()I"⟩, 8), (⟨"CoalIsLent", "heatIfLent", "(III)I"⟩, 8), (⟨"CoalIsLent", "heatOfOthersWithout", "(II)I"⟩, 8), (⟨"CoalIsLent", "judgeRefusal", "(II)I"⟩, 8), (⟨"CoalIsLent", "toldRefusal", "(I)I"⟩, 8), (⟨"CoalIsLent", "firstOtherwise", "(ILCoalIsLent$World;I)I"⟩, 8), (⟨"CoalIsLent", "isTold", "(ILCoalIsLent$World;I)Z"⟩, 8)]
theorem lw_r2 : ∀ q ∈ lw_privs_2, lw_okq q := List.forall_mem_cons.mpr ⟨lw_p16, List.forall_mem_cons.mpr ⟨lw_p17, List.forall_mem_cons.mpr ⟨lw_p18, List.forall_mem_cons.mpr ⟨lw_p19, List.forall_mem_cons.mpr ⟨lw_p20, List.forall_mem_cons.mpr ⟨lw_p21, List.forall_mem_cons.mpr ⟨lw_p22, List.forall_mem_cons.mpr ⟨lw_p23, List.forall_mem_cons.mpr ⟨lw_p24, List.forall_mem_cons.mpr ⟨lw_p25, List.forall_mem_cons.mpr ⟨lw_p26, List.forall_mem_cons.mpr ⟨lw_p27, List.forall_mem_cons.mpr ⟨lw_p28, List.forall_mem_cons.mpr ⟨lw_p29, List.forall_mem_cons.mpr ⟨lw_p30, List.forall_mem_cons.mpr ⟨lw_p31, fun _ h => absurd h List.not_mem_nil⟩⟩⟩⟩⟩⟩⟩⟩⟩⟩⟩⟩⟩⟩⟩⟩
theorem lw_p32 : lw_okq (⟨"CoalIsLentModel", "next", "()V"⟩, 37) := ⟨⟨by decide +kernel, by decide +kernel⟩, List.mem_of_getElem? (i := 775) (by decide +kernel), List.mem_of_getElem? (i := 785) (by decide +kernel), List.mem_of_getElem? (i := 786) (by decide +kernel)⟩
theorem lw_p33 : lw_okq (⟨"CoalIsLentModel", "wordFrom", "(II)I"⟩, 37) := ⟨⟨by decide +kernel, by decide +kernel⟩, List.mem_of_getElem? (i := 775) (by decide +kernel), List.mem_of_getElem? (i := 792) (by decide +kernel), List.mem_of_getElem? (i := 793) (by decide +kernel)⟩
theorem lw_p34 : lw_okq (⟨"CoalIsLentModel", "eRead", "()Z"⟩, 37) := ⟨⟨by decide +kernel, by decide +kernel⟩, List.mem_of_getElem? (i := 775) (by decide +kernel), List.mem_of_getElem? (i := 796) (by decide +kernel), List.mem_of_getElem? (i := 797) (by decide +kernel)⟩
theorem lw_p35 : lw_okq (⟨"CoalIsLentModel", "puts", "(I)V"⟩, 37) := ⟨⟨by decide +kernel, by decide +kernel⟩, List.mem_of_getElem? (i := 775) (by decide +kernel), List.mem_of_getElem? (i := 801) (by decide +kernel), List.mem_of_getElem? (i := 802) (by decide +kernel)⟩
theorem lw_p36 : lw_okq (⟨"CoalIsLentModel", "unwinds", "(I)V"⟩, 37) := ⟨⟨by decide +kernel, by decide +kernel⟩, List.mem_of_getElem? (i := 775) (by decide +kernel), List.mem_of_getElem? (i := 805) (by decide +kernel), List.mem_of_getElem? (i := 806) (by decide +kernel)⟩
theorem lw_p37 : lw_okq (⟨"CoalIsLentModel", "opensOne", "(I)Z"⟩, 37) := ⟨⟨by decide +kernel, by decide +kernel⟩, List.mem_of_getElem? (i := 775) (by decide +kernel), List.mem_of_getElem? (i := 812) (by decide +kernel), List.mem_of_getElem? (i := 813) (by decide +kernel)⟩
theorem lw_p38 : lw_okq (⟨"CoalIsLentModel", "holds", "(I)V"⟩, 37) := ⟨⟨by decide +kernel, by decide +kernel⟩, List.mem_of_getElem? (i := 775) (by decide +kernel), List.mem_of_getElem? (i := 816) (by decide +kernel), List.mem_of_getElem? (i := 817) (by decide +kernel)⟩
theorem lw_p39 : lw_okq (⟨"CoalIsLentModel", "signOf", "()I"⟩, 37) := ⟨⟨by decide +kernel, by decide +kernel⟩, List.mem_of_getElem? (i := 775) (by decide +kernel), List.mem_of_getElem? (i := 820) (by decide +kernel), List.mem_of_getElem? (i := 821) (by decide +kernel)⟩
theorem lw_p40 : lw_okq (⟨"CoalIsLentModel", "between", "(I)Z"⟩, 37) := ⟨⟨by decide +kernel, by decide +kernel⟩, List.mem_of_getElem? (i := 775) (by decide +kernel), List.mem_of_getElem? (i := 824) (by decide +kernel), List.mem_of_getElem? (i := 825) (by decide +kernel)⟩
theorem lw_p41 : lw_okq (⟨"CoalIsLentModel", "heatAll", "()I"⟩, 37) := ⟨⟨by decide +kernel, by decide +kernel⟩, List.mem_of_getElem? (i := 775) (by decide +kernel), List.mem_of_getElem? (i := 944) (by decide +kernel), List.mem_of_getElem? (i := 945) (by decide +kernel)⟩
theorem lw_p42 : lw_okq (⟨"CoalIsLentModel", "isHut", "(I)Z"⟩, 37) := ⟨⟨by decide +kernel, by decide +kernel⟩, List.mem_of_getElem? (i := 775) (by decide +kernel), List.mem_of_getElem? (i := 964) (by decide +kernel), List.mem_of_getElem? (i := 965) (by decide +kernel)⟩
theorem lw_p43 : lw_okq (⟨"CoalIsLentModel", "asksOf", "(III)I"⟩, 37) := ⟨⟨by decide +kernel, by decide +kernel⟩, List.mem_of_getElem? (i := 775) (by decide +kernel), List.mem_of_getElem? (i := 968) (by decide +kernel), List.mem_of_getElem? (i := 969) (by decide +kernel)⟩
theorem lw_p44 : lw_okq (⟨"CoalIsLentModel", "owedBy", "(I)I"⟩, 37) := ⟨⟨by decide +kernel, by decide +kernel⟩, List.mem_of_getElem? (i := 775) (by decide +kernel), List.mem_of_getElem? (i := 972) (by decide +kernel), List.mem_of_getElem? (i := 973) (by decide +kernel)⟩
theorem lw_p45 : lw_okq (⟨"CoalIsLentModel", "says", "(I)I"⟩, 37) := ⟨⟨by decide +kernel, by decide +kernel⟩, List.mem_of_getElem? (i := 775) (by decide +kernel), List.mem_of_getElem? (i := 976) (by decide +kernel), List.mem_of_getElem? (i := 977) (by decide +kernel)⟩
theorem lw_p46 : lw_okq (⟨"CoalIsLentModel", "owedTo", "(I)I"⟩, 37) := ⟨⟨by decide +kernel, by decide +kernel⟩, List.mem_of_getElem? (i := 775) (by decide +kernel), List.mem_of_getElem? (i := 999) (by decide +kernel), List.mem_of_getElem? (i := 1000) (by decide +kernel)⟩
theorem lw_p47 : lw_okq (⟨"CoalIsLentModel", "lentBy", "(I)I"⟩, 37) := ⟨⟨by decide +kernel, by decide +kernel⟩, List.mem_of_getElem? (i := 775) (by decide +kernel), List.mem_of_getElem? (i := 1003) (by decide +kernel), List.mem_of_getElem? (i := 1004) (by decide +kernel)⟩
def lw_privs_3 : List (MethodName × Nat) := [(⟨"CoalIsLentModel", "next", "()V"⟩, 37), (⟨"CoalIsLentModel", "wordFrom", "(II)I"⟩, 37), (⟨"CoalIsLentModel", "eRead", "()Z"⟩, 37), (⟨"CoalIsLentModel", "puts", "(I)V"⟩, 37), (⟨"CoalIsLentModel", "unwinds", "(I)V"⟩, 37), (⟨"CoalIsLentModel", "opensOne", "(I)Z"⟩, 37), (⟨"CoalIsLentModel", "holds", "(I)V"⟩, 37), (⟨"CoalIsLentModel", "signOf", "()I"⟩, 37), (⟨"CoalIsLentModel", "between", "(I)Z"⟩, 37), (⟨"CoalIsLentModel", "heatAll", "()I"⟩, 37), (⟨"CoalIsLentModel", "isHut", "(I)Z"⟩, 37), (⟨"CoalIsLentModel", "asksOf", "(III)I"⟩, 37), (⟨"CoalIsLentModel", "owedBy", "(I)I"⟩, 37), (⟨"CoalIsLentModel", "says", "(I)I"⟩, 37), (⟨"CoalIsLentModel", "owedTo", "(I)I"⟩, 37), (⟨"CoalIsLentModel", "lentBy", "(I)I"⟩, 37)]
theorem lw_r3 : ∀ q ∈ lw_privs_3, lw_okq q := List.forall_mem_cons.mpr ⟨lw_p32, List.forall_mem_cons.mpr ⟨lw_p33, List.forall_mem_cons.mpr ⟨lw_p34, List.forall_mem_cons.mpr ⟨lw_p35, List.forall_mem_cons.mpr ⟨lw_p36, List.forall_mem_cons.mpr ⟨lw_p37, List.forall_mem_cons.mpr ⟨lw_p38, List.forall_mem_cons.mpr ⟨lw_p39, List.forall_mem_cons.mpr ⟨lw_p40, List.forall_mem_cons.mpr ⟨lw_p41, List.forall_mem_cons.mpr ⟨lw_p42, List.forall_mem_cons.mpr ⟨lw_p43, List.forall_mem_cons.mpr ⟨lw_p44, List.forall_mem_cons.mpr ⟨lw_p45, List.forall_mem_cons.mpr ⟨lw_p46, List.forall_mem_cons.mpr ⟨lw_p47, fun _ h => absurd h List.not_mem_nil⟩⟩⟩⟩⟩⟩⟩⟩⟩⟩⟩⟩⟩⟩⟩⟩
theorem lw_p48 : lw_okq (⟨"CoalIsLentModel", "mayLend", "(II)Z"⟩, 37) := ⟨⟨by decide +kernel, by decide +kernel⟩, List.mem_of_getElem? (i := 775) (by decide +kernel), List.mem_of_getElem? (i := 1014) (by decide +kernel), List.mem_of_getElem? (i := 1015) (by decide +kernel)⟩
theorem lw_p49 : lw_okq (⟨"CoalIsLentModel", "lends", "(III)V"⟩, 37) := ⟨⟨by decide +kernel, by decide +kernel⟩, List.mem_of_getElem? (i := 775) (by decide +kernel), List.mem_of_getElem? (i := 1018) (by decide +kernel), List.mem_of_getElem? (i := 1019) (by decide +kernel)⟩
theorem lw_p50 : lw_okq (⟨"CoalIsLentModel", "moves", "(III)V"⟩, 37) := ⟨⟨by decide +kernel, by decide +kernel⟩, List.mem_of_getElem? (i := 775) (by decide +kernel), List.mem_of_getElem? (i := 1022) (by decide +kernel), List.mem_of_getElem? (i := 1023) (by decide +kernel)⟩
theorem lw_p51 : lw_okq (⟨"CoalIsLentModel", "isLoan", "(I)Z"⟩, 37) := ⟨⟨by decide +kernel, by decide +kernel⟩, List.mem_of_getElem? (i := 775) (by decide +kernel), List.mem_of_getElem? (i := 1030) (by decide +kernel), List.mem_of_getElem? (i := 1031) (by decide +kernel)⟩
theorem lw_p52 : lw_okq (⟨"CoalIsLentModel", "drops", "(I)V"⟩, 37) := ⟨⟨by decide +kernel, by decide +kernel⟩, List.mem_of_getElem? (i := 775) (by decide +kernel), List.mem_of_getElem? (i := 1038) (by decide +kernel), List.mem_of_getElem? (i := 1039) (by decide +kernel)⟩
theorem lw_p53 : lw_okq (⟨"CoalIsLentModel", "nightOf", "()I"⟩, 37) := ⟨⟨by decide +kernel, by decide +kernel⟩, List.mem_of_getElem? (i := 775) (by decide +kernel), List.mem_of_getElem? (i := 1050) (by decide +kernel), List.mem_of_getElem? (i := 1051) (by decide +kernel)⟩
theorem lw_p54 : lw_okq (⟨"CoalIsLentModel", "growsOf", "(II)I"⟩, 37) := ⟨⟨by decide +kernel, by decide +kernel⟩, List.mem_of_getElem? (i := 775) (by decide +kernel), List.mem_of_getElem? (i := 1054) (by decide +kernel), List.mem_of_getElem? (i := 1055) (by decide +kernel)⟩
theorem lw_p55 : lw_okq (⟨"CoalIsLentModel", "hearth", "(I)V"⟩, 37) := ⟨⟨by decide +kernel, by decide +kernel⟩, List.mem_of_getElem? (i := 775) (by decide +kernel), List.mem_of_getElem? (i := 1058) (by decide +kernel), List.mem_of_getElem? (i := 1059) (by decide +kernel)⟩
theorem lw_p56 : lw_okq (⟨"CoalIsLentModel", "burnsOf", "(I)I"⟩, 37) := ⟨⟨by decide +kernel, by decide +kernel⟩, List.mem_of_getElem? (i := 775) (by decide +kernel), List.mem_of_getElem? (i := 1062) (by decide +kernel), List.mem_of_getElem? (i := 1063) (by decide +kernel)⟩
theorem lw_p57 : lw_okq (⟨"CoalIsLentModel", "coolsOf", "(I)I"⟩, 37) := ⟨⟨by decide +kernel, by decide +kernel⟩, List.mem_of_getElem? (i := 775) (by decide +kernel), List.mem_of_getElem? (i := 1066) (by decide +kernel), List.mem_of_getElem? (i := 1067) (by decide +kernel)⟩
theorem lw_p58 : lw_okq (⟨"CoalIsLentModel", "keeps", "()V"⟩, 37) := ⟨⟨by decide +kernel, by decide +kernel⟩, List.mem_of_getElem? (i := 775) (by decide +kernel), List.mem_of_getElem? (i := 1074) (by decide +kernel), List.mem_of_getElem? (i := 1075) (by decide +kernel)⟩
theorem lw_p59 : lw_okq (⟨"CoalIsLentModel", "goes", "(I)I"⟩, 37) := ⟨⟨by decide +kernel, by decide +kernel⟩, List.mem_of_getElem? (i := 775) (by decide +kernel), List.mem_of_getElem? (i := 1078) (by decide +kernel), List.mem_of_getElem? (i := 1079) (by decide +kernel)⟩
theorem lw_p60 : lw_okq (⟨"CoalIsLentModel", "lays", "()V"⟩, 37) := ⟨⟨by decide +kernel, by decide +kernel⟩, List.mem_of_getElem? (i := 775) (by decide +kernel), List.mem_of_getElem? (i := 1082) (by decide +kernel), List.mem_of_getElem? (i := 1083) (by decide +kernel)⟩
theorem lw_p61 : lw_okq (⟨"CoalIsLentModel", "sourceOf", "(I)I"⟩, 37) := ⟨⟨by decide +kernel, by decide +kernel⟩, List.mem_of_getElem? (i := 775) (by decide +kernel), List.mem_of_getElem? (i := 1103) (by decide +kernel), List.mem_of_getElem? (i := 1104) (by decide +kernel)⟩
theorem lw_p62 : lw_okq (⟨"CoalIsLentModel", "failsBut", "(II)I"⟩, 37) := ⟨⟨by decide +kernel, by decide +kernel⟩, List.mem_of_getElem? (i := 775) (by decide +kernel), List.mem_of_getElem? (i := 1123) (by decide +kernel), List.mem_of_getElem? (i := 1124) (by decide +kernel)⟩
theorem lw_p63 : lw_okq (⟨"CoalIsLentModel", "toldWrong", "(II)I"⟩, 37) := ⟨⟨by decide +kernel, by decide +kernel⟩, List.mem_of_getElem? (i := 775) (by decide +kernel), List.mem_of_getElem? (i := 1138) (by decide +kernel), List.mem_of_getElem? (i := 1139) (by decide +kernel)⟩
def lw_privs_4 : List (MethodName × Nat) := [(⟨"CoalIsLentModel", "mayLend", "(II)Z"⟩, 37), (⟨"CoalIsLentModel", "lends", "(III)V"⟩, 37), (⟨"CoalIsLentModel", "moves", "(III)V"⟩, 37), (⟨"CoalIsLentModel", "isLoan", "(I)Z"⟩, 37), (⟨"CoalIsLentModel", "drops", "(I)V"⟩, 37), (⟨"CoalIsLentModel", "nightOf", "()I"⟩, 37), (⟨"CoalIsLentModel", "growsOf", "(II)I"⟩, 37), (⟨"CoalIsLentModel", "hearth", "(I)V"⟩, 37), (⟨"CoalIsLentModel", "burnsOf", "(I)I"⟩, 37), (⟨"CoalIsLentModel", "coolsOf", "(I)I"⟩, 37), (⟨"CoalIsLentModel", "keeps", "()V"⟩, 37), (⟨"CoalIsLentModel", "goes", "(I)I"⟩, 37), (⟨"CoalIsLentModel", "lays", "()V"⟩, 37), (⟨"CoalIsLentModel", "sourceOf", "(I)I"⟩, 37), (⟨"CoalIsLentModel", "failsBut", "(II)I"⟩, 37), (⟨"CoalIsLentModel", "toldWrong", "(II)I"⟩, 37)]
theorem lw_r4 : ∀ q ∈ lw_privs_4, lw_okq q := List.forall_mem_cons.mpr ⟨lw_p48, List.forall_mem_cons.mpr ⟨lw_p49, List.forall_mem_cons.mpr ⟨lw_p50, List.forall_mem_cons.mpr ⟨lw_p51, List.forall_mem_cons.mpr ⟨lw_p52, List.forall_mem_cons.mpr ⟨lw_p53, List.forall_mem_cons.mpr ⟨lw_p54, List.forall_mem_cons.mpr ⟨lw_p55, List.forall_mem_cons.mpr ⟨lw_p56, List.forall_mem_cons.mpr ⟨lw_p57, List.forall_mem_cons.mpr ⟨lw_p58, List.forall_mem_cons.mpr ⟨lw_p59, List.forall_mem_cons.mpr ⟨lw_p60, List.forall_mem_cons.mpr ⟨lw_p61, List.forall_mem_cons.mpr ⟨lw_p62, List.forall_mem_cons.mpr ⟨lw_p63, fun _ h => absurd h List.not_mem_nil⟩⟩⟩⟩⟩⟩⟩⟩⟩⟩⟩⟩⟩⟩⟩⟩
theorem lw_p64 : lw_okq (⟨"CoalIsLentModel", "sheetWrong", "(I)I"⟩, 37) := ⟨⟨by decide +kernel, by decide +kernel⟩, List.mem_of_getElem? (i := 775) (by decide +kernel), List.mem_of_getElem? (i := 1142) (by decide +kernel), List.mem_of_getElem? (i := 1143) (by decide +kernel)⟩
theorem lw_p65 : lw_okq (⟨"CoalIsLentModel", "unlike", "(II)I"⟩, 37) := ⟨⟨by decide +kernel, by decide +kernel⟩, List.mem_of_getElem? (i := 775) (by decide +kernel), List.mem_of_getElem? (i := 1146) (by decide +kernel), List.mem_of_getElem? (i := 1147) (by decide +kernel)⟩
theorem lw_p66 : lw_okq (⟨"CoalIsLentModel", "snows", "(II)I"⟩, 37) := ⟨⟨by decide +kernel, by decide +kernel⟩, List.mem_of_getElem? (i := 775) (by decide +kernel), List.mem_of_getElem? (i := 1175) (by decide +kernel), List.mem_of_getElem? (i := 1176) (by decide +kernel)⟩
def lw_privs_5 : List (MethodName × Nat) := [(⟨"CoalIsLentModel", "sheetWrong", "(I)I"⟩, 37), (⟨"CoalIsLentModel", "unlike", "(II)I"⟩, 37), (⟨"CoalIsLentModel", "snows", "(II)I"⟩, 37)]
theorem lw_r5 : ∀ q ∈ lw_privs_5, lw_okq q := List.forall_mem_cons.mpr ⟨lw_p64, List.forall_mem_cons.mpr ⟨lw_p65, List.forall_mem_cons.mpr ⟨lw_p66, fun _ h => absurd h List.not_mem_nil⟩⟩⟩
def lw_privs : List (MethodName × Nat) := lw_privs_1 ++ (lw_privs_2 ++ (lw_privs_3 ++ (lw_privs_4 ++ (lw_privs_5))))
def lw_tbl : List Cond := k2_sels lw_privs ++ tables_1
theorem lw_privs_ok : ∀ q ∈ lw_privs, lw_okq q := by
  show ∀ q ∈ lw_privs_1 ++ (lw_privs_2 ++ (lw_privs_3 ++ (lw_privs_4 ++ (lw_privs_5)))), lw_okq q
  exact List.forall_mem_append.mpr ⟨lw_r1, List.forall_mem_append.mpr ⟨lw_r2, List.forall_mem_append.mpr ⟨lw_r3, List.forall_mem_append.mpr ⟨lw_r4, lw_r5⟩⟩⟩⟩
-- ===== end of PART A; then your names; then what follows =====
/-! ===== BEGIN words of one list among another's, by their places ===== -/
theorem goodIn_r {big : List Cond} (ws : List Cond) (ps : List Nat) (hp : ws = ps.filterMap (fun i => big[i]?)) (h : ws.all goodWord = true) : GoodIn big ws := by
  intro w hw
  have h1 := List.all_eq_true.mp h w hw
  rw [hp] at hw
  obtain ⟨i, -, hi⟩ := List.mem_filterMap.mp hw
  have hm : w ∈ big := by first | exact List.mem_of_getElem? hi | exact List.getElem?_mem hi
  exact ⟨hm, good_of_word h1⟩
theorem goodIn_app {big a b : List Cond} (ha : GoodIn big a) (hb : GoodIn big b) : GoodIn big (a ++ b) := fun w h => (List.mem_append.mp h).elim (ha w) (hb w)
theorem goodIn_ca {big a b : List Cond} {c : Cond} (ha : GoodIn big (c :: a)) (hb : GoodIn big b) : GoodIn big (c :: (a ++ b)) := fun w h => (List.mem_cons.mp h).elim (fun e => ha w (List.mem_cons.mpr (Or.inl e))) (fun h => (List.mem_append.mp h).elim (fun h => ha w (List.mem_cons.mpr (Or.inr h))) (hb w))
theorem goodIn_sub {big ws : List Cond} (hm : ∀ w ∈ ws, w ∈ big) (h : ws.all goodWord = true) : GoodIn big ws := fun w hw => ⟨hm w hw, good_of_word (List.all_eq_true.mp h w hw)⟩
/-! ===== END ===== -/

/-! ===== BEGIN printed: names, fields, word lists, decode rows ===== -/
def RX0 : String := "CoalIsLent$Code"
def TX0 : u_T := fun k => match k with
  | _ => ("", "", "", false)
def tyX0 : Nat → FieldType := fun k => match k with
  | _ => .int
abbrev wsX00 : List Cond := u_ws RX0 TX0 0
theorem nmX0 : ∀ a, a < 0 → ∀ b, b < 0 → a ≠ b → (TX0 a).2.1 ≠ (TX0 b).2.1 := by decide +kernel
theorem tyX0_ok : ∀ k, k < 0 → parseFieldDescriptor (TX0 k).2.2.1 = some (tyX0 k) := by decide +kernel
abbrev cX0_ofName : ByteArray := prog_2_method_2_code
def yX0_ofName : MethodName := ⟨RX0, "ofName", "(I)I"⟩
abbrev cX0_isName : ByteArray := prog_2_method_3_code
def yX0_isName : MethodName := ⟨RX0, "isName", "(I)Z"⟩
abbrev cX0_isOfOne : ByteArray := prog_2_method_4_code
def yX0_isOfOne : MethodName := ⟨RX0, "isOfOne", "(I)Z"⟩
abbrev cX0_ofOne : ByteArray := prog_2_method_5_code
def yX0_ofOne : MethodName := ⟨RX0, "ofOne", "(II)I"⟩
abbrev cX0_isOfTwo : ByteArray := prog_2_method_6_code
def yX0_isOfTwo : MethodName := ⟨RX0, "isOfTwo", "(I)Z"⟩
abbrev cX0_ofTwo : ByteArray := prog_2_method_7_code
def yX0_ofTwo : MethodName := ⟨RX0, "ofTwo", "(III)I"⟩
def RX1 : String := "CoalIsLent$Kinds"
def TX1 : u_T := fun k => match k with
  | _ => ("", "", "", false)
def tyX1 : Nat → FieldType := fun k => match k with
  | _ => .int
abbrev wsX10 : List Cond := u_ws RX1 TX1 0
theorem nmX1 : ∀ a, a < 0 → ∀ b, b < 0 → a ≠ b → (TX1 a).2.1 ≠ (TX1 b).2.1 := by decide +kernel
theorem tyX1_ok : ∀ k, k < 0 → parseFieldDescriptor (TX1 k).2.2.1 = some (tyX1 k) := by decide +kernel
abbrev cX1_isOne : ByteArray := prog_3_method_2_code
def yX1_isOne : MethodName := ⟨RX1, "isOne", "(II)Z"⟩
abbrev cX1_growth : ByteArray := prog_3_method_3_code
def yX1_growth : MethodName := ⟨RX1, "growth", "(IIII)I"⟩
abbrev cX1_cooling : ByteArray := prog_3_method_4_code
def yX1_cooling : MethodName := ⟨RX1, "cooling", "(III)I"⟩
abbrev cX1_burning : ByteArray := prog_3_method_5_code
def yX1_burning : MethodName := ⟨RX1, "burning", "(IIII)I"⟩
def RX2 : String := "CoalIsLent$Reader"
def TX2 : u_T := fun k => match k with
  | 0 => ("CoalIsLent$Reader", "bytes", "[I", true)
  | 1 => ("CoalIsLent$Reader", "size", "I", false)
  | 2 => ("CoalIsLent$Reader", "code", "[I", true)
  | 3 => ("CoalIsLent$Reader", "codes", "I", false)
  | 4 => ("CoalIsLent$Reader", "ends", "[I", true)
  | 5 => ("CoalIsLent$Reader", "place", "I", false)
  | 6 => ("CoalIsLent$Reader", "start", "I", false)
  | 7 => ("CoalIsLent$Reader", "token", "I", false)
  | 8 => ("CoalIsLent$Reader", "number", "I", false)
  | _ => ("CoalIsLent$Reader", "fault", "I", false)
def tyX2 : Nat → FieldType := fun k => match k with
  | 0 => .array .int
  | 1 => .int
  | 2 => .array .int
  | 3 => .int
  | 4 => .array .int
  | 5 => .int
  | 6 => .int
  | 7 => .int
  | 8 => .int
  | _ => .int
abbrev wsX20 : List Cond := u_ws RX2 TX2 10
theorem nmX2 : ∀ a, a < 10 → ∀ b, b < 10 → a ≠ b → (TX2 a).2.1 ≠ (TX2 b).2.1 := by decide +kernel
theorem tyX2_ok : ∀ k, k < 10 → parseFieldDescriptor (TX2 k).2.2.1 = some (tyX2 k) := by decide +kernel
abbrev cX2_init : ByteArray := prog_4_method_1_code
def yX2_init : MethodName := ⟨RX2, "<init>", "()V"⟩
abbrev cX2_takeByte : ByteArray := prog_4_method_2_code
def yX2_takeByte : MethodName := ⟨RX2, "takeByte", "(I)V"⟩
abbrev cX2_clear : ByteArray := prog_4_method_3_code
def yX2_clear : MethodName := ⟨RX2, "clear", "()V"⟩
abbrev cX2_readText : ByteArray := prog_4_method_4_code
def yX2_readText : MethodName := ⟨RX2, "readText", "()I"⟩
abbrev cX2_expect : ByteArray := prog_4_method_5_code
def yX2_expect : MethodName := ⟨RX2, "expect", "(I)V"⟩
abbrev cX2_fail : ByteArray := prog_4_method_6_code
def yX2_fail : MethodName := ⟨RX2, "fail", "()V"⟩
abbrev cX2_emit : ByteArray := prog_4_method_7_code
def yX2_emit : MethodName := ⟨RX2, "emit", "(I)V"⟩
abbrev cX2_readOr : ByteArray := prog_4_method_8_code
def yX2_readOr : MethodName := ⟨RX2, "readOr", "(I)V"⟩
abbrev cX2_readAnd : ByteArray := prog_4_method_9_code
def yX2_readAnd : MethodName := ⟨RX2, "readAnd", "(I)V"⟩
abbrev cX2_readNot : ByteArray := prog_4_method_10_code
def yX2_readNot : MethodName := ⟨RX2, "readNot", "(I)V"⟩
abbrev cX2_readSum : ByteArray := prog_4_method_11_code
def yX2_readSum : MethodName := ⟨RX2, "readSum", "(I)V"⟩
abbrev cX2_readTerm : ByteArray := prog_4_method_12_code
def yX2_readTerm : MethodName := ⟨RX2, "readTerm", "(I)V"⟩
abbrev cX2_readOne : ByteArray := prog_4_method_13_code
def yX2_readOne : MethodName := ⟨RX2, "readOne", "(I)V"⟩
abbrev cX2_opens : ByteArray := prog_4_method_14_code
def yX2_opens : MethodName := ⟨RX2, "opens", "(I)Z"⟩
abbrev cX2_readToken : ByteArray := prog_4_method_15_code
def yX2_readToken : MethodName := ⟨RX2, "readToken", "()V"⟩
abbrev cX2_endOfWord : ByteArray := prog_4_method_16_code
def yX2_endOfWord : MethodName := ⟨RX2, "endOfWord", "()I"⟩
abbrev cX2_readNumber : ByteArray := prog_4_method_17_code
def yX2_readNumber : MethodName := ⟨RX2, "readNumber", "()V"⟩
abbrev cX2_keyRead : ByteArray := prog_4_method_18_code
def yX2_keyRead : MethodName := ⟨RX2, "keyRead", "()I"⟩
abbrev cX2_nameRead : ByteArray := prog_4_method_19_code
def yX2_nameRead : MethodName := ⟨RX2, "nameRead", "()I"⟩
abbrev cX2_isRead : ByteArray := prog_4_method_20_code
def yX2_isRead : MethodName := ⟨RX2, "isRead", "(Ljava/lang/String;)Z"⟩
abbrev cX2_byteAt : ByteArray := prog_4_method_21_code
def yX2_byteAt : MethodName := ⟨RX2, "byteAt", "(I)I"⟩
abbrev cX2_isBlank : ByteArray := prog_4_method_22_code
def yX2_isBlank : MethodName := ⟨RX2, "isBlank", "(I)Z"⟩
abbrev cX2_isLetter : ByteArray := prog_4_method_23_code
def yX2_isLetter : MethodName := ⟨RX2, "isLetter", "(I)Z"⟩
abbrev cX2_isDigit : ByteArray := prog_4_method_24_code
def yX2_isDigit : MethodName := ⟨RX2, "isDigit", "(I)Z"⟩
abbrev cX2_isSign : ByteArray := prog_4_method_25_code
def yX2_isSign : MethodName := ⟨RX2, "isSign", "(I)Z"⟩
def RX3 : String := "CoalIsLent$Sheets"
def TX3 : u_T := fun k => match k with
  | 0 => ("CoalIsLent$Sheets", "sorts", "[I", true)
  | 1 => ("CoalIsLent$Sheets", "sizes", "[I", true)
  | _ => ("CoalIsLent$Sheets", "numbers", "[I", true)
def tyX3 : Nat → FieldType := fun k => match k with
  | 0 => .array .int
  | 1 => .array .int
  | _ => .array .int
abbrev wsX30 : List Cond := u_ws RX3 TX3 3
theorem nmX3 : ∀ a, a < 3 → ∀ b, b < 3 → a ≠ b → (TX3 a).2.1 ≠ (TX3 b).2.1 := by decide +kernel
theorem tyX3_ok : ∀ k, k < 3 → parseFieldDescriptor (TX3 k).2.2.1 = some (tyX3 k) := by decide +kernel
abbrev cX3_init : ByteArray := prog_5_method_1_code
def yX3_init : MethodName := ⟨RX3, "<init>", "()V"⟩
abbrev cX3_isSheet : ByteArray := prog_5_method_2_code
def yX3_isSheet : MethodName := ⟨RX3, "isSheet", "(I)Z"⟩
abbrev cX3_isMissing : ByteArray := prog_5_method_3_code
def yX3_isMissing : MethodName := ⟨RX3, "isMissing", "(I)Z"⟩
abbrev cX3_sortOf : ByteArray := prog_5_method_4_code
def yX3_sortOf : MethodName := ⟨RX3, "sortOf", "(I)I"⟩
abbrev cX3_sizeOf : ByteArray := prog_5_method_5_code
def yX3_sizeOf : MethodName := ⟨RX3, "sizeOf", "(I)I"⟩
abbrev cX3_isPlace : ByteArray := prog_5_method_6_code
def yX3_isPlace : MethodName := ⟨RX3, "isPlace", "(II)Z"⟩
abbrev cX3_isStretch : ByteArray := prog_5_method_7_code
def yX3_isStretch : MethodName := ⟨RX3, "isStretch", "(III)Z"⟩
abbrev cX3_renew : ByteArray := prog_5_method_8_code
def yX3_renew : MethodName := ⟨RX3, "renew", "(III)V"⟩
abbrev cX3_at : ByteArray := prog_5_method_9_code
def yX3_at : MethodName := ⟨RX3, "at", "(II)I"⟩
abbrev cX3_write : ByteArray := prog_5_method_10_code
def yX3_write : MethodName := ⟨RX3, "write", "(III)V"⟩
abbrev cX3_move : ByteArray := prog_5_method_11_code
def yX3_move : MethodName := ⟨RX3, "move", "(IIIII)V"⟩
def RX4 : String := "CoalIsLent$Texts"
def TX4 : u_T := fun k => match k with
  | 0 => ("CoalIsLent$Texts", "code", "[I", true)
  | 1 => ("CoalIsLent$Texts", "ends", "[I", true)
  | 2 => ("CoalIsLent$Texts", "stack", "[I", true)
  | _ => ("CoalIsLent$Texts", "known", "I", false)
def tyX4 : Nat → FieldType := fun k => match k with
  | 0 => .array .int
  | 1 => .array .int
  | 2 => .array .int
  | _ => .int
abbrev wsX40 : List Cond := u_ws RX4 TX4 4
theorem nmX4 : ∀ a, a < 4 → ∀ b, b < 4 → a ≠ b → (TX4 a).2.1 ≠ (TX4 b).2.1 := by decide +kernel
theorem tyX4_ok : ∀ k, k < 4 → parseFieldDescriptor (TX4 k).2.2.1 = some (tyX4 k) := by decide +kernel
abbrev cX4_init : ByteArray := prog_6_method_1_code
def yX4_init : MethodName := ⟨RX4, "<init>", "()V"⟩
abbrev cX4_keep : ByteArray := prog_6_method_2_code
def yX4_keep : MethodName := ⟨RX4, "keep", "(LCoalIsLent$Reader;)I"⟩
abbrev cX4_valueOf : ByteArray := prog_6_method_3_code
def yX4_valueOf : MethodName := ⟨RX4, "valueOf", "(II[I)I"⟩
def RX5 : String := "CoalIsLent$World"
def TX5 : u_T := fun k => match k with
  | 0 => ("CoalIsLent$World", "heat", "[I", true)
  | 1 => ("CoalIsLent$World", "wood", "[I", true)
  | 2 => ("CoalIsLent$World", "cold", "[I", true)
  | 3 => ("CoalIsLent$World", "kind", "[I", true)
  | 4 => ("CoalIsLent$World", "more", "[I", true)
  | 5 => ("CoalIsLent$World", "from", "[I", true)
  | 6 => ("CoalIsLent$World", "to", "[I", true)
  | 7 => ("CoalIsLent$World", "coal", "[I", true)
  | 8 => ("CoalIsLent$World", "due", "[I", true)
  | 9 => ("CoalIsLent$World", "huts", "I", false)
  | 10 => ("CoalIsLent$World", "loans", "I", false)
  | 11 => ("CoalIsLent$World", "night", "I", false)
  | 12 => ("CoalIsLent$World", "law", "I", false)
  | 13 => ("CoalIsLent$World", "texts", "LCoalIsLent$Texts;", true)
  | _ => ("CoalIsLent$World", "names", "[I", true)
def tyX5 : Nat → FieldType := fun k => match k with
  | 0 => .array .int
  | 1 => .array .int
  | 2 => .array .int
  | 3 => .array .int
  | 4 => .array .int
  | 5 => .array .int
  | 6 => .array .int
  | 7 => .array .int
  | 8 => .array .int
  | 9 => .int
  | 10 => .int
  | 11 => .int
  | 12 => .int
  | 13 => .object "CoalIsLent$Texts"
  | _ => .array .int
abbrev wsX50 : List Cond := u_ws RX5 TX5 15
theorem nmX5 : ∀ a, a < 15 → ∀ b, b < 15 → a ≠ b → (TX5 a).2.1 ≠ (TX5 b).2.1 := by decide +kernel
theorem tyX5_ok : ∀ k, k < 15 → parseFieldDescriptor (TX5 k).2.2.1 = some (tyX5 k) := by decide +kernel
abbrev cX5_init : ByteArray := prog_7_method_1_code
def yX5_init : MethodName := ⟨RX5, "<init>", "(LCoalIsLent$Texts;)V"⟩
abbrev cX5_becomeAs : ByteArray := prog_7_method_2_code
def yX5_becomeAs : MethodName := ⟨RX5, "becomeAs", "(LCoalIsLent$World;)V"⟩
abbrev cX5_isHut : ByteArray := prog_7_method_3_code
def yX5_isHut : MethodName := ⟨RX5, "isHut", "(I)Z"⟩
abbrev cX5_isLoan : ByteArray := prog_7_method_4_code
def yX5_isLoan : MethodName := ⟨RX5, "isLoan", "(I)Z"⟩
abbrev cX5_comes : ByteArray := prog_7_method_5_code
def yX5_comes : MethodName := ⟨RX5, "comes", "(II)I"⟩
abbrev cX5_stateOf : ByteArray := prog_7_method_6_code
def yX5_stateOf : MethodName := ⟨RX5, "stateOf", "(II)I"⟩
abbrev cX5_become : ByteArray := prog_7_method_7_code
def yX5_become : MethodName := ⟨RX5, "become", "(III)V"⟩
abbrev cX5_heatOfAll : ByteArray := prog_7_method_8_code
def yX5_heatOfAll : MethodName := ⟨RX5, "heatOfAll", "()I"⟩
abbrev cX5_owes : ByteArray := prog_7_method_9_code
def yX5_owes : MethodName := ⟨RX5, "owes", "(I)I"⟩
abbrev cX5_isOwed : ByteArray := prog_7_method_10_code
def yX5_isOwed : MethodName := ⟨RX5, "isOwed", "(I)I"⟩
abbrev cX5_coalsWhere : ByteArray := prog_7_method_11_code
def yX5_coalsWhere : MethodName := ⟨RX5, "coalsWhere", "([II)I"⟩
abbrev cX5_loansFrom : ByteArray := prog_7_method_12_code
def yX5_loansFrom : MethodName := ⟨RX5, "loansFrom", "(I)I"⟩
abbrev cX5_sourceOf : ByteArray := prog_7_method_13_code
def yX5_sourceOf : MethodName := ⟨RX5, "sourceOf", "(I)I"⟩
abbrev cX5_lends : ByteArray := prog_7_method_14_code
def yX5_lends : MethodName := ⟨RX5, "lends", "(IIII)I"⟩
abbrev cX5_pass : ByteArray := prog_7_method_15_code
def yX5_pass : MethodName := ⟨RX5, "pass", "(III)V"⟩
abbrev cX5_canRepay : ByteArray := prog_7_method_16_code
def yX5_canRepay : MethodName := ⟨RX5, "canRepay", "(I)Z"⟩
abbrev cX5_payBack : ByteArray := prog_7_method_17_code
def yX5_payBack : MethodName := ⟨RX5, "payBack", "(I)V"⟩
abbrev cX5_drop : ByteArray := prog_7_method_18_code
def yX5_drop : MethodName := ⟨RX5, "drop", "(I)V"⟩
abbrev cX5_passNight : ByteArray := prog_7_method_19_code
def yX5_passNight : MethodName := ⟨RX5, "passNight", "()I"⟩
abbrev cX5_passNights : ByteArray := prog_7_method_20_code
def yX5_passNights : MethodName := ⟨RX5, "passNights", "(I)I"⟩
abbrev cX5_failedIn : ByteArray := prog_7_method_21_code
def yX5_failedIn : MethodName := ⟨RX5, "failedIn", "(I)I"⟩
abbrev cX5_passSnow : ByteArray := prog_7_method_22_code
def yX5_passSnow : MethodName := ⟨RX5, "passSnow", "(II)I"⟩
abbrev cX5_grow : ByteArray := prog_7_method_23_code
def yX5_grow : MethodName := ⟨RX5, "grow", "(I)V"⟩
abbrev cX5_endDueLoans : ByteArray := prog_7_method_24_code
def yX5_endDueLoans : MethodName := ⟨RX5, "endDueLoans", "()I"⟩
abbrev cX5_warm : ByteArray := prog_7_method_25_code
def yX5_warm : MethodName := ⟨RX5, "warm", "(I)V"⟩
abbrev cX5_says : ByteArray := prog_7_method_26_code
def yX5_says : MethodName := ⟨RX5, "says", "(III)I"⟩
def RX6 : String := "CoalIsLent"
def TX6 : u_T := fun k => match k with
  | 0 => ("CoalIsLent", "texts", "LCoalIsLent$Texts;", true)
  | 1 => ("CoalIsLent", "tape", "LCoalIsLent$Reader;", true)
  | 2 => ("CoalIsLent", "now", "LCoalIsLent$World;", true)
  | 3 => ("CoalIsLent", "thought", "LCoalIsLent$World;", true)
  | 4 => ("CoalIsLent", "kept", "LCoalIsLent$World;", true)
  | 5 => ("CoalIsLent", "sheets", "LCoalIsLent$Sheets;", true)
  | 6 => ("CoalIsLent", "nets", "[I", true)
  | _ => ("CoalIsLent", "isKept", "Z", false)
def tyX6 : Nat → FieldType := fun k => match k with
  | 0 => .object "CoalIsLent$Texts"
  | 1 => .object "CoalIsLent$Reader"
  | 2 => .object "CoalIsLent$World"
  | 3 => .object "CoalIsLent$World"
  | 4 => .object "CoalIsLent$World"
  | 5 => .object "CoalIsLent$Sheets"
  | 6 => .array .int
  | _ => .boolean
abbrev wsX60 : List Cond := u_ws RX6 TX6 8
theorem nmX6 : ∀ a, a < 8 → ∀ b, b < 8 → a ≠ b → (TX6 a).2.1 ≠ (TX6 b).2.1 := by decide +kernel
theorem tyX6_ok : ∀ k, k < 8 → parseFieldDescriptor (TX6 k).2.2.1 = some (tyX6 k) := by decide +kernel
abbrev cX6_init : ByteArray := prog_1_method_1_code
def yX6_init : MethodName := ⟨RX6, "<init>", "()V"⟩
abbrev cX6_count : ByteArray := prog_1_method_2_code
def yX6_count : MethodName := ⟨RX6, "count", "(I)I"⟩
abbrev cX6_feed : ByteArray := prog_1_method_3_code
def yX6_feed : MethodName := ⟨RX6, "feed", "(IIIIII)I"⟩
abbrev cX6_text : ByteArray := prog_1_method_4_code
def yX6_text : MethodName := ⟨RX6, "text", "()I"⟩
abbrev cX6_force : ByteArray := prog_1_method_5_code
def yX6_force : MethodName := ⟨RX6, "force", "(I)I"⟩
abbrev cX6_asks : ByteArray := prog_1_method_6_code
def yX6_asks : MethodName := ⟨RX6, "asks", "(III)I"⟩
abbrev cX6_hut : ByteArray := prog_1_method_7_code
def yX6_hut : MethodName := ⟨RX6, "hut", "(II)I"⟩
abbrev cX6_put : ByteArray := prog_1_method_8_code
def yX6_put : MethodName := ⟨RX6, "put", "(III)I"⟩
abbrev cX6_told : ByteArray := prog_1_method_9_code
def yX6_told : MethodName := ⟨RX6, "told", "(II)I"⟩
abbrev cX6_lend : ByteArray := prog_1_method_10_code
def yX6_lend : MethodName := ⟨RX6, "lend", "(II)I"⟩
abbrev cX6_loan : ByteArray := prog_1_method_11_code
def yX6_loan : MethodName := ⟨RX6, "loan", "(II)I"⟩
abbrev cX6_repay : ByteArray := prog_1_method_12_code
def yX6_repay : MethodName := ⟨RX6, "repay", "(I)I"⟩
abbrev cX6_forgive : ByteArray := prog_1_method_13_code
def yX6_forgive : MethodName := ⟨RX6, "forgive", "(I)I"⟩
abbrev cX6_night : ByteArray := prog_1_method_14_code
def yX6_night : MethodName := ⟨RX6, "night", "()I"⟩
abbrev cX6_run : ByteArray := prog_1_method_15_code
def yX6_run : MethodName := ⟨RX6, "run", "(II)I"⟩
abbrev cX6_lasts : ByteArray := prog_1_method_16_code
def yX6_lasts : MethodName := ⟨RX6, "lasts", "(II)I"⟩
abbrev cX6_nightsToFailing : ByteArray := prog_1_method_17_code
def yX6_nightsToFailing : MethodName := ⟨RX6, "nightsToFailing", "(I)I"⟩
abbrev cX6_nightsToNoHeat : ByteArray := prog_1_method_18_code
def yX6_nightsToNoHeat : MethodName := ⟨RX6, "nightsToNoHeat", "(I)I"⟩
abbrev cX6_net : ByteArray := prog_1_method_19_code
def yX6_net : MethodName := ⟨RX6, "net", "(I)I"⟩
abbrev cX6_settle : ByteArray := prog_1_method_20_code
def yX6_settle : MethodName := ⟨RX6, "settle", "(I)I"⟩
abbrev cX6_payOnce : ByteArray := prog_1_method_21_code
def yX6_payOnce : MethodName := ⟨RX6, "payOnce", "()I"⟩
abbrev cX6_source : ByteArray := prog_1_method_22_code
def yX6_source : MethodName := ⟨RX6, "source", "(I)I"⟩
abbrev cX6_rings : ByteArray := prog_1_method_23_code
def yX6_rings : MethodName := ⟨RX6, "rings", "(I)I"⟩
abbrev cX6_ask : ByteArray := prog_1_method_24_code
def yX6_ask : MethodName := ⟨RX6, "ask", "(III)I"⟩
abbrev cX6_heatIfLent : ByteArray := prog_1_method_25_code
def yX6_heatIfLent : MethodName := ⟨RX6, "heatIfLent", "(III)I"⟩
abbrev cX6_needs : ByteArray := prog_1_method_26_code
def yX6_needs : MethodName := ⟨RX6, "needs", "(II)I"⟩
abbrev cX6_mercy : ByteArray := prog_1_method_27_code
def yX6_mercy : MethodName := ⟨RX6, "mercy", "(II)I"⟩
abbrev cX6_worst : ByteArray := prog_1_method_28_code
def yX6_worst : MethodName := ⟨RX6, "worst", "(II)I"⟩
abbrev cX6_heatOfOthersWithout : ByteArray := prog_1_method_29_code
def yX6_heatOfOthersWithout : MethodName := ⟨RX6, "heatOfOthersWithout", "(II)I"⟩
abbrev cX6_judge : ByteArray := prog_1_method_30_code
def yX6_judge : MethodName := ⟨RX6, "judge", "(II)I"⟩
abbrev cX6_kinds : ByteArray := prog_1_method_31_code
def yX6_kinds : MethodName := ⟨RX6, "kinds", "(III)I"⟩
abbrev cX6_states : ByteArray := prog_1_method_32_code
def yX6_states : MethodName := ⟨RX6, "states", "(IIII)I"⟩
abbrev cX6_whose : ByteArray := prog_1_method_33_code
def yX6_whose : MethodName := ⟨RX6, "whose", "(I)I"⟩
abbrev cX6_laws : ByteArray := prog_1_method_34_code
def yX6_laws : MethodName := ⟨RX6, "laws", "(II)I"⟩
abbrev cX6_film : ByteArray := prog_1_method_35_code
def yX6_film : MethodName := ⟨RX6, "film", "(III)I"⟩
abbrev cX6_firstOtherwise : ByteArray := prog_1_method_36_code
def yX6_firstOtherwise : MethodName := ⟨RX6, "firstOtherwise", "(ILCoalIsLent$World;I)I"⟩
abbrev cX6_isTold : ByteArray := prog_1_method_37_code
def yX6_isTold : MethodName := ⟨RX6, "isTold", "(ILCoalIsLent$World;I)Z"⟩
abbrev cX6_toldRefusal : ByteArray := prog_1_method_38_code
def yX6_toldRefusal : MethodName := ⟨RX6, "toldRefusal", "(I)I"⟩
abbrev cX6_judgeRefusal : ByteArray := prog_1_method_39_code
def yX6_judgeRefusal : MethodName := ⟨RX6, "judgeRefusal", "(II)I"⟩
abbrev cX6_drawn : ByteArray := prog_1_method_40_code
def yX6_drawn : MethodName := ⟨RX6, "drawn", "(III)I"⟩
abbrev cX6_odds : ByteArray := prog_1_method_41_code
def yX6_odds : MethodName := ⟨RX6, "odds", "(IIIII)J"⟩
abbrev cX6_greatestShared : ByteArray := prog_1_method_42_code
def yX6_greatestShared : MethodName := ⟨RX6, "greatestShared", "(II)I"⟩
abbrev cX6_image : ByteArray := prog_1_method_43_code
def yX6_image : MethodName := ⟨RX6, "image", "()I"⟩
abbrev cX6_back : ByteArray := prog_1_method_44_code
def yX6_back : MethodName := ⟨RX6, "back", "()I"⟩
abbrev cX6_sheet : ByteArray := prog_1_method_45_code
def yX6_sheet : MethodName := ⟨RX6, "sheet", "(III)I"⟩
abbrev cX6_cell : ByteArray := prog_1_method_46_code
def yX6_cell : MethodName := ⟨RX6, "cell", "(III)I"⟩
abbrev cX6_copy : ByteArray := prog_1_method_47_code
def yX6_copy : MethodName := ⟨RX6, "copy", "(IIIII)I"⟩
abbrev cX6_hutsBy : ByteArray := prog_1_method_48_code
def yX6_hutsBy : MethodName := ⟨RX6, "hutsBy", "(IIII)I"⟩
abbrev cX6_taken : ByteArray := prog_1_method_49_code
def yX6_taken : MethodName := ⟨RX6, "taken", "(II)I"⟩
abbrev cX6_think : ByteArray := prog_1_method_50_code
def yX6_think : MethodName := ⟨RX6, "think", "()LCoalIsLent$World;"⟩
abbrev cX6_isFromTo : ByteArray := prog_1_method_51_code
def yX6_isFromTo : MethodName := ⟨RX6, "isFromTo", "(III)Z"⟩
abbrev cX6_isByte : ByteArray := prog_1_method_52_code
def yX6_isByte : MethodName := ⟨RX6, "isByte", "(I)Z"⟩
abbrev cX6_isCoalNights : ByteArray := prog_1_method_53_code
def yX6_isCoalNights : MethodName := ⟨RX6, "isCoalNights", "(II)Z"⟩
abbrev cX6_isSnow : ByteArray := prog_1_method_54_code
def yX6_isSnow : MethodName := ⟨RX6, "isSnow", "(II)Z"⟩
abbrev cX6_has : ByteArray := prog_1_method_55_code
def yX6_has : MethodName := ⟨RX6, "has", "(II)Z"⟩
abbrev cX6_mostOf : ByteArray := prog_1_method_56_code
def yX6_mostOf : MethodName := ⟨RX6, "mostOf", "(I)I"⟩
def RX7 : String := "CoalIsLentModel"
def TX7 : u_T := fun k => match k with
  | 0 => ("CoalIsLentModel", "huts", "I", false)
  | 1 => ("CoalIsLentModel", "kind", "[I", true)
  | 2 => ("CoalIsLentModel", "moreOf", "[I", true)
  | 3 => ("CoalIsLentModel", "rows", "[I", true)
  | 4 => ("CoalIsLentModel", "lender", "[I", true)
  | 5 => ("CoalIsLentModel", "ower", "[I", true)
  | 6 => ("CoalIsLentModel", "coals", "[I", true)
  | 7 => ("CoalIsLentModel", "dues", "[I", true)
  | 8 => ("CoalIsLentModel", "loans", "I", false)
  | 9 => ("CoalIsLentModel", "nights", "I", false)
  | 10 => ("CoalIsLentModel", "tape", "[I", true)
  | 11 => ("CoalIsLentModel", "taped", "I", false)
  | 12 => ("CoalIsLentModel", "codes", "[I", true)
  | 13 => ("CoalIsLentModel", "starts", "[I", true)
  | 14 => ("CoalIsLentModel", "texts", "I", false)
  | 15 => ("CoalIsLentModel", "rule", "I", false)
  | 16 => ("CoalIsLentModel", "hasImage", "Z", false)
  | 17 => ("CoalIsLentModel", "imageRows", "[I", true)
  | 18 => ("CoalIsLentModel", "imageHeld", "[I", true)
  | 19 => ("CoalIsLentModel", "sheetSort", "[I", true)
  | 20 => ("CoalIsLentModel", "sheetSize", "[I", true)
  | 21 => ("CoalIsLentModel", "cells", "[I", true)
  | 22 => ("CoalIsLentModel", "law", "[I", true)
  | 23 => ("CoalIsLentModel", "at", "I", false)
  | 24 => ("CoalIsLentModel", "begun", "I", false)
  | 25 => ("CoalIsLentModel", "token", "I", false)
  | 26 => ("CoalIsLentModel", "value", "I", false)
  | 27 => ("CoalIsLentModel", "words", "[I", true)
  | 28 => ("CoalIsLentModel", "held", "[I", true)
  | 29 => ("CoalIsLentModel", "heldMany", "I", false)
  | 30 => ("CoalIsLentModel", "opens", "I", false)
  | 31 => ("CoalIsLentModel", "out", "I", false)
  | 32 => ("CoalIsLentModel", "stack", "[I", true)
  | 33 => ("CoalIsLentModel", "named", "[I", true)
  | 34 => ("CoalIsLentModel", "kept", "[I", true)
  | 35 => ("CoalIsLentModel", "nets", "[I", true)
  | _ => ("CoalIsLentModel", "heatThen", "I", false)
def tyX7 : Nat → FieldType := fun k => match k with
  | 0 => .int
  | 1 => .array .int
  | 2 => .array .int
  | 3 => .array .int
  | 4 => .array .int
  | 5 => .array .int
  | 6 => .array .int
  | 7 => .array .int
  | 8 => .int
  | 9 => .int
  | 10 => .array .int
  | 11 => .int
  | 12 => .array .int
  | 13 => .array .int
  | 14 => .int
  | 15 => .int
  | 16 => .boolean
  | 17 => .array .int
  | 18 => .array .int
  | 19 => .array .int
  | 20 => .array .int
  | 21 => .array .int
  | 22 => .array .int
  | 23 => .int
  | 24 => .int
  | 25 => .int
  | 26 => .int
  | 27 => .array .int
  | 28 => .array .int
  | 29 => .int
  | 30 => .int
  | 31 => .int
  | 32 => .array .int
  | 33 => .array .int
  | 34 => .array .int
  | 35 => .array .int
  | _ => .int
abbrev wsX70 : List Cond := u_ws RX7 TX7 37
theorem nmX7 : ∀ a, a < 37 → ∀ b, b < 37 → a ≠ b → (TX7 a).2.1 ≠ (TX7 b).2.1 := by decide +kernel
theorem tyX7_ok : ∀ k, k < 37 → parseFieldDescriptor (TX7 k).2.2.1 = some (tyX7 k) := by decide +kernel
abbrev cX7_init : ByteArray := prog_9_method_1_code
def yX7_init : MethodName := ⟨RX7, "<init>", "()V"⟩
abbrev cX7_in : ByteArray := prog_9_method_3_code
def yX7_in : MethodName := ⟨RX7, "in", "(III)Z"⟩
abbrev cX7_within : ByteArray := prog_9_method_4_code
def yX7_within : MethodName := ⟨RX7, "within", "(III)I"⟩
abbrev cX7_isHut : ByteArray := prog_9_method_5_code
def yX7_isHut : MethodName := ⟨RX7, "isHut", "(I)Z"⟩
abbrev cX7_isLoan : ByteArray := prog_9_method_6_code
def yX7_isLoan : MethodName := ⟨RX7, "isLoan", "(I)Z"⟩
abbrev cX7_owedBy : ByteArray := prog_9_method_7_code
def yX7_owedBy : MethodName := ⟨RX7, "owedBy", "(I)I"⟩
abbrev cX7_owedTo : ByteArray := prog_9_method_8_code
def yX7_owedTo : MethodName := ⟨RX7, "owedTo", "(I)I"⟩
abbrev cX7_lentBy : ByteArray := prog_9_method_9_code
def yX7_lentBy : MethodName := ⟨RX7, "lentBy", "(I)I"⟩
abbrev cX7_heatAll : ByteArray := prog_9_method_10_code
def yX7_heatAll : MethodName := ⟨RX7, "heatAll", "()I"⟩
abbrev cX7_count : ByteArray := prog_9_method_11_code
def yX7_count : MethodName := ⟨RX7, "count", "(I)I"⟩
abbrev cX7_isByte : ByteArray := prog_9_method_12_code
def yX7_isByte : MethodName := ⟨RX7, "isByte", "(I)Z"⟩
abbrev cX7_feed : ByteArray := prog_9_method_13_code
def yX7_feed : MethodName := ⟨RX7, "feed", "(IIIIII)I"⟩
abbrev cX7_wordFrom : ByteArray := prog_9_method_14_code
def yX7_wordFrom : MethodName := ⟨RX7, "wordFrom", "(II)I"⟩
abbrev cX7_next : ByteArray := prog_9_method_15_code
def yX7_next : MethodName := ⟨RX7, "next", "()V"⟩
abbrev cX7_rank : ByteArray := prog_9_method_16_code
def yX7_rank : MethodName := ⟨RX7, "rank", "(I)I"⟩
abbrev cX7_puts : ByteArray := prog_9_method_17_code
def yX7_puts : MethodName := ⟨RX7, "puts", "(I)V"⟩
abbrev cX7_unwinds : ByteArray := prog_9_method_18_code
def yX7_unwinds : MethodName := ⟨RX7, "unwinds", "(I)V"⟩
abbrev cX7_holds : ByteArray := prog_9_method_19_code
def yX7_holds : MethodName := ⟨RX7, "holds", "(I)V"⟩
abbrev cX7_opensOne : ByteArray := prog_9_method_20_code
def yX7_opensOne : MethodName := ⟨RX7, "opensOne", "(I)Z"⟩
abbrev cX7_between : ByteArray := prog_9_method_21_code
def yX7_between : MethodName := ⟨RX7, "between", "(I)Z"⟩
abbrev cX7_signOf : ByteArray := prog_9_method_22_code
def yX7_signOf : MethodName := ⟨RX7, "signOf", "()I"⟩
abbrev cX7_eRead : ByteArray := prog_9_method_23_code
def yX7_eRead : MethodName := ⟨RX7, "eRead", "()Z"⟩
abbrev cX7_text : ByteArray := prog_9_method_24_code
def yX7_text : MethodName := ⟨RX7, "text", "()I"⟩
abbrev cX7_two : ByteArray := prog_9_method_25_code
def yX7_two : MethodName := ⟨RX7, "two", "(III)I"⟩
abbrev cX7_says : ByteArray := prog_9_method_26_code
def yX7_says : MethodName := ⟨RX7, "says", "(I)I"⟩
abbrev cX7_force : ByteArray := prog_9_method_27_code
def yX7_force : MethodName := ⟨RX7, "force", "(I)I"⟩
abbrev cX7_asksOf : ByteArray := prog_9_method_28_code
def yX7_asksOf : MethodName := ⟨RX7, "asksOf", "(III)I"⟩
abbrev cX7_asks : ByteArray := prog_9_method_29_code
def yX7_asks : MethodName := ⟨RX7, "asks", "(III)I"⟩
abbrev cX7_hut : ByteArray := prog_9_method_30_code
def yX7_hut : MethodName := ⟨RX7, "hut", "(II)I"⟩
abbrev cX7_put : ByteArray := prog_9_method_31_code
def yX7_put : MethodName := ⟨RX7, "put", "(III)I"⟩
abbrev cX7_told : ByteArray := prog_9_method_32_code
def yX7_told : MethodName := ⟨RX7, "told", "(II)I"⟩
abbrev cX7_areCoalNights : ByteArray := prog_9_method_33_code
def yX7_areCoalNights : MethodName := ⟨RX7, "areCoalNights", "(I)Z"⟩
abbrev cX7_mayLend : ByteArray := prog_9_method_34_code
def yX7_mayLend : MethodName := ⟨RX7, "mayLend", "(II)Z"⟩
abbrev cX7_moves : ByteArray := prog_9_method_35_code
def yX7_moves : MethodName := ⟨RX7, "moves", "(III)V"⟩
abbrev cX7_lends : ByteArray := prog_9_method_36_code
def yX7_lends : MethodName := ⟨RX7, "lends", "(III)V"⟩
abbrev cX7_lend : ByteArray := prog_9_method_37_code
def yX7_lend : MethodName := ⟨RX7, "lend", "(II)I"⟩
abbrev cX7_loan : ByteArray := prog_9_method_38_code
def yX7_loan : MethodName := ⟨RX7, "loan", "(II)I"⟩
abbrev cX7_drops : ByteArray := prog_9_method_39_code
def yX7_drops : MethodName := ⟨RX7, "drops", "(I)V"⟩
abbrev cX7_repay : ByteArray := prog_9_method_40_code
def yX7_repay : MethodName := ⟨RX7, "repay", "(I)I"⟩
abbrev cX7_forgive : ByteArray := prog_9_method_41_code
def yX7_forgive : MethodName := ⟨RX7, "forgive", "(I)I"⟩
abbrev cX7_growsOf : ByteArray := prog_9_method_42_code
def yX7_growsOf : MethodName := ⟨RX7, "growsOf", "(II)I"⟩
abbrev cX7_coolsOf : ByteArray := prog_9_method_43_code
def yX7_coolsOf : MethodName := ⟨RX7, "coolsOf", "(I)I"⟩
abbrev cX7_burnsOf : ByteArray := prog_9_method_44_code
def yX7_burnsOf : MethodName := ⟨RX7, "burnsOf", "(I)I"⟩
abbrev cX7_hearth : ByteArray := prog_9_method_45_code
def yX7_hearth : MethodName := ⟨RX7, "hearth", "(I)V"⟩
abbrev cX7_nightOf : ByteArray := prog_9_method_46_code
def yX7_nightOf : MethodName := ⟨RX7, "nightOf", "()I"⟩
abbrev cX7_night : ByteArray := prog_9_method_47_code
def yX7_night : MethodName := ⟨RX7, "night", "()I"⟩
abbrev cX7_keeps : ByteArray := prog_9_method_48_code
def yX7_keeps : MethodName := ⟨RX7, "keeps", "()V"⟩
abbrev cX7_lays : ByteArray := prog_9_method_49_code
def yX7_lays : MethodName := ⟨RX7, "lays", "()V"⟩
abbrev cX7_goes : ByteArray := prog_9_method_50_code
def yX7_goes : MethodName := ⟨RX7, "goes", "(I)I"⟩
abbrev cX7_ones : ByteArray := prog_9_method_51_code
def yX7_ones : MethodName := ⟨RX7, "ones", "(I)I"⟩
abbrev cX7_run : ByteArray := prog_9_method_52_code
def yX7_run : MethodName := ⟨RX7, "run", "(II)I"⟩
abbrev cX7_lasts : ByteArray := prog_9_method_53_code
def yX7_lasts : MethodName := ⟨RX7, "lasts", "(II)I"⟩
abbrev cX7_net : ByteArray := prog_9_method_54_code
def yX7_net : MethodName := ⟨RX7, "net", "(I)I"⟩
abbrev cX7_settle : ByteArray := prog_9_method_55_code
def yX7_settle : MethodName := ⟨RX7, "settle", "(I)I"⟩
abbrev cX7_sourceOf : ByteArray := prog_9_method_56_code
def yX7_sourceOf : MethodName := ⟨RX7, "sourceOf", "(I)I"⟩
abbrev cX7_source : ByteArray := prog_9_method_57_code
def yX7_source : MethodName := ⟨RX7, "source", "(I)I"⟩
abbrev cX7_rings : ByteArray := prog_9_method_58_code
def yX7_rings : MethodName := ⟨RX7, "rings", "(I)I"⟩
abbrev cX7_ask : ByteArray := prog_9_method_59_code
def yX7_ask : MethodName := ⟨RX7, "ask", "(III)I"⟩
abbrev cX7_needs : ByteArray := prog_9_method_60_code
def yX7_needs : MethodName := ⟨RX7, "needs", "(II)I"⟩
abbrev cX7_failsBut : ByteArray := prog_9_method_61_code
def yX7_failsBut : MethodName := ⟨RX7, "failsBut", "(II)I"⟩
abbrev cX7_mercy : ByteArray := prog_9_method_62_code
def yX7_mercy : MethodName := ⟨RX7, "mercy", "(II)I"⟩
abbrev cX7_worst : ByteArray := prog_9_method_63_code
def yX7_worst : MethodName := ⟨RX7, "worst", "(II)I"⟩
abbrev cX7_sheetWrong : ByteArray := prog_9_method_64_code
def yX7_sheetWrong : MethodName := ⟨RX7, "sheetWrong", "(I)I"⟩
abbrev cX7_toldWrong : ByteArray := prog_9_method_65_code
def yX7_toldWrong : MethodName := ⟨RX7, "toldWrong", "(II)I"⟩
abbrev cX7_unlike : ByteArray := prog_9_method_66_code
def yX7_unlike : MethodName := ⟨RX7, "unlike", "(II)I"⟩
abbrev cX7_judge : ByteArray := prog_9_method_67_code
def yX7_judge : MethodName := ⟨RX7, "judge", "(II)I"⟩
abbrev cX7_kinds : ByteArray := prog_9_method_68_code
def yX7_kinds : MethodName := ⟨RX7, "kinds", "(III)I"⟩
abbrev cX7_states : ByteArray := prog_9_method_69_code
def yX7_states : MethodName := ⟨RX7, "states", "(IIII)I"⟩
abbrev cX7_whose : ByteArray := prog_9_method_70_code
def yX7_whose : MethodName := ⟨RX7, "whose", "(I)I"⟩
abbrev cX7_laws : ByteArray := prog_9_method_71_code
def yX7_laws : MethodName := ⟨RX7, "laws", "(II)I"⟩
abbrev cX7_film : ByteArray := prog_9_method_72_code
def yX7_film : MethodName := ⟨RX7, "film", "(III)I"⟩
abbrev cX7_snows : ByteArray := prog_9_method_73_code
def yX7_snows : MethodName := ⟨RX7, "snows", "(II)I"⟩
abbrev cX7_drawn : ByteArray := prog_9_method_74_code
def yX7_drawn : MethodName := ⟨RX7, "drawn", "(III)I"⟩
abbrev cX7_lowest : ByteArray := prog_9_method_75_code
def yX7_lowest : MethodName := ⟨RX7, "lowest", "(JJI)J"⟩
abbrev cX7_odds : ByteArray := prog_9_method_76_code
def yX7_odds : MethodName := ⟨RX7, "odds", "(IIIII)J"⟩
abbrev cX7_image : ByteArray := prog_9_method_77_code
def yX7_image : MethodName := ⟨RX7, "image", "()I"⟩
abbrev cX7_back : ByteArray := prog_9_method_78_code
def yX7_back : MethodName := ⟨RX7, "back", "()I"⟩
abbrev cX7_sheet : ByteArray := prog_9_method_79_code
def yX7_sheet : MethodName := ⟨RX7, "sheet", "(III)I"⟩
abbrev cX7_cell : ByteArray := prog_9_method_80_code
def yX7_cell : MethodName := ⟨RX7, "cell", "(III)I"⟩
abbrev cX7_copy : ByteArray := prog_9_method_81_code
def yX7_copy : MethodName := ⟨RX7, "copy", "(IIIII)I"⟩
abbrev cX7_hutsBy : ByteArray := prog_9_method_82_code
def yX7_hutsBy : MethodName := ⟨RX7, "hutsBy", "(IIII)I"⟩
abbrev cX7_isUnder : ByteArray := prog_9_method_83_code
def yX7_isUnder : MethodName := ⟨RX7, "isUnder", "(II)Z"⟩
abbrev cX7_taken : ByteArray := prog_9_method_84_code
def yX7_taken : MethodName := ⟨RX7, "taken", "(II)I"⟩
def RJ6 : String := "java/lang/Integer"
def TJ6 : u_T := fun k => match k with
  | _ => ("", "", "", false)
def tyJ6 : Nat → FieldType := fun k => match k with
  | _ => .int
abbrev wsJ60 : List Cond := u_ws RJ6 TJ6 0
theorem nmJ6 : ∀ a, a < 0 → ∀ b, b < 0 → a ≠ b → (TJ6 a).2.1 ≠ (TJ6 b).2.1 := by decide +kernel
theorem tyJ6_ok : ∀ k, k < 0 → parseFieldDescriptor (TJ6 k).2.2.1 = some (tyJ6 k) := by decide +kernel
abbrev cJ6_bitCount_0f7a4 : ByteArray := prog_10_method_49_code
def yJ6_bitCount_0f7a4 : MethodName := ⟨RJ6, "bitCount", "(I)I"⟩
def RJ9 : String := "java/lang/Math"
def TJ9 : u_T := fun k => match k with
  | _ => ("", "", "", false)
def tyJ9 : Nat → FieldType := fun k => match k with
  | _ => .int
abbrev wsJ90 : List Cond := u_ws RJ9 TJ9 0
theorem nmJ9 : ∀ a, a < 0 → ∀ b, b < 0 → a ≠ b → (TJ9 a).2.1 ≠ (TJ9 b).2.1 := by decide +kernel
theorem tyJ9_ok : ∀ k, k < 0 → parseFieldDescriptor (TJ9 k).2.2.1 = some (tyJ9 k) := by decide +kernel
abbrev cJ9_max_7cf53 : ByteArray := prog_11_method_65_code
def yJ9_max_7cf53 : MethodName := ⟨RJ9, "max", "(II)I"⟩
abbrev cJ9_min_7cf53 : ByteArray := prog_11_method_69_code
def yJ9_min_7cf53 : MethodName := ⟨RJ9, "min", "(II)I"⟩
def RJ0 : String := "java/lang/String"
def TJ0 : u_T := fun k => match k with
  | _ => ("", "", "", false)
def tyJ0 : Nat → FieldType := fun k => match k with
  | _ => .int
abbrev wsJ00 : List Cond := u_ws RJ0 TJ0 0
theorem nmJ0 : ∀ a, a < 0 → ∀ b, b < 0 → a ≠ b → (TJ0 a).2.1 ≠ (TJ0 b).2.1 := by decide +kernel
theorem tyJ0_ok : ∀ k, k < 0 → parseFieldDescriptor (TJ0 k).2.2.1 = some (tyJ0 k) := by decide +kernel
abbrev cJ0_length_8abf5 : ByteArray := prog_12_method_54_code
def yJ0_length_8abf5 : MethodName := ⟨RJ0, "length", "()I"⟩
abbrev cJ0_charAt_5068e : ByteArray := prog_12_method_56_code
def yJ0_charAt_5068e : MethodName := ⟨RJ0, "charAt", "(I)C"⟩
abbrev cJ0_coder_7d493 : ByteArray := prog_12_method_152_code
def yJ0_coder_7d493 : MethodName := ⟨RJ0, "coder", "()B"⟩
abbrev cJ0_isLatin1_aae02 : ByteArray := prog_12_method_154_code
def yJ0_isLatin1_aae02 : MethodName := ⟨RJ0, "isLatin1", "()Z"⟩
abbrev cJ0_checkIndex_df160 : ByteArray := prog_12_method_155_code
def yJ0_checkIndex_df160 : MethodName := ⟨RJ0, "checkIndex", "(II)V"⟩
def RJ1 : String := "java/lang/StringLatin1"
def TJ1 : u_T := fun k => match k with
  | _ => ("", "", "", false)
def tyJ1 : Nat → FieldType := fun k => match k with
  | _ => .int
abbrev wsJ10 : List Cond := u_ws RJ1 TJ1 0
theorem nmJ1 : ∀ a, a < 0 → ∀ b, b < 0 → a ≠ b → (TJ1 a).2.1 ≠ (TJ1 b).2.1 := by decide +kernel
theorem tyJ1_ok : ∀ k, k < 0 → parseFieldDescriptor (TJ1 k).2.2.1 = some (tyJ1 k) := by decide +kernel
abbrev cJ1_charAt_3b067 : ByteArray := prog_13_method_2_code
def yJ1_charAt_3b067 : MethodName := ⟨RJ1, "charAt", "([BI)C"⟩
def RJ2 : String := "java/lang/StringUTF16"
def TJ2 : u_T := fun k => match k with
  | _ => ("", "", "", false)
def tyJ2 : Nat → FieldType := fun k => match k with
  | _ => .int
abbrev wsJ20 : List Cond := u_ws RJ2 TJ2 0
theorem nmJ2 : ∀ a, a < 0 → ∀ b, b < 0 → a ≠ b → (TJ2 a).2.1 ≠ (TJ2 b).2.1 := by decide +kernel
theorem tyJ2_ok : ∀ k, k < 0 → parseFieldDescriptor (TJ2 k).2.2.1 = some (tyJ2 k) := by decide +kernel
abbrev cJ2_getChar_3b067 : ByteArray := prog_14_method_5_code
def yJ2_getChar_3b067 : MethodName := ⟨RJ2, "getChar", "([BI)C"⟩
abbrev cJ2_length_9d52b : ByteArray := prog_14_method_6_code
def yJ2_length_9d52b : MethodName := ⟨RJ2, "length", "([B)I"⟩
abbrev cJ2_charAt_3b067 : ByteArray := prog_14_method_83_code
def yJ2_charAt_3b067 : MethodName := ⟨RJ2, "charAt", "([BI)C"⟩
abbrev cJ2_checkIndex_2214a : ByteArray := prog_14_method_91_code
def yJ2_checkIndex_2214a : MethodName := ⟨RJ2, "checkIndex", "(I[B)V"⟩
def RJ10 : String := "java/lang/System"
def TJ10 : u_T := fun k => match k with
  | _ => ("", "", "", false)
def tyJ10 : Nat → FieldType := fun k => match k with
  | _ => .int
abbrev wsJ100 : List Cond := u_ws RJ10 TJ10 0
theorem nmJ10 : ∀ a, a < 0 → ∀ b, b < 0 → a ≠ b → (TJ10 a).2.1 ≠ (TJ10 b).2.1 := by decide +kernel
theorem tyJ10_ok : ∀ k, k < 0 → parseFieldDescriptor (TJ10 k).2.2.1 = some (tyJ10 k) := by decide +kernel
def RJ3 : String := "jdk/internal/util/Preconditions"
def TJ3 : u_T := fun k => match k with
  | _ => ("", "", "", false)
def tyJ3 : Nat → FieldType := fun k => match k with
  | _ => .int
abbrev wsJ30 : List Cond := u_ws RJ3 TJ3 0
theorem nmJ3 : ∀ a, a < 0 → ∀ b, b < 0 → a ≠ b → (TJ3 a).2.1 ≠ (TJ3 b).2.1 := by decide +kernel
theorem tyJ3_ok : ∀ k, k < 0 → parseFieldDescriptor (TJ3 k).2.2.1 = some (tyJ3 k) := by decide +kernel
abbrev cJ3_checkIndex_8e157 : ByteArray := prog_16_method_11_code
def yJ3_checkIndex_8e157 : MethodName := ⟨RJ3, "checkIndex", "(IILjava/util/function/BiFunction;)I"⟩
def RL : String := "CoalIsLentLaw"
abbrev cL_law : ByteArray := code
def yL_law : MethodName := ⟨RL, "law", "([I)Z"⟩
abbrev vwCl : List vw_C := [(RX2, TX2, 10), (RX3, TX3, 3), (RX4, TX4, 4), (RX5, TX5, 15), (RX6, TX6, 8), (RX7, TX7, 37)]
end
section
-- THE ABSTRACT MACHINE: memory as a function of cell number and place; a layout that says what each cell is; the judgement zG over W
def zW : List Cond := lw_tbl.filter goodWord
theorem zW_good : GoodIn zW zW := fun w h => ⟨h, good_of_word (List.mem_filter.mp h).2⟩
theorem zin {w : Cond} (i : Nat) (h : tables_1[i]? = some w) (g : goodWord w = true) : w ∈ zW := List.mem_filter.mpr ⟨List.mem_append_right _ (List.mem_of_getElem? h), g⟩
theorem zinp {w : Cond} (i : Nat) (h : (k2_sels lw_privs)[i]? = some w) (g : goodWord w = true) : w ∈ zW := List.mem_filter.mpr ⟨List.mem_append_left _ (List.mem_of_getElem? h), g⟩
theorem zW_tbl {args : Array Value} {s : State} (h : ∀ w ∈ lw_tbl, w.before args s = true) : ∀ w ∈ zW, w.before args s = true := fun w hw => h w (List.mem_filter.mp hw).1
abbrev zMem : Type := Nat → Nat → Int32
abbrev zLE : Type := Nat ⊕ (Nat × List (Option (Option Nat)))
abbrev zLay : Type := List zLE
abbrev zLs : Type := List (Option Value)
def zUp (σ : zMem) (a k : Nat) (v : Int32) : zMem := fun x => if x = a then upd (σ a) k v else σ x
def zcv (b : Nat) (ext : Nat → Nat) (a : Nat) : Nat := if a < 1000 then b + a else ext (a - 1000)
def zV (cv : Nat → Nat) (v : Value) : Value := match v with
  | .ref a => .ref (cv a)
  | w => w
def zFV (cv : Nat → Nat) (x : Int32) (t : Option (Option Nat)) : Value := match t with
  | none => .int x
  | some none => .null
  | some (some j) => .ref (cv j)
def zFs (cv : Nat → Nat) (f : Nat → Int32) : Nat → List (Option (Option Nat)) → List Value
  | _, [] => []
  | k, t :: r => zFV cv (f k) t :: zFs cv f (k + 1) r
def zCell (cv : Nat → Nat) (cA : ClassId) (f : Nat → Int32) (e : zLE) : va_E := match e with
  | .inl n => .inl (cA, n, .inl f)
  | .inr o => .inr (o.1, zFs cv f 0 o.2)
def zWs (cv : Nat → Nat) (cA : ClassId) (σ : zMem) : Nat → zLay → va_W
  | _, [] => []
  | a, e :: r => (cv a, zCell cv cA (σ a) e) :: zWs cv cA σ (a + 1) r
theorem zFs_get (cv : Nat → Nat) (f : Nat → Int32) : ∀ (fs : List (Option (Option Nat))) (j k : Nat) (t : Option (Option Nat)), fs[k]? = some t → (zFs cv f j fs)[k]? = some (zFV cv (f (j + k)) t)
  | [], j, k, t, h => by simp at h
  | u :: r, j, 0, t, h => by
    simp only [List.getElem?_cons_zero, Option.some.injEq] at h
    subst h
    simp [zFs]
  | u :: r, j, k + 1, t, h => by
    simp only [List.getElem?_cons_succ] at h
    have h2 := zFs_get cv f r (j + 1) k t h
    simp only [zFs, List.getElem?_cons_succ, h2]
    rw [show j + 1 + k = j + (k + 1) by omega]
theorem zFs_len (cv : Nat → Nat) (f : Nat → Int32) : ∀ (fs : List (Option (Option Nat))) (j : Nat), (zFs cv f j fs).length = fs.length
  | [], j => rfl
  | u :: r, j => by simp [zFs, zFs_len cv f r (j + 1)]
theorem zFs_out (cv : Nat → Nat) (f : Nat → Int32) (v : Int32) (i : Nat) : ∀ (fs : List (Option (Option Nat))) (j : Nat), i < j → zFs cv (upd f i v) j fs = zFs cv f j fs
  | [], j, h => rfl
  | u :: r, j, h => by
    simp only [zFs, zFs_out cv f v i r (j + 1) (by omega)]
    rw [show upd f i v j = f j by simp [upd]; omega]
theorem zFs_setI (cv : Nat → Nat) (f : Nat → Int32) (v : Int32) : ∀ (fs : List (Option (Option Nat))) (j k : Nat), fs[k]? = some none → (zFs cv f j fs).set k (.int v) = zFs cv (upd f (j + k) v) j fs
  | [], j, k, h => by simp at h
  | u :: r, j, 0, h => by
    simp only [List.getElem?_cons_zero, Option.some.injEq] at h
    subst h
    simp only [zFs, List.set_cons_zero, Nat.add_zero]
    rw [zFs_out cv f v j r (j + 1) (by omega)]
    simp [zFV, upd]
  | u :: r, j, k + 1, h => by
    simp only [List.getElem?_cons_succ] at h
    have h2 := zFs_setI cv f v r (j + 1) k h
    simp only [zFs, List.set_cons_succ, h2]
    rw [show j + 1 + k = j + (k + 1) by omega]
    rw [show upd f (j + (k + 1)) v j = f j by simp [upd]]
theorem zFs_setR (cv : Nat → Nat) (f : Nat → Int32) (q : Nat) : ∀ (fs : List (Option (Option Nat))) (j k : Nat), k < fs.length → (zFs cv f j fs).set k (.ref (cv q)) = zFs cv f j (fs.set k (some (some q)))
  | [], j, k, h => by simp at h
  | u :: r, j, 0, h => by simp [zFs, zFV]
  | u :: r, j, k + 1, h => by
    simp only [zFs, List.set_cons_succ, zFs_setR cv f q r (j + 1) k (by simpa using h)]
theorem zWs_get (cv : Nat → Nat) (cA : ClassId) (σ : zMem) : ∀ (Λ : zLay) (j a : Nat) (e : zLE), Λ[a]? = some e → (zWs cv cA σ j Λ)[a]? = some (cv (j + a), zCell cv cA (σ (j + a)) e)
  | [], j, a, e, h => by simp at h
  | u :: r, j, 0, e, h => by
    simp only [List.getElem?_cons_zero, Option.some.injEq] at h
    subst h
    simp [zWs]
  | u :: r, j, a + 1, e, h => by
    simp only [List.getElem?_cons_succ] at h
    have h2 := zWs_get cv cA σ r (j + 1) a e h
    simp only [zWs, List.getElem?_cons_succ, h2]
    rw [show j + 1 + a = j + (a + 1) by omega]
theorem zWs_at {cv : Nat → Nat} {cA : ClassId} {σ : zMem} {Λ : zLay} {a : Nat} {e : zLE} (h : Λ[a]? = some e) : (zWs cv cA σ 0 Λ)[a]? = some (cv a, zCell cv cA (σ a) e) := by
  have := zWs_get cv cA σ Λ 0 a e h
  rwa [Nat.zero_add] at this
theorem zWs_inv (cv : Nat → Nat) (cA : ClassId) (σ : zMem) : ∀ (Λ : zLay) (j a : Nat) (q : Nat × va_E), (zWs cv cA σ j Λ)[a]? = some q → a < Λ.length ∧ q.1 = cv (j + a)
  | [], j, a, q, h => by simp [zWs] at h
  | u :: r, j, 0, q, h => by
    simp only [zWs, List.getElem?_cons_zero, Option.some.injEq] at h
    subst h
    simp
  | u :: r, j, a + 1, q, h => by
    simp only [zWs, List.getElem?_cons_succ] at h
    have h2 := zWs_inv cv cA σ r (j + 1) a q h
    refine ⟨by simp; omega, ?_⟩
    rw [h2.2, show j + 1 + a = j + (a + 1) by omega]
theorem zWs_congr (cv : Nat → Nat) (cA : ClassId) (σ τ : zMem) : ∀ (Λ : zLay) (j : Nat), (∀ a, j ≤ a → a < j + Λ.length → σ a = τ a) → zWs cv cA σ j Λ = zWs cv cA τ j Λ
  | [], j, h => rfl
  | u :: r, j, h => by
    simp only [zWs]
    rw [h j (Nat.le_refl _) (by simp), zWs_congr cv cA σ τ r (j + 1) (fun a h1 h2 => h a (by omega) (by simp; omega))]
theorem zWs_set (cv : Nat → Nat) (cA : ClassId) (σ τ : zMem) (e' : zLE) : ∀ (Λ : zLay) (j a : Nat), a < Λ.length → (∀ x, x ≠ j + a → τ x = σ x) → (zWs cv cA σ j Λ).set a (cv (j + a), zCell cv cA (τ (j + a)) e') = zWs cv cA τ j (Λ.set a e')
  | [], j, a, h, hd => by simp at h
  | u :: r, j, 0, h, hd => by
    simp only [zWs, List.set_cons_zero, Nat.add_zero]
    rw [zWs_congr cv cA σ τ r (j + 1) (fun a h1 h2 => (hd a (by omega)).symm)]
  | u :: r, j, a + 1, h, hd => by
    have h2 := zWs_set cv cA σ τ e' r (j + 1) a (by simpa using h) (fun x hx => hd x (by omega))
    simp only [zWs, List.set_cons_succ]
    rw [show j + 1 + a = j + (a + 1) by omega] at h2
    rw [h2, hd j (by omega)]
theorem zWs_set0 {cv : Nat → Nat} {cA : ClassId} {σ τ : zMem} {e' : zLE} {Λ : zLay} {a : Nat} (h : a < Λ.length) (hd : ∀ x, x ≠ a → τ x = σ x) : (zWs cv cA σ 0 Λ).set a (cv a, zCell cv cA (τ a) e') = zWs cv cA τ 0 (Λ.set a e') := by
  have := zWs_set cv cA σ τ e' Λ 0 a h (fun x hx => hd x (by omega))
  rwa [Nat.zero_add] at this
theorem zWs_app (cv : Nat → Nat) (cA : ClassId) (σ : zMem) (e : zLE) : ∀ (Λ : zLay) (j : Nat), zWs cv cA σ j (Λ ++ [e]) = zWs cv cA σ j Λ ++ [(cv (j + Λ.length), zCell cv cA (σ (j + Λ.length)) e)]
  | [], j => by simp [zWs]
  | u :: r, j => by
    simp only [List.cons_append, zWs, zWs_app cv cA σ e r (j + 1)]
    rw [show j + 1 + r.length = j + (u :: r).length by simp; omega]
theorem zWs_len (cv : Nat → Nat) (cA : ClassId) (σ : zMem) : ∀ (Λ : zLay) (j : Nat), (zWs cv cA σ j Λ).length = Λ.length
  | [], j => rfl
  | u :: r, j => by simp [zWs, zWs_len cv cA σ r (j + 1)]
theorem zset_same {α : Type} : ∀ (l : List α) (a : Nat) (e : α), l[a]? = some e → l.set a e = l
  | [], a, e, h => rfl
  | u :: r, 0, e, h => by
    simp only [List.getElem?_cons_zero, Option.some.injEq] at h
    rw [h]; rfl
  | u :: r, a + 1, e, h => by
    simp only [List.getElem?_cons_succ] at h
    rw [List.set_cons_succ, zset_same r a e h]
theorem zUp_self (σ : zMem) (a k : Nat) (v : Int32) : zUp σ a k v a = upd (σ a) k v := by simp [zUp]
theorem zUp_ne {σ : zMem} {a k x : Nat} {v : Int32} (h : x ≠ a) : zUp σ a k v x = σ x := by simp [zUp, h]
theorem zcv_lt {b : Nat} {ext : Nat → Nat} {a : Nat} (h : a < 1000) : zcv b ext a = b + a := by simp [zcv, h]
-- what is outside: the String constants, statics, the nest's links
def zBy (s : String) : List Int32 := s.toList.map (fun c => (Int32.ofNat c.toNat))
abbrev zStr : List (String × Nat × String) := [("CoalIsLent", 23, "grows 1 + coal < 99 ; cools 2 ; burns 10 ;"), ("CoalIsLent$Reader", 112, "grows"), ("CoalIsLent$Reader", 118, "cools"), ("CoalIsLent$Reader", 120, "burns"), ("CoalIsLent$Reader", 122, "or"), ("CoalIsLent$Reader", 124, "and"), ("CoalIsLent$Reader", 126, "not"), ("CoalIsLent$Reader", 128, "heat"), ("CoalIsLent$Reader", 130, "wood"), ("CoalIsLent$Reader", 132, "night"), ("CoalIsLent$Reader", 134, "coal"), ("CoalIsLent$Reader", 136, "owed"), ("CoalIsLent$Reader", 138, "more")]
def zLen : List Nat := [42, 5, 5, 5, 2, 3, 3, 4, 4, 5, 4, 4, 4]
def zByt : List (List Int32) := [[103, 114, 111, 119, 115, 32, 49, 32, 43, 32, 99, 111, 97, 108, 32, 60, 32, 57, 57, 32, 59, 32, 99, 111, 111, 108, 115, 32, 50, 32, 59, 32, 98, 117, 114, 110, 115, 32, 49, 48, 32, 59], [103, 114, 111, 119, 115], [99, 111, 111, 108, 115], [98, 117, 114, 110, 115], [111, 114], [97, 110, 100], [110, 111, 116], [104, 101, 97, 116], [119, 111, 111, 100], [110, 105, 103, 104, 116], [99, 111, 97, 108], [111, 119, 101, 100], [109, 111, 114, 101]]
def zAb : List Int32 := [-1, 0, 0, 1, 2, 0]
abbrev zNest : List (String × Nat × MethodName × String) := [("CoalIsLent", 9, ⟨"CoalIsLent$Texts", "<init>", "()V"⟩, "CoalIsLent"), ("CoalIsLent", 18, ⟨"CoalIsLent$Reader", "<init>", "()V"⟩, "CoalIsLent"), ("CoalIsLent$Reader", 149, ⟨"CoalIsLent", "isFromTo", "(III)Z"⟩, "CoalIsLent"), ("CoalIsLent", 66, ⟨"CoalIsLent$Sheets", "<init>", "()V"⟩, "CoalIsLent"), ("CoalIsLent$World", 67, ⟨"CoalIsLent", "isFromTo", "(III)Z"⟩, "CoalIsLent"), ("CoalIsLent$World", 76, ⟨"CoalIsLent", "has", "(II)Z"⟩, "CoalIsLent")]
abbrev zA (b : Nat) : Nat → Prop := fun q => b ≤ q
def zExt (b : Nat) (ext : Nat → Nat) (U : State) (H : Heap) : Prop :=
  vk_S 13 zLen zByt (fun i => ext i) (fun i => ext (20 + i)) (zA b) U H ∧ (∀ (i : Nat) (q : String × Nat × String), zStr[i]? = some q → vk_R q.1 q.2.1 q.2.2 (ext i) U) ∧
  va_Z "java/lang/String" "COMPACT_STRINGS" "Z" (.int 1) (zA b) U H ∧
  (va_Z "jdk/internal/util/Preconditions" "SIOOBE_FORMATTER" "Ljava/util/function/BiFunction;" .null (zA b) U H ∨ va_Z "jdk/internal/util/Preconditions" "SIOOBE_FORMATTER" "Ljava/util/function/BiFunction;" (.ref (ext 40)) (zA b) U H) ∧
  (va_Z "CoalIsLent$Kinds" "ABOVE" "[I" (.ref (ext 41)) (zA b) U H ∧ va_T .int (ext 41) 6 (fun j => .int (zAb.getD j 0)) (zA b) U H) ∧
  (∀ (i : Nat) (q : String × Nat × MethodName × String), zNest[i]? = some q → va_Nw (.methodLinkNest q.1 q.2.1 q.2.2.1 q.2.2.2) U)
def zKst (D : va_G) (cA : ClassId) (b : Nat) (ext : Nat → Nat) (U : State) (H : Heap) : Prop := va_K D vwCl [(cA, .int)] U ∧ zExt b ext U H
theorem zKst.go {D : va_G} {cA : ClassId} {b : Nat} {ext : Nat → Nat} {s U : State} {H0 H : Heap} {locs : List Loc} (h : zKst D cA b ext s H0) (hS : va_S (zA b) H0 H locs) (hW : s.WarmedH U.vm) : zKst D cA b ext U H := by
  obtain ⟨hK, h1, h2, h3, h4, ⟨h5, h6⟩, h7⟩ := h
  have hk : ∀ a : Nat, a < H0.size → ¬ zA b a → H[a]? = H0[a]? := hS.2.1
  refine ⟨va_K.moved hW.alike hK, (h1.kept hk).moved hW.alike, fun i q hq => (h2 i q hq).warm hW, (h3.kept hk).moved hW.alike, ?_, ⟨(h5.kept hk).moved hW.alike, (h6.kept hk).moved hW.alike⟩, fun i q hq => va_Nw.warmM hW (h7 i q hq)⟩
  rcases h4 with h4 | h4
  · exact Or.inl ((h4.kept hk).moved hW.alike)
  · exact Or.inr ((h4.kept hk).moved hW.alike)
def zPic (D : va_G) (cA : ClassId) (b : Nat) (ext : Nat → Nat) (Λ : zLay) (σ : zMem) (H : Heap) : Prop := va_P D vwCl (zWs (zcv b ext) cA σ 0 Λ) H ∧ H.size = b + Λ.length ∧ Λ.length ≤ 1000
theorem zPic.D {D : va_G} {cA : ClassId} {b : Nat} {ext : Nat → Nat} {Λ : zLay} {σ : zMem} {H : Heap} (h : zPic D cA b ext Λ σ H) : va_D (zA b) (zWs (zcv b ext) cA σ 0 Λ) := by
  have hx : ∀ (i : Nat) (p : Nat × va_E), (zWs (zcv b ext) cA σ 0 Λ)[i]? = some p → p.1 = b + i := by
    intro i p hp
    have h1 := zWs_inv _ _ _ Λ 0 i p hp
    rw [h1.2, Nat.zero_add, zcv_lt (Nat.lt_of_lt_of_le h1.1 h.2.2)]
  refine ⟨fun i j p q hp hq e => ?_, fun k q hq => ?_⟩
  · have h1 := hx i p hp
    have h2 := hx j q hq
    omega
  · show b ≤ q.1
    have h1 := hx k q hq
    omega
def zroom (d mc ms : Nat) : Room := { frames := d, cells := mc, slots := ms, locals := 64 * d }
def zPre (D : va_G) (cA : ClassId) (b : Nat) (ext : Nat → Nat) (Λ : zLay) (σ : zMem) (U : State) : Prop := zPic D cA b ext Λ σ U.heap ∧ zKst D cA b ext U U.heap
def zPost (D : va_G) (cA : ClassId) (b : Nat) (ext : Nat → Nat) (R : Option Value) (Λ : zLay) (S : zMem) : Array Value → State → Outcome → State → Prop := fun _ st o t => o = .returned (R.map (zV (zcv b ext))) ∧ zPic D cA b ext Λ S t.heap ∧ va_F (zA b) st t
def zMet (l : Launch) (y : MethodName) (c : Cond) (d mc ms : Nat) (args : List Value) (Λ : zLay) (σ : zMem) (R : Option Value) (Λ' : zLay) (S : zMem) : Prop :=
  ∀ (D : va_G) (cA : ClassId) (b : Nat) (ext : Nat → Nat), Met l y (c :: zW) (zroom d mc ms) (va_Pc (args.map (zV (zcv b ext))) (zPre D cA b ext Λ σ)) (zPost D cA b ext R Λ' S) mc ms (zA b)
def zHas (cv : Nat → Nat) (ls : Array Slot) (nL : Nat) (L : zLs) : Prop := ls.size = nL ∧ lv_wf ls ∧ ∀ (i : Nat) (v : Value), L[i]? = some (some v) → ls[i]? = some (.val (zV cv v))
abbrev zGT : Type := Nat → zLs → List Value → zLay → zMem → Nat → Nat → Prop
def zG (p : Program) (l : Launch) (e : Env) (R : Room) (s : State) (m : MethodId) (args : Array Value) (below : List Frame) (meth : Method) (c : Code) (D : va_G) (cA : ClassId) (b : Nat) (ext : Nat → Nat) (nL : Nat) (Q : State → Prop) : zGT := fun pc L st Λ σ k n =>
  ∀ (H : Heap) (locs : List Loc) (ls : Array Slot), zPic D cA b ext Λ σ H → va_S (zA b) s.heap H locs → zHas (zcv b ext) ls nL L → W p l e R s m args below meth c H locs k n Q (F0 m pc ls (st.map (zV (zcv b ext))))
def zOk (G : zGT) (l : Launch) (cc : ByteArray) (own : String) (nL d C N : Nat) (ini : Bool) : Prop :=
  ∃ (p : Program) (e : Env) (R : Room) (s : State) (m : MethodId) (args : Array Value) (below : List Frame) (meth : Method) (c : Code) (D : va_G) (cA : ClassId) (b : Nat) (ext : Nat → Nat) (Q : State → Prop),
    G = zG p l e R s m args below meth c D cA b ext nL Q ∧ p.tables.exec = Jvm.exec ∧ c.code = cc ∧ c.maxLocals = nL ∧ s.vm.findClass own = some m.cls ∧ (∀ w ∈ zW, w.before args s = true) ∧ zKst D cA b ext s s.heap ∧ d ≤ R.frames ∧ 64 * d ≤ R.locals ∧ C ≤ R.cells ∧ N ≤ R.slots ∧ (ini = true → meth.name = "<init>") ∧ b ≤ s.heap.size
-- how a method's frame is left
def zR (G : zGT) (cc : ByteArray) (ret : Option FieldType) (T : Option Value × zMem) (Λ : zLay) (mc ms : Nat) : Prop :=
  (∀ (pc : Nat) (L : zLs) (x : Int32) (ty : FieldType), decode cc pc = .ok (.ireturn, 1) → ret = some ty → narrow ty (.int x) = .int x → T.1 = some (.int x) → G pc L [.int x] Λ T.2 mc ms) ∧
  (∀ (pc : Nat) (L : zLs) (x : Int64), decode cc pc = .ok (.lreturn, 1) → ret = some .long → T.1 = some (.long x) → G pc L [.long x] Λ T.2 mc ms) ∧
  (∀ (pc : Nat) (L : zLs), decode cc pc = .ok (.return_, 1) → ret = none → T.1 = none → G pc L [] Λ T.2 mc ms) ∧
  (∀ (pc : Nat) (L : zLs) (q : Nat) (n : String), decode cc pc = .ok (.areturn, 1) → ret = some (.object n) → T.1 = some (.ref q) → G pc L [.ref q] Λ T.2 mc ms)
theorem zHas_entry {cv : Nat → Nat} {n : Nat} (vs : List Value) (L : zLs) (h : (lg_sl (vs.map (zV cv))).length ≤ n) (hL : ∀ (i : Nat) (v : Value), L[i]? = some (some v) → (i, zV cv v) ∈ lv_args 0 (vs.map (zV cv))) : zHas cv ((lg_sl (vs.map (zV cv)) ++ List.replicate (n - (lg_sl (vs.map (zV cv))).length) Slot.unset).toArray) n L := by
  have h1 := lv_entry (vs.map (zV cv)) h
  exact ⟨h1.1, h1.2.1, fun i v hv => h1.2.2 (i, zV cv v) (hL i v hv)⟩
def zArgs : List Value → zLs
  | [] => []
  | v :: r => if v.category = 2 then some v :: none :: zArgs r else some v :: zArgs r
theorem zV_cat (cv : Nat → Nat) (v : Value) : (zV cv v).category = v.category := by cases v <;> rfl
theorem zArgs_in (cv : Nat → Nat) : ∀ (vs : List Value) (j i : Nat) (v : Value), (zArgs vs)[i]? = some (some v) → (j + i, zV cv v) ∈ lv_args j (vs.map (zV cv))
  | [], j, i, v, h => by simp [zArgs] at h
  | u :: r, j, i, v, h => by
    simp only [List.map_cons, lv_args, zV_cat]
    by_cases hu : u.category = 2
    · simp only [zArgs, hu, if_true] at h ⊢
      match i, h with
      | 0, h =>
        simp only [List.getElem?_cons_zero, Option.some.injEq] at h
        subst h
        exact List.mem_cons_self
      | 1, h => simp at h
      | i + 2, h =>
        simp only [List.getElem?_cons_succ] at h
        have := zArgs_in cv r (j + 2) i v h
        rw [show j + 2 + i = j + (i + 2) by omega] at this
        exact List.mem_cons_of_mem _ this
    · simp only [zArgs, hu, if_false] at h ⊢
      match i, h with
      | 0, h =>
        simp only [List.getElem?_cons_zero, Option.some.injEq] at h
        subst h
        exact List.mem_cons_self
      | i + 1, h =>
        simp only [List.getElem?_cons_succ] at h
        have := zArgs_in cv r (j + 1) i v h
        rw [show j + 1 + i = j + (i + 1) by omega] at this
        exact List.mem_cons_of_mem _ this
theorem zsl_len (cv : Nat → Nat) : ∀ vs : List Value, (lg_sl (vs.map (zV cv))).length = (zArgs vs).length
  | [] => rfl
  | u :: r => by
    have ih := zsl_len cv r
    simp only [lg_sl, List.map_cons, List.flatMap_cons, List.length_append, zV_cat] at ih ⊢
    rw [ih]
    by_cases hu : u.category = 2
    · simp [zArgs, hu]; omega
    · simp [zArgs, hu]; omega
theorem zM_of {l : Launch} {y : MethodName} {cc : ByteArray} {nL : Nat} {ret : Option FieldType} {d mc ms : Nat} {own : String} {ini : Bool} {args : List Value} {Λ Λ' : zLay} {σ : zMem} {T : Option Value × zMem}
    (hy : plainName y.cls = true) (hown : y.cls = own) (hi : ini = true → y.name = "<init>") (hl : (zArgs args).length ≤ nL) (L : zLs) (hL : zArgs args ++ List.replicate (nL - (zArgs args).length) none = L)
    (h : ∀ G : zGT, zOk G l cc own nL d mc ms ini → zR G cc ret T Λ' mc ms → G 0 L [] Λ σ 0 0) : zMet l y (.code y cc nL ret) d mc ms args Λ σ T.1 Λ' T.2 := by
  intro D cA b ext
  refine Met.ofW (cc := cc) (maxL := nL) (ret := ret) hy rfl ?_
  intro p e s m as below meth c s₁ B hml hv
  obtain ⟨rfl, hP, hK⟩ := hv
  have hx := B.exec
  have hb := B.bytes
  have hr := B.returns
  have hts := atoms_spec (ws := (Cond.code y cc nL ret) :: zW) B.pre
  have hownc : s.vm.findClass own = some m.cls := by rw [← hown]; exact findClass_of_methodNamed B.named
  have hlocks := B.notSynchronized
  have hin : ini = true → meth.name = "<init>" := fun q => by rw [(name_of_methodNamed B.named B.method).1]; exact hi q
  have hb0 : b ≤ s.heap.size := by rw [hP.2.1]; omega
  have hg := h (zG p l e (headSpec ((Cond.code y cc nL ret) :: zW) (zroom d mc ms)).room s m (args.map (zV (zcv b ext))).toArray below meth c D cA b ext nL (MQ below (zPost D cA b ext T.1 Λ' T.2) (args.map (zV (zcv b ext))).toArray s mc ms (zA b)))
    ⟨p, e, _, s, m, _, below, meth, c, D, cA, b, ext, _, rfl, hx, hb, hml, hownc, fun w hw => hts w (List.mem_cons_of_mem _ hw), hK, Nat.le_refl _, Nat.le_refl _, Nat.le_refl _, Nat.le_refl _, hin, hb0⟩ ?_
  · rw [lg_entry_eq]
    refine hg s.heap [] _ hP va_S.rf ?_
    have hz : (lg_sl (args.map (zV (zcv b ext)))).length ≤ nL := by rw [zsl_len]; exact hl
    refine zHas_entry args L hz (fun i v hv => ?_)
    have h2 : (zArgs args)[i]? = some (some v) := by
      rw [← hL] at hv
      by_cases hi2 : i < (zArgs args).length
      · rwa [List.getElem?_append_left hi2] at hv
      · rw [List.getElem?_append_right (by omega), List.getElem?_replicate] at hv
        split at hv <;> simp at hv
    have := zArgs_in (zcv b ext) args 0 i v h2
    rwa [Nat.zero_add] at this
  · refine ⟨?_, ?_, ?_, ?_⟩
    · intro pc L x ty hd hret hn hT H locs ls hP2 hS hl2
      exact W.zret (v := x) hx hb (by rw [hr, hret]) hn (fun t ht hW => ⟨by rw [hT]; rfl, by rw [ht]; exact hP2, hS.F ht⟩) hS.2.2 hd
    · intro pc L x hd hret hT H locs ls hP2 hS hl2
      exact W.lret (v := x) hx hb (by rw [hr, hret]) (fun t ht hW => ⟨by rw [hT]; rfl, by rw [ht]; exact hP2, hS.F ht⟩) hS.2.2 hd
    · intro pc L hd hret hT H locs ls hP2 hS hl2
      exact W.vret hx hb (by rw [hr, hret]) (fun t ht hW => ⟨by rw [hT]; rfl, by rw [ht]; exact hP2, hS.F ht⟩) hS.2.2 hd
    · intro pc L q nm hd hret hT H locs ls hP2 hS hl2
      exact W.aret (v := .ref (zcv b ext q)) hx hb (by rw [hr, hret]) (Or.inl ⟨nm, rfl⟩) (Or.inr ⟨_, rfl⟩) (fun t ht hW => ⟨by rw [hT]; rfl, by rw [ht]; exact hP2, hS.F ht⟩) hS.2.2 hd
end
section
def zE {α : Type} (G : zGT) (T : Option Value × zMem) (enc : α → Option Value) (Λ : zLay) (k n : Nat) (pc : Nat) (L : zLs) (st : List Value) (σ : zMem) (e : Option (α × zMem)) : Prop := ∀ r S, e = some (r, S) → enc r = T.1 → S = T.2 → G pc L st Λ σ k n
def nm {α β : Sort _} (v : α) (e : α → β) : β := e v
def gd {α : Type} (c : Bool) (e : Option α) : Option α := if c = true then e else none
def bd {α β : Type} (m : Option (α × zMem)) (f : α → zMem → Option β) : Option β := match m with
  | none => none
  | some q => f q.1 q.2
abbrev zix (i : Int32) : Nat := i.toNatClampNeg
def zib (i : Int32) (n : Nat) : Bool := decide (0 ≤ i) && decide (zix i < n)
theorem zib_in {i : Int32} {n : Nat} (h : zib i n = true) : vp_in i n := by
  simp only [zib, Bool.and_eq_true, decide_eq_true_eq] at h
  rintro (q | q)
  · exact absurd h.1 (Int32.not_le.mpr q)
  · exact absurd h.2 (Nat.not_lt.mpr q)
theorem zE_weak {α : Type} {G : zGT} {l : Launch} {cc : ByteArray} {own : String} {nL d C N : Nat} {ini : Bool} {T : Option Value × zMem} {enc : α → Option Value} {Λ : zLay} {k n pc : Nat} {L L' : zLs} {st : List Value} {σ : zMem} {e : Option (α × zMem)} (h : zOk G l cc own nL d C N ini) (ms : List Bool) (hm : List.zipWith (fun (b : Bool) x => if b = true then x else none) ms L = L') (kk : zE G T enc Λ k n pc L' st σ e) : zE G T enc Λ k n pc L st σ e := by
  obtain ⟨p, e0, R, s, m, args, below, meth, c, D, cA, b, ext, Q, rfl, hx, hb, hml, hown, hts, hK, hfr, hlo, hC, hN, hini, hbs⟩ := h
  intro r S h1 h2 h3 H locs ls hP hS hl
  refine kk r S h1 h2 h3 H locs ls hP hS ⟨hl.1, hl.2.1, fun i v hv => hl.2.2 i v ?_⟩
  rw [← hm, List.getElem?_zipWith] at hv
  cases hx1 : ms[i]? with
  | none => simp [hx1] at hv
  | some b2 => cases hx2 : L[i]? with
    | none => simp [hx1, hx2] at hv
    | some w =>
      simp only [hx1, hx2, Option.some.injEq] at hv
      cases b2 with
      | false => simp at hv
      | true => simpa using hv
def zPr (cv : Nat → Nat) : Nat → zLs → List (Nat × Value)
  | _, [] => []
  | i, none :: r => zPr cv (i + 1) r
  | i, some v :: r => (i, zV cv v) :: zPr cv (i + 1) r
theorem zPr_in (cv : Nat → Nat) : ∀ (L : zLs) (j i : Nat) (v : Value), L[i]? = some (some v) → (j + i, zV cv v) ∈ zPr cv j L
  | [], j, i, v, h => by simp at h
  | u :: r, j, 0, v, h => by
    simp only [List.getElem?_cons_zero, Option.some.injEq] at h
    subst h
    exact List.mem_cons_self
  | u :: r, j, i + 1, v, h => by
    simp only [List.getElem?_cons_succ] at h
    have h2 := zPr_in cv r (j + 1) i v h
    rw [show j + 1 + i = j + (i + 1) by omega] at h2
    cases u with
    | none => exact h2
    | some w => exact List.mem_cons_of_mem _ h2
theorem zPr_of (cv : Nat → Nat) : ∀ (L : zLs) (j : Nat) (q : Nat × Value), q ∈ zPr cv j L → ∃ (i : Nat) (v : Value), L[i]? = some (some v) ∧ q = (j + i, zV cv v)
  | [], j, q, h => by simp [zPr] at h
  | none :: r, j, q, h => by
    obtain ⟨i, v, h1, h2⟩ := zPr_of cv r (j + 1) q h
    exact ⟨i + 1, v, by simpa using h1, by rw [h2, show j + 1 + i = j + (i + 1) by omega]⟩
  | some w :: r, j, q, h => by
    rcases List.mem_cons.mp h with h | h
    · exact ⟨0, w, by simp, h⟩
    · obtain ⟨i, v, h1, h2⟩ := zPr_of cv r (j + 1) q h
      exact ⟨i + 1, v, by simpa using h1, by rw [h2, show j + 1 + i = j + (i + 1) by omega]⟩
theorem zHas.lv {cv : Nat → Nat} {ls : Array Slot} {nL : Nat} {L : zLs} (h : zHas cv ls nL L) : lv_has ls nL (zPr cv 0 L) := by
  refine ⟨h.1, h.2.1, fun q hq => ?_⟩
  obtain ⟨i, v, h1, h2⟩ := zPr_of cv L 0 q hq
  subst h2
  simpa using h.2.2 i v h1
def zNl (L : zLs) (i : Nat) : Bool := match i with
  | 0 => true
  | j + 1 => match L[j]? with
    | some (some v) => v.category == 1
    | _ => true
theorem zset1 {cv : Nat → Nat} {ls : Array Slot} {nL i : Nat} {L L' : zLs} {v : Value} (hn : zNl L i = true) (hs : L.set i (some v) = L') (h : lv_has ls nL ((i, zV cv v) :: (zPr cv 0 L).filter (fun q => !(q.1 == i) && !(q.1 + 1 == i && q.2.category == 2)))) : zHas cv ls nL L' := by
  refine ⟨h.1, h.2.1, fun j w hw => ?_⟩
  subst hs
  by_cases hj : j = i
  · subst hj
    rw [List.getElem?_set] at hw
    simp only [if_true] at hw
    split at hw
    · simp only [Option.some.injEq] at hw
      subst hw
      exact h.2.2 _ List.mem_cons_self
    · cases hw
  · rw [List.getElem?_set_ne (fun q => hj q.symm)] at hw
    have hm := zPr_in cv L 0 j w hw
    rw [Nat.zero_add] at hm
    refine h.2.2 (j, zV cv w) (List.mem_cons_of_mem _ (List.mem_filter.mpr ⟨hm, ?_⟩))
    have h1 : (j == i) = false := by simp [hj]
    simp only [h1, Bool.not_false, Bool.true_and, Bool.not_eq_true']
    by_cases hji : j + 1 = i
    · subst hji
      simp only [zNl, hw, beq_iff_eq] at hn
      simp [zV_cat, hn]
    · simp [hji]
theorem zset2 {cv : Nat → Nat} {ls : Array Slot} {nL i : Nat} {L L' : zLs} {v : Value} (hn : zNl L i = true) (hs : (L.set i (some v)).set (i + 1) none = L') (h : lv_has ls nL ((i, zV cv v) :: (zPr cv 0 L).filter (fun q => !(q.1 == i) && (!(q.1 == i + 1) && !(q.1 + 1 == i && q.2.category == 2))))) : zHas cv ls nL L' := by
  refine ⟨h.1, h.2.1, fun j w hw => ?_⟩
  subst hs
  by_cases hj1 : j = i + 1
  · subst hj1
    rw [List.getElem?_set] at hw
    simp only [if_true] at hw
    split at hw <;> simp at hw
  rw [List.getElem?_set_ne (fun q => hj1 q.symm)] at hw
  by_cases hj : j = i
  · subst hj
    rw [List.getElem?_set] at hw
    simp only [if_true] at hw
    split at hw
    · simp only [Option.some.injEq] at hw
      subst hw
      exact h.2.2 _ List.mem_cons_self
    · cases hw
  · rw [List.getElem?_set_ne (fun q => hj q.symm)] at hw
    have hm := zPr_in cv L 0 j w hw
    rw [Nat.zero_add] at hm
    refine h.2.2 (j, zV cv w) (List.mem_cons_of_mem _ (List.mem_filter.mpr ⟨hm, ?_⟩))
    have h1 : (j == i) = false := by simp [hj]
    have h0 : (j == i + 1) = false := by simp [hj1]
    simp only [h1, h0, Bool.not_false, Bool.true_and, Bool.not_eq_true']
    by_cases hji : j + 1 = i
    · subst hji
      simp only [zNl, hw, beq_iff_eq] at hn
      simp [zV_cat, hn]
    · simp [hji]
theorem zCat (cv : Nat → Nat) (st : List Value) : ((st.map (zV cv)).map fun v => v.category).sum = (st.map fun v => v.category).sum := by
  rw [List.map_map]
  congr 1
  exact List.map_congr_left (fun v _ => zV_cat cv v)
theorem zW_size {p : Program} {l : Launch} {e : Env} {R : Room} {s : State} {m : MethodId} {args : Array Value} {below : List Frame} {meth : Method} {c : Code} {H : Heap} {locs : List Loc} {n : Nat} {Q : State → Prop} {g : JFrame} (hS : s.heap.size ≤ H.size) (kk : H.size = s.heap.size → W p l e R s m args below meth c H locs 0 n Q g) : W p l e R s m args below meth c H locs 0 n Q g := by
  intro T hT X
  refine kk ?_ T hT X
  have := X.heapSize
  rw [hT] at this
  omega

theorem ze_iconst {α : Type} {G : zGT} {l : Launch} {cc : ByteArray} {own : String} {nL d C N : Nat} {ini : Bool} {T : Option Value × zMem} {enc : α → Option Value} {Λ : zLay} {k n pc : Nat} {L : zLs} {st : List Value} {σ : zMem} {e : Option (α × zMem)} (h : zOk G l cc own nL d C N ini) {q : Int} (v : Int32) (hd : decode cc pc = .ok (.iconst q, 1)) (hv : Int32.ofInt q = v) (kk : zE G T enc Λ k n (pc + 1) L (.int v :: st) σ e) : zE G T enc Λ k n pc L st σ e := by
  obtain ⟨p, e0, R, s, m, args, below, meth, c, D, cA, b, ext, Q, rfl, hx, hb, hml, hown, hts, hK, hfr, hlo, hC, hN, hini, hbs⟩ := h
  intro r S h1 h2 h3 H locs ls hP hS hl
  exact lv_iconst hx hb hd hv (kk r S h1 h2 h3 H locs ls hP hS hl)
theorem ze_bipush {α : Type} {G : zGT} {l : Launch} {cc : ByteArray} {own : String} {nL d C N : Nat} {ini : Bool} {T : Option Value × zMem} {enc : α → Option Value} {Λ : zLay} {k n pc : Nat} {L : zLs} {st : List Value} {σ : zMem} {e : Option (α × zMem)} (h : zOk G l cc own nL d C N ini) {q : Int} (v : Int32) (hd : decode cc pc = .ok (.bipush q, 2)) (hv : (Int8.ofInt q).toInt32 = v) (kk : zE G T enc Λ k n (pc + 2) L (.int v :: st) σ e) : zE G T enc Λ k n pc L st σ e := by
  obtain ⟨p, e0, R, s, m, args, below, meth, c, D, cA, b, ext, Q, rfl, hx, hb, hml, hown, hts, hK, hfr, hlo, hC, hN, hini, hbs⟩ := h
  intro r S h1 h2 h3 H locs ls hP hS hl
  exact lv_bipush hx hb hd hv (kk r S h1 h2 h3 H locs ls hP hS hl)
theorem ze_sipush {α : Type} {G : zGT} {l : Launch} {cc : ByteArray} {own : String} {nL d C N : Nat} {ini : Bool} {T : Option Value × zMem} {enc : α → Option Value} {Λ : zLay} {k n pc : Nat} {L : zLs} {st : List Value} {σ : zMem} {e : Option (α × zMem)} (h : zOk G l cc own nL d C N ini) {q : Int} (v : Int32) (hd : decode cc pc = .ok (.sipush q, 3)) (hv : (Int16.ofInt q).toInt32 = v) (kk : zE G T enc Λ k n (pc + 3) L (.int v :: st) σ e) : zE G T enc Λ k n pc L st σ e := by
  obtain ⟨p, e0, R, s, m, args, below, meth, c, D, cA, b, ext, Q, rfl, hx, hb, hml, hown, hts, hK, hfr, hlo, hC, hN, hini, hbs⟩ := h
  intro r S h1 h2 h3 H locs ls hP hS hl
  exact lv_sipush hx hb hd hv (kk r S h1 h2 h3 H locs ls hP hS hl)
theorem ze_lconst {α : Type} {G : zGT} {l : Launch} {cc : ByteArray} {own : String} {nL d C N : Nat} {ini : Bool} {T : Option Value × zMem} {enc : α → Option Value} {Λ : zLay} {k n pc : Nat} {L : zLs} {st : List Value} {σ : zMem} {e : Option (α × zMem)} (h : zOk G l cc own nL d C N ini) {q : Fin 2} (v : Int64) (hd : decode cc pc = .ok (.lconst q, 1)) (hv : Int64.ofNat (q : Nat) = v) (kk : zE G T enc Λ k n (pc + 1) L (.long v :: st) σ e) : zE G T enc Λ k n pc L st σ e := by
  obtain ⟨p, e0, R, s, m, args, below, meth, c, D, cA, b, ext, Q, rfl, hx, hb, hml, hown, hts, hK, hfr, hlo, hC, hN, hini, hbs⟩ := h
  intro r S h1 h2 h3 H locs ls hP hS hl
  exact lv_lconst hx hb hd hv (kk r S h1 h2 h3 H locs ls hP hS hl)
theorem ze_iload_n {α : Type} {G : zGT} {l : Launch} {cc : ByteArray} {own : String} {nL d C N : Nat} {ini : Bool} {T : Option Value × zMem} {enc : α → Option Value} {Λ : zLay} {k n pc : Nat} {L : zLs} {st : List Value} {σ : zMem} {e : Option (α × zMem)} (h : zOk G l cc own nL d C N ini) {q : Fin 4} {x : Int32} (hd : decode cc pc = .ok (.iload_n q, 1)) (hL : L[(q : Nat)]? = some (some (.int x))) (kk : zE G T enc Λ k n (pc + 1) L (.int x :: st) σ e) : zE G T enc Λ k n pc L st σ e := by
  obtain ⟨p, e0, R, s, m, args, below, meth, c, D, cA, b, ext, Q, rfl, hx, hb, hml, hown, hts, hK, hfr, hlo, hC, hN, hini, hbs⟩ := h
  intro r S h1 h2 h3 H locs ls hP hS hl
  exact lv_iload_n hx hb hd rfl (hl.2.2 _ _ hL) (kk r S h1 h2 h3 H locs ls hP hS hl)
theorem ze_iload {α : Type} {G : zGT} {l : Launch} {cc : ByteArray} {own : String} {nL d C N : Nat} {ini : Bool} {T : Option Value × zMem} {enc : α → Option Value} {Λ : zLay} {k n pc : Nat} {L : zLs} {st : List Value} {σ : zMem} {e : Option (α × zMem)} (h : zOk G l cc own nL d C N ini) {q : Nat} {x : Int32} (hd : decode cc pc = .ok (.iload q, 2)) (hL : L[q]? = some (some (.int x))) (kk : zE G T enc Λ k n (pc + 2) L (.int x :: st) σ e) : zE G T enc Λ k n pc L st σ e := by
  obtain ⟨p, e0, R, s, m, args, below, meth, c, D, cA, b, ext, Q, rfl, hx, hb, hml, hown, hts, hK, hfr, hlo, hC, hN, hini, hbs⟩ := h
  intro r S h1 h2 h3 H locs ls hP hS hl
  exact lv_iload hx hb hd (hl.2.2 _ _ hL) (kk r S h1 h2 h3 H locs ls hP hS hl)
theorem ze_lload_n {α : Type} {G : zGT} {l : Launch} {cc : ByteArray} {own : String} {nL d C N : Nat} {ini : Bool} {T : Option Value × zMem} {enc : α → Option Value} {Λ : zLay} {k n pc : Nat} {L : zLs} {st : List Value} {σ : zMem} {e : Option (α × zMem)} (h : zOk G l cc own nL d C N ini) {q : Fin 4} {x : Int64} (hd : decode cc pc = .ok (.lload_n q, 1)) (hL : L[(q : Nat)]? = some (some (.long x))) (kk : zE G T enc Λ k n (pc + 1) L (.long x :: st) σ e) : zE G T enc Λ k n pc L st σ e := by
  obtain ⟨p, e0, R, s, m, args, below, meth, c, D, cA, b, ext, Q, rfl, hx, hb, hml, hown, hts, hK, hfr, hlo, hC, hN, hini, hbs⟩ := h
  intro r S h1 h2 h3 H locs ls hP hS hl
  exact lv_lload_n hx hb hd rfl (hl.2.2 _ _ hL) (kk r S h1 h2 h3 H locs ls hP hS hl)
theorem ze_lload {α : Type} {G : zGT} {l : Launch} {cc : ByteArray} {own : String} {nL d C N : Nat} {ini : Bool} {T : Option Value × zMem} {enc : α → Option Value} {Λ : zLay} {k n pc : Nat} {L : zLs} {st : List Value} {σ : zMem} {e : Option (α × zMem)} (h : zOk G l cc own nL d C N ini) {q : Nat} {x : Int64} (hd : decode cc pc = .ok (.lload q, 2)) (hL : L[q]? = some (some (.long x))) (kk : zE G T enc Λ k n (pc + 2) L (.long x :: st) σ e) : zE G T enc Λ k n pc L st σ e := by
  obtain ⟨p, e0, R, s, m, args, below, meth, c, D, cA, b, ext, Q, rfl, hx, hb, hml, hown, hts, hK, hfr, hlo, hC, hN, hini, hbs⟩ := h
  intro r S h1 h2 h3 H locs ls hP hS hl
  exact lv_lload hx hb hd (hl.2.2 _ _ hL) (kk r S h1 h2 h3 H locs ls hP hS hl)
theorem ze_aload_n {α : Type} {G : zGT} {l : Launch} {cc : ByteArray} {own : String} {nL d C N : Nat} {ini : Bool} {T : Option Value × zMem} {enc : α → Option Value} {Λ : zLay} {k n pc : Nat} {L : zLs} {st : List Value} {σ : zMem} {e : Option (α × zMem)} (h : zOk G l cc own nL d C N ini) {q : Fin 4} {x : Nat} (hd : decode cc pc = .ok (.aload_n q, 1)) (hL : L[(q : Nat)]? = some (some (.ref x))) (kk : zE G T enc Λ k n (pc + 1) L (.ref x :: st) σ e) : zE G T enc Λ k n pc L st σ e := by
  obtain ⟨p, e0, R, s, m, args, below, meth, c, D, cA, b, ext, Q, rfl, hx, hb, hml, hown, hts, hK, hfr, hlo, hC, hN, hini, hbs⟩ := h
  intro r S h1 h2 h3 H locs ls hP hS hl
  exact lv_aload_n hx hb hd rfl (hl.2.2 _ _ hL) (kk r S h1 h2 h3 H locs ls hP hS hl)
theorem ze_aload {α : Type} {G : zGT} {l : Launch} {cc : ByteArray} {own : String} {nL d C N : Nat} {ini : Bool} {T : Option Value × zMem} {enc : α → Option Value} {Λ : zLay} {k n pc : Nat} {L : zLs} {st : List Value} {σ : zMem} {e : Option (α × zMem)} (h : zOk G l cc own nL d C N ini) {q : Nat} {x : Nat} (hd : decode cc pc = .ok (.aload q, 2)) (hL : L[q]? = some (some (.ref x))) (kk : zE G T enc Λ k n (pc + 2) L (.ref x :: st) σ e) : zE G T enc Λ k n pc L st σ e := by
  obtain ⟨p, e0, R, s, m, args, below, meth, c, D, cA, b, ext, Q, rfl, hx, hb, hml, hown, hts, hK, hfr, hlo, hC, hN, hini, hbs⟩ := h
  intro r S h1 h2 h3 H locs ls hP hS hl
  exact lv_aload hx hb hd (hl.2.2 _ _ hL) (kk r S h1 h2 h3 H locs ls hP hS hl)
theorem ze_istore_n {α : Type} {G : zGT} {l : Launch} {cc : ByteArray} {own : String} {nL d C N : Nat} {ini : Bool} {T : Option Value × zMem} {enc : α → Option Value} {Λ : zLay} {k n pc : Nat} {L : zLs} {st : List Value} {σ : zMem} {e : Option (α × zMem)} (h : zOk G l cc own nL d C N ini) {q : Fin 4} {x : Int32} (L' : zLs) (hd : decode cc pc = .ok (.istore_n q, 1)) (hn : zNl L (q : Nat) = true) (hlt : (q : Nat) < nL) (hs : L.set (q : Nat) (some (.int x)) = L') (kk : zE G T enc Λ k n (pc + 1) L' st σ e) : zE G T enc Λ k n pc L (.int x :: st) σ e := by
  obtain ⟨p, e0, R, s, m, args, below, meth, c, D, cA, b, ext, Q, rfl, hx, hb, hml, hown, hts, hK, hfr, hlo, hC, hN, hini, hbs⟩ := h
  intro r S h1 h2 h3 H locs ls hP hS hl
  exact lv_istore_n hx hb hd rfl hl.lv hlt rfl (fun ls' hl' => kk r S h1 h2 h3 H locs ls' hP hS (zset1 hn hs hl'))
theorem ze_istore {α : Type} {G : zGT} {l : Launch} {cc : ByteArray} {own : String} {nL d C N : Nat} {ini : Bool} {T : Option Value × zMem} {enc : α → Option Value} {Λ : zLay} {k n pc : Nat} {L : zLs} {st : List Value} {σ : zMem} {e : Option (α × zMem)} (h : zOk G l cc own nL d C N ini) {q : Nat} {x : Int32} (L' : zLs) (hd : decode cc pc = .ok (.istore q, 2)) (hn : zNl L q = true) (hlt : q < nL) (hs : L.set q (some (.int x)) = L') (kk : zE G T enc Λ k n (pc + 2) L' st σ e) : zE G T enc Λ k n pc L (.int x :: st) σ e := by
  obtain ⟨p, e0, R, s, m, args, below, meth, c, D, cA, b, ext, Q, rfl, hx, hb, hml, hown, hts, hK, hfr, hlo, hC, hN, hini, hbs⟩ := h
  intro r S h1 h2 h3 H locs ls hP hS hl
  exact lv_istore hx hb hd hl.lv hlt rfl (fun ls' hl' => kk r S h1 h2 h3 H locs ls' hP hS (zset1 hn hs hl'))
theorem ze_lstore_n {α : Type} {G : zGT} {l : Launch} {cc : ByteArray} {own : String} {nL d C N : Nat} {ini : Bool} {T : Option Value × zMem} {enc : α → Option Value} {Λ : zLay} {k n pc : Nat} {L : zLs} {st : List Value} {σ : zMem} {e : Option (α × zMem)} (h : zOk G l cc own nL d C N ini) {q : Fin 4} {x : Int64} (L' : zLs) (hd : decode cc pc = .ok (.lstore_n q, 1)) (hn : zNl L (q : Nat) = true) (hlt : (q : Nat) + 1 < nL) (hs : (L.set (q : Nat) (some (.long x))).set ((q : Nat) + 1) none = L') (kk : zE G T enc Λ k n (pc + 1) L' st σ e) : zE G T enc Λ k n pc L (.long x :: st) σ e := by
  obtain ⟨p, e0, R, s, m, args, below, meth, c, D, cA, b, ext, Q, rfl, hx, hb, hml, hown, hts, hK, hfr, hlo, hC, hN, hini, hbs⟩ := h
  intro r S h1 h2 h3 H locs ls hP hS hl
  exact lv_lstore_n hx hb hd rfl hl.lv hlt rfl (fun ls' hl' => kk r S h1 h2 h3 H locs ls' hP hS (zset2 hn hs hl'))
theorem ze_lstore {α : Type} {G : zGT} {l : Launch} {cc : ByteArray} {own : String} {nL d C N : Nat} {ini : Bool} {T : Option Value × zMem} {enc : α → Option Value} {Λ : zLay} {k n pc : Nat} {L : zLs} {st : List Value} {σ : zMem} {e : Option (α × zMem)} (h : zOk G l cc own nL d C N ini) {q : Nat} {x : Int64} (L' : zLs) (hd : decode cc pc = .ok (.lstore q, 2)) (hn : zNl L q = true) (hlt : q + 1 < nL) (hs : (L.set q (some (.long x))).set (q + 1) none = L') (kk : zE G T enc Λ k n (pc + 2) L' st σ e) : zE G T enc Λ k n pc L (.long x :: st) σ e := by
  obtain ⟨p, e0, R, s, m, args, below, meth, c, D, cA, b, ext, Q, rfl, hx, hb, hml, hown, hts, hK, hfr, hlo, hC, hN, hini, hbs⟩ := h
  intro r S h1 h2 h3 H locs ls hP hS hl
  exact lv_lstore hx hb hd hl.lv hlt rfl (fun ls' hl' => kk r S h1 h2 h3 H locs ls' hP hS (zset2 hn hs hl'))
theorem ze_astore_n {α : Type} {G : zGT} {l : Launch} {cc : ByteArray} {own : String} {nL d C N : Nat} {ini : Bool} {T : Option Value × zMem} {enc : α → Option Value} {Λ : zLay} {k n pc : Nat} {L : zLs} {st : List Value} {σ : zMem} {e : Option (α × zMem)} (h : zOk G l cc own nL d C N ini) {q : Fin 4} {x : Nat} (L' : zLs) (hd : decode cc pc = .ok (.astore_n q, 1)) (hn : zNl L (q : Nat) = true) (hlt : (q : Nat) < nL) (hs : L.set (q : Nat) (some (.ref x)) = L') (kk : zE G T enc Λ k n (pc + 1) L' st σ e) : zE G T enc Λ k n pc L (.ref x :: st) σ e := by
  obtain ⟨p, e0, R, s, m, args, below, meth, c, D, cA, b, ext, Q, rfl, hx, hb, hml, hown, hts, hK, hfr, hlo, hC, hN, hini, hbs⟩ := h
  intro r S h1 h2 h3 H locs ls hP hS hl
  exact lv_astore_n hx hb hd rfl hl.lv hlt rfl (fun ls' hl' => kk r S h1 h2 h3 H locs ls' hP hS (zset1 hn hs hl'))
theorem ze_astore {α : Type} {G : zGT} {l : Launch} {cc : ByteArray} {own : String} {nL d C N : Nat} {ini : Bool} {T : Option Value × zMem} {enc : α → Option Value} {Λ : zLay} {k n pc : Nat} {L : zLs} {st : List Value} {σ : zMem} {e : Option (α × zMem)} (h : zOk G l cc own nL d C N ini) {q : Nat} {x : Nat} (L' : zLs) (hd : decode cc pc = .ok (.astore q, 2)) (hn : zNl L q = true) (hlt : q < nL) (hs : L.set q (some (.ref x)) = L') (kk : zE G T enc Λ k n (pc + 2) L' st σ e) : zE G T enc Λ k n pc L (.ref x :: st) σ e := by
  obtain ⟨p, e0, R, s, m, args, below, meth, c, D, cA, b, ext, Q, rfl, hx, hb, hml, hown, hts, hK, hfr, hlo, hC, hN, hini, hbs⟩ := h
  intro r S h1 h2 h3 H locs ls hP hS hl
  exact lv_astore hx hb hd hl.lv hlt rfl (fun ls' hl' => kk r S h1 h2 h3 H locs ls' hP hS (zset1 hn hs hl'))
theorem ze_iinc {α : Type} {G : zGT} {l : Launch} {cc : ByteArray} {own : String} {nL d C N : Nat} {ini : Bool} {T : Option Value × zMem} {enc : α → Option Value} {Λ : zLay} {k n pc : Nat} {L : zLs} {st : List Value} {σ : zMem} {e : Option (α × zMem)} (h : zOk G l cc own nL d C N ini) {i : Nat} {q : Int} {x : Int32} (v : Int32) (L' : zLs) (hd : decode cc pc = .ok (.iinc i q, 3)) (hL : L[i]? = some (some (.int x))) (hv : x + Int32.ofInt q = v) (hn : zNl L i = true) (hlt : i < nL) (hs : L.set i (some (.int v)) = L') (kk : zE G T enc Λ k n (pc + 3) L' st σ e) : zE G T enc Λ k n pc L st σ e := by
  obtain ⟨p, e0, R, s, m, args, below, meth, c, D, cA, b, ext, Q, rfl, hx, hb, hml, hown, hts, hK, hfr, hlo, hC, hN, hini, hbs⟩ := h
  intro r S h1 h2 h3 H locs ls hP hS hl
  have hm := zPr_in (zcv b ext) L 0 i _ hL
  rw [Nat.zero_add] at hm
  obtain ⟨j, hj⟩ := List.mem_iff_getElem?.mp hm
  exact lv_iinc hx hb hd hl.lv (k := j) hj hv hlt rfl (fun ls' hl' => kk r S h1 h2 h3 H locs ls' hP hS (zset1 hn hs hl'))
theorem ze_iadd {α : Type} {G : zGT} {l : Launch} {cc : ByteArray} {own : String} {nL d C N : Nat} {ini : Bool} {T : Option Value × zMem} {enc : α → Option Value} {Λ : zLay} {k n pc : Nat} {L : zLs} {st : List Value} {σ : zMem} {e : Option (α × zMem)} (h : zOk G l cc own nL d C N ini) {x y : Int32} (hd : decode cc pc = .ok (.iadd, 1)) (kk : zE G T enc Λ k n (pc + 1) L (.int (x + y) :: st) σ e) : zE G T enc Λ k n pc L (.int y :: .int x :: st) σ e := by
  obtain ⟨p, e0, R, s, m, args, below, meth, c, D, cA, b, ext, Q, rfl, hx, hb, hml, hown, hts, hK, hfr, hlo, hC, hN, hini, hbs⟩ := h
  intro r S h1 h2 h3 H locs ls hP hS hl
  exact lv_iadd hx hb hd (kk r S h1 h2 h3 H locs ls hP hS hl)
theorem ze_isub {α : Type} {G : zGT} {l : Launch} {cc : ByteArray} {own : String} {nL d C N : Nat} {ini : Bool} {T : Option Value × zMem} {enc : α → Option Value} {Λ : zLay} {k n pc : Nat} {L : zLs} {st : List Value} {σ : zMem} {e : Option (α × zMem)} (h : zOk G l cc own nL d C N ini) {x y : Int32} (hd : decode cc pc = .ok (.isub, 1)) (kk : zE G T enc Λ k n (pc + 1) L (.int (x - y) :: st) σ e) : zE G T enc Λ k n pc L (.int y :: .int x :: st) σ e := by
  obtain ⟨p, e0, R, s, m, args, below, meth, c, D, cA, b, ext, Q, rfl, hx, hb, hml, hown, hts, hK, hfr, hlo, hC, hN, hini, hbs⟩ := h
  intro r S h1 h2 h3 H locs ls hP hS hl
  exact lv_isub hx hb hd (kk r S h1 h2 h3 H locs ls hP hS hl)
theorem ze_imul {α : Type} {G : zGT} {l : Launch} {cc : ByteArray} {own : String} {nL d C N : Nat} {ini : Bool} {T : Option Value × zMem} {enc : α → Option Value} {Λ : zLay} {k n pc : Nat} {L : zLs} {st : List Value} {σ : zMem} {e : Option (α × zMem)} (h : zOk G l cc own nL d C N ini) {x y : Int32} (hd : decode cc pc = .ok (.imul, 1)) (kk : zE G T enc Λ k n (pc + 1) L (.int (x * y) :: st) σ e) : zE G T enc Λ k n pc L (.int y :: .int x :: st) σ e := by
  obtain ⟨p, e0, R, s, m, args, below, meth, c, D, cA, b, ext, Q, rfl, hx, hb, hml, hown, hts, hK, hfr, hlo, hC, hN, hini, hbs⟩ := h
  intro r S h1 h2 h3 H locs ls hP hS hl
  exact lv_imul hx hb hd (kk r S h1 h2 h3 H locs ls hP hS hl)
theorem ze_iand {α : Type} {G : zGT} {l : Launch} {cc : ByteArray} {own : String} {nL d C N : Nat} {ini : Bool} {T : Option Value × zMem} {enc : α → Option Value} {Λ : zLay} {k n pc : Nat} {L : zLs} {st : List Value} {σ : zMem} {e : Option (α × zMem)} (h : zOk G l cc own nL d C N ini) {x y : Int32} (hd : decode cc pc = .ok (.iand, 1)) (kk : zE G T enc Λ k n (pc + 1) L (.int (x &&& y) :: st) σ e) : zE G T enc Λ k n pc L (.int y :: .int x :: st) σ e := by
  obtain ⟨p, e0, R, s, m, args, below, meth, c, D, cA, b, ext, Q, rfl, hx, hb, hml, hown, hts, hK, hfr, hlo, hC, hN, hini, hbs⟩ := h
  intro r S h1 h2 h3 H locs ls hP hS hl
  exact lv_iand hx hb hd (kk r S h1 h2 h3 H locs ls hP hS hl)
theorem ze_ior {α : Type} {G : zGT} {l : Launch} {cc : ByteArray} {own : String} {nL d C N : Nat} {ini : Bool} {T : Option Value × zMem} {enc : α → Option Value} {Λ : zLay} {k n pc : Nat} {L : zLs} {st : List Value} {σ : zMem} {e : Option (α × zMem)} (h : zOk G l cc own nL d C N ini) {x y : Int32} (hd : decode cc pc = .ok (.ior, 1)) (kk : zE G T enc Λ k n (pc + 1) L (.int (x ||| y) :: st) σ e) : zE G T enc Λ k n pc L (.int y :: .int x :: st) σ e := by
  obtain ⟨p, e0, R, s, m, args, below, meth, c, D, cA, b, ext, Q, rfl, hx, hb, hml, hown, hts, hK, hfr, hlo, hC, hN, hini, hbs⟩ := h
  intro r S h1 h2 h3 H locs ls hP hS hl
  exact lv_ior hx hb hd (kk r S h1 h2 h3 H locs ls hP hS hl)
theorem ze_ixor {α : Type} {G : zGT} {l : Launch} {cc : ByteArray} {own : String} {nL d C N : Nat} {ini : Bool} {T : Option Value × zMem} {enc : α → Option Value} {Λ : zLay} {k n pc : Nat} {L : zLs} {st : List Value} {σ : zMem} {e : Option (α × zMem)} (h : zOk G l cc own nL d C N ini) {x y : Int32} (hd : decode cc pc = .ok (.ixor, 1)) (kk : zE G T enc Λ k n (pc + 1) L (.int (x ^^^ y) :: st) σ e) : zE G T enc Λ k n pc L (.int y :: .int x :: st) σ e := by
  obtain ⟨p, e0, R, s, m, args, below, meth, c, D, cA, b, ext, Q, rfl, hx, hb, hml, hown, hts, hK, hfr, hlo, hC, hN, hini, hbs⟩ := h
  intro r S h1 h2 h3 H locs ls hP hS hl
  exact lv_ixor hx hb hd (kk r S h1 h2 h3 H locs ls hP hS hl)
theorem ze_ishl {α : Type} {G : zGT} {l : Launch} {cc : ByteArray} {own : String} {nL d C N : Nat} {ini : Bool} {T : Option Value × zMem} {enc : α → Option Value} {Λ : zLay} {k n pc : Nat} {L : zLs} {st : List Value} {σ : zMem} {e : Option (α × zMem)} (h : zOk G l cc own nL d C N ini) {x y : Int32} (hd : decode cc pc = .ok (.ishl, 1)) (kk : zE G T enc Λ k n (pc + 1) L (.int (x <<< (y &&& 31)) :: st) σ e) : zE G T enc Λ k n pc L (.int y :: .int x :: st) σ e := by
  obtain ⟨p, e0, R, s, m, args, below, meth, c, D, cA, b, ext, Q, rfl, hx, hb, hml, hown, hts, hK, hfr, hlo, hC, hN, hini, hbs⟩ := h
  intro r S h1 h2 h3 H locs ls hP hS hl
  exact lv_ishl hx hb hd (kk r S h1 h2 h3 H locs ls hP hS hl)
theorem ze_ishr {α : Type} {G : zGT} {l : Launch} {cc : ByteArray} {own : String} {nL d C N : Nat} {ini : Bool} {T : Option Value × zMem} {enc : α → Option Value} {Λ : zLay} {k n pc : Nat} {L : zLs} {st : List Value} {σ : zMem} {e : Option (α × zMem)} (h : zOk G l cc own nL d C N ini) {x y : Int32} (hd : decode cc pc = .ok (.ishr, 1)) (kk : zE G T enc Λ k n (pc + 1) L (.int (x >>> (y &&& 31)) :: st) σ e) : zE G T enc Λ k n pc L (.int y :: .int x :: st) σ e := by
  obtain ⟨p, e0, R, s, m, args, below, meth, c, D, cA, b, ext, Q, rfl, hx, hb, hml, hown, hts, hK, hfr, hlo, hC, hN, hini, hbs⟩ := h
  intro r S h1 h2 h3 H locs ls hP hS hl
  exact lv_ishr hx hb hd (kk r S h1 h2 h3 H locs ls hP hS hl)
theorem ze_iushr {α : Type} {G : zGT} {l : Launch} {cc : ByteArray} {own : String} {nL d C N : Nat} {ini : Bool} {T : Option Value × zMem} {enc : α → Option Value} {Λ : zLay} {k n pc : Nat} {L : zLs} {st : List Value} {σ : zMem} {e : Option (α × zMem)} (h : zOk G l cc own nL d C N ini) {x y : Int32} (hd : decode cc pc = .ok (.iushr, 1)) (kk : zE G T enc Λ k n (pc + 1) L (.int ((x.toUInt32 >>> (y.toUInt32 &&& Int32.toUInt32 31)).toInt32) :: st) σ e) : zE G T enc Λ k n pc L (.int y :: .int x :: st) σ e := by
  obtain ⟨p, e0, R, s, m, args, below, meth, c, D, cA, b, ext, Q, rfl, hx, hb, hml, hown, hts, hK, hfr, hlo, hC, hN, hini, hbs⟩ := h
  intro r S h1 h2 h3 H locs ls hP hS hl
  exact lv_iushr hx hb hd rfl (kk r S h1 h2 h3 H locs ls hP hS hl)
theorem ze_ineg {α : Type} {G : zGT} {l : Launch} {cc : ByteArray} {own : String} {nL d C N : Nat} {ini : Bool} {T : Option Value × zMem} {enc : α → Option Value} {Λ : zLay} {k n pc : Nat} {L : zLs} {st : List Value} {σ : zMem} {e : Option (α × zMem)} (h : zOk G l cc own nL d C N ini) {x : Int32} (hd : decode cc pc = .ok (.ineg, 1)) (kk : zE G T enc Λ k n (pc + 1) L (.int (-x) :: st) σ e) : zE G T enc Λ k n pc L (.int x :: st) σ e := by
  obtain ⟨p, e0, R, s, m, args, below, meth, c, D, cA, b, ext, Q, rfl, hx, hb, hml, hown, hts, hK, hfr, hlo, hC, hN, hini, hbs⟩ := h
  intro r S h1 h2 h3 H locs ls hP hS hl
  exact lv_ineg hx hb hd (kk r S h1 h2 h3 H locs ls hP hS hl)
theorem ze_ladd {α : Type} {G : zGT} {l : Launch} {cc : ByteArray} {own : String} {nL d C N : Nat} {ini : Bool} {T : Option Value × zMem} {enc : α → Option Value} {Λ : zLay} {k n pc : Nat} {L : zLs} {st : List Value} {σ : zMem} {e : Option (α × zMem)} (h : zOk G l cc own nL d C N ini) {x y : Int64} (hd : decode cc pc = .ok (.ladd, 1)) (kk : zE G T enc Λ k n (pc + 1) L (.long (x + y) :: st) σ e) : zE G T enc Λ k n pc L (.long y :: .long x :: st) σ e := by
  obtain ⟨p, e0, R, s, m, args, below, meth, c, D, cA, b, ext, Q, rfl, hx, hb, hml, hown, hts, hK, hfr, hlo, hC, hN, hini, hbs⟩ := h
  intro r S h1 h2 h3 H locs ls hP hS hl
  exact lv_ladd hx hb hd (kk r S h1 h2 h3 H locs ls hP hS hl)
theorem ze_lsub {α : Type} {G : zGT} {l : Launch} {cc : ByteArray} {own : String} {nL d C N : Nat} {ini : Bool} {T : Option Value × zMem} {enc : α → Option Value} {Λ : zLay} {k n pc : Nat} {L : zLs} {st : List Value} {σ : zMem} {e : Option (α × zMem)} (h : zOk G l cc own nL d C N ini) {x y : Int64} (hd : decode cc pc = .ok (.lsub, 1)) (kk : zE G T enc Λ k n (pc + 1) L (.long (x - y) :: st) σ e) : zE G T enc Λ k n pc L (.long y :: .long x :: st) σ e := by
  obtain ⟨p, e0, R, s, m, args, below, meth, c, D, cA, b, ext, Q, rfl, hx, hb, hml, hown, hts, hK, hfr, hlo, hC, hN, hini, hbs⟩ := h
  intro r S h1 h2 h3 H locs ls hP hS hl
  exact lv_lsub hx hb hd (kk r S h1 h2 h3 H locs ls hP hS hl)
theorem ze_lmul {α : Type} {G : zGT} {l : Launch} {cc : ByteArray} {own : String} {nL d C N : Nat} {ini : Bool} {T : Option Value × zMem} {enc : α → Option Value} {Λ : zLay} {k n pc : Nat} {L : zLs} {st : List Value} {σ : zMem} {e : Option (α × zMem)} (h : zOk G l cc own nL d C N ini) {x y : Int64} (hd : decode cc pc = .ok (.lmul, 1)) (kk : zE G T enc Λ k n (pc + 1) L (.long (x * y) :: st) σ e) : zE G T enc Λ k n pc L (.long y :: .long x :: st) σ e := by
  obtain ⟨p, e0, R, s, m, args, below, meth, c, D, cA, b, ext, Q, rfl, hx, hb, hml, hown, hts, hK, hfr, hlo, hC, hN, hini, hbs⟩ := h
  intro r S h1 h2 h3 H locs ls hP hS hl
  exact lv_lmul hx hb hd (kk r S h1 h2 h3 H locs ls hP hS hl)
def zrem (x y : Int32) : Int32 := x - x / y * y
def zremL (x y : Int64) : Int64 := x - x / y * y
theorem zgd {α : Type} {c : Bool} {e : Option α} {q : α} (h : gd c e = some q) : c = true ∧ e = some q := by
  unfold gd at h
  split at h
  · exact ⟨by assumption, h⟩
  · cases h
theorem ze_idiv {α : Type} {G : zGT} {l : Launch} {cc : ByteArray} {own : String} {nL d C N : Nat} {ini : Bool} {T : Option Value × zMem} {enc : α → Option Value} {Λ : zLay} {k n pc : Nat} {L : zLs} {st : List Value} {σ : zMem} {e : Option (α × zMem)} (h : zOk G l cc own nL d C N ini) {x y : Int32} (hd : decode cc pc = .ok (.idiv, 1)) (hne : ¬ y = 0) (kk : zE G T enc Λ k n (pc + 1) L (.int (x / y) :: st) σ e) : zE G T enc Λ k n pc L (.int y :: .int x :: st) σ e := by
  obtain ⟨p, e0, R, s, m, args, below, meth, c, D, cA, b, ext, Q, rfl, hx, hb, hml, hown, hts, hK, hfr, hlo, hC, hN, hini, hbs⟩ := h
  intro r S h1 h2 h3 H locs ls hP hS hl
  exact lv_idiv hx hb hd hne (kk r S h1 h2 h3 H locs ls hP hS hl)
theorem ze_idivG {α : Type} {G : zGT} {l : Launch} {cc : ByteArray} {own : String} {nL d C N : Nat} {ini : Bool} {T : Option Value × zMem} {enc : α → Option Value} {Λ : zLay} {k n pc : Nat} {L : zLs} {st : List Value} {σ : zMem} {e : Option (α × zMem)} (h : zOk G l cc own nL d C N ini) {x y : Int32} (hd : decode cc pc = .ok (.idiv, 1)) (kk : zE G T enc Λ k n (pc + 1) L (.int (x / y) :: st) σ e) : zE G T enc Λ k n pc L (.int y :: .int x :: st) σ (gd (decide (¬ y = 0)) e) := fun r S h1 h2 h3 => ze_idiv h hd (of_decide_eq_true (zgd h1).1) kk r S (zgd h1).2 h2 h3
theorem ze_irem {α : Type} {G : zGT} {l : Launch} {cc : ByteArray} {own : String} {nL d C N : Nat} {ini : Bool} {T : Option Value × zMem} {enc : α → Option Value} {Λ : zLay} {k n pc : Nat} {L : zLs} {st : List Value} {σ : zMem} {e : Option (α × zMem)} (h : zOk G l cc own nL d C N ini) {x y : Int32} (hd : decode cc pc = .ok (.irem, 1)) (hne : ¬ y = 0) (kk : zE G T enc Λ k n (pc + 1) L (.int (zrem x y) :: st) σ e) : zE G T enc Λ k n pc L (.int y :: .int x :: st) σ e := by
  obtain ⟨p, e0, R, s, m, args, below, meth, c, D, cA, b, ext, Q, rfl, hx, hb, hml, hown, hts, hK, hfr, hlo, hC, hN, hini, hbs⟩ := h
  intro r S h1 h2 h3 H locs ls hP hS hl
  exact lv_irem hx hb hd hne (kk r S h1 h2 h3 H locs ls hP hS hl)
theorem ze_iremG {α : Type} {G : zGT} {l : Launch} {cc : ByteArray} {own : String} {nL d C N : Nat} {ini : Bool} {T : Option Value × zMem} {enc : α → Option Value} {Λ : zLay} {k n pc : Nat} {L : zLs} {st : List Value} {σ : zMem} {e : Option (α × zMem)} (h : zOk G l cc own nL d C N ini) {x y : Int32} (hd : decode cc pc = .ok (.irem, 1)) (kk : zE G T enc Λ k n (pc + 1) L (.int (zrem x y) :: st) σ e) : zE G T enc Λ k n pc L (.int y :: .int x :: st) σ (gd (decide (¬ y = 0)) e) := fun r S h1 h2 h3 => ze_irem h hd (of_decide_eq_true (zgd h1).1) kk r S (zgd h1).2 h2 h3
theorem ze_ldiv {α : Type} {G : zGT} {l : Launch} {cc : ByteArray} {own : String} {nL d C N : Nat} {ini : Bool} {T : Option Value × zMem} {enc : α → Option Value} {Λ : zLay} {k n pc : Nat} {L : zLs} {st : List Value} {σ : zMem} {e : Option (α × zMem)} (h : zOk G l cc own nL d C N ini) {x y : Int64} (hd : decode cc pc = .ok (.ldiv, 1)) (hne : ¬ y = 0) (kk : zE G T enc Λ k n (pc + 1) L (.long (x / y) :: st) σ e) : zE G T enc Λ k n pc L (.long y :: .long x :: st) σ e := by
  obtain ⟨p, e0, R, s, m, args, below, meth, c, D, cA, b, ext, Q, rfl, hx, hb, hml, hown, hts, hK, hfr, hlo, hC, hN, hini, hbs⟩ := h
  intro r S h1 h2 h3 H locs ls hP hS hl
  exact lv_ldiv hx hb hd hne (kk r S h1 h2 h3 H locs ls hP hS hl)
theorem ze_ldivG {α : Type} {G : zGT} {l : Launch} {cc : ByteArray} {own : String} {nL d C N : Nat} {ini : Bool} {T : Option Value × zMem} {enc : α → Option Value} {Λ : zLay} {k n pc : Nat} {L : zLs} {st : List Value} {σ : zMem} {e : Option (α × zMem)} (h : zOk G l cc own nL d C N ini) {x y : Int64} (hd : decode cc pc = .ok (.ldiv, 1)) (kk : zE G T enc Λ k n (pc + 1) L (.long (x / y) :: st) σ e) : zE G T enc Λ k n pc L (.long y :: .long x :: st) σ (gd (decide (¬ y = 0)) e) := fun r S h1 h2 h3 => ze_ldiv h hd (of_decide_eq_true (zgd h1).1) kk r S (zgd h1).2 h2 h3
theorem ze_lrem {α : Type} {G : zGT} {l : Launch} {cc : ByteArray} {own : String} {nL d C N : Nat} {ini : Bool} {T : Option Value × zMem} {enc : α → Option Value} {Λ : zLay} {k n pc : Nat} {L : zLs} {st : List Value} {σ : zMem} {e : Option (α × zMem)} (h : zOk G l cc own nL d C N ini) {x y : Int64} (hd : decode cc pc = .ok (.lrem, 1)) (hne : ¬ y = 0) (kk : zE G T enc Λ k n (pc + 1) L (.long (zremL x y) :: st) σ e) : zE G T enc Λ k n pc L (.long y :: .long x :: st) σ e := by
  obtain ⟨p, e0, R, s, m, args, below, meth, c, D, cA, b, ext, Q, rfl, hx, hb, hml, hown, hts, hK, hfr, hlo, hC, hN, hini, hbs⟩ := h
  intro r S h1 h2 h3 H locs ls hP hS hl
  exact lv_lrem hx hb hd hne (kk r S h1 h2 h3 H locs ls hP hS hl)
theorem ze_lremG {α : Type} {G : zGT} {l : Launch} {cc : ByteArray} {own : String} {nL d C N : Nat} {ini : Bool} {T : Option Value × zMem} {enc : α → Option Value} {Λ : zLay} {k n pc : Nat} {L : zLs} {st : List Value} {σ : zMem} {e : Option (α × zMem)} (h : zOk G l cc own nL d C N ini) {x y : Int64} (hd : decode cc pc = .ok (.lrem, 1)) (kk : zE G T enc Λ k n (pc + 1) L (.long (zremL x y) :: st) σ e) : zE G T enc Λ k n pc L (.long y :: .long x :: st) σ (gd (decide (¬ y = 0)) e) := fun r S h1 h2 h3 => ze_lrem h hd (of_decide_eq_true (zgd h1).1) kk r S (zgd h1).2 h2 h3
theorem ze_i2l {α : Type} {G : zGT} {l : Launch} {cc : ByteArray} {own : String} {nL d C N : Nat} {ini : Bool} {T : Option Value × zMem} {enc : α → Option Value} {Λ : zLay} {k n pc : Nat} {L : zLs} {st : List Value} {σ : zMem} {e : Option (α × zMem)} (h : zOk G l cc own nL d C N ini) {x : Int32} (hd : decode cc pc = .ok (.i2l, 1)) (kk : zE G T enc Λ k n (pc + 1) L (.long x.toInt64 :: st) σ e) : zE G T enc Λ k n pc L (.int x :: st) σ e := by
  obtain ⟨p, e0, R, s, m, args, below, meth, c, D, cA, b, ext, Q, rfl, hx, hb, hml, hown, hts, hK, hfr, hlo, hC, hN, hini, hbs⟩ := h
  intro r S h1 h2 h3 H locs ls hP hS hl
  exact lv_i2l hx hb hd rfl (kk r S h1 h2 h3 H locs ls hP hS hl)
theorem ze_l2i {α : Type} {G : zGT} {l : Launch} {cc : ByteArray} {own : String} {nL d C N : Nat} {ini : Bool} {T : Option Value × zMem} {enc : α → Option Value} {Λ : zLay} {k n pc : Nat} {L : zLs} {st : List Value} {σ : zMem} {e : Option (α × zMem)} (h : zOk G l cc own nL d C N ini) {x : Int64} (hd : decode cc pc = .ok (.l2i, 1)) (kk : zE G T enc Λ k n (pc + 1) L (.int x.toInt32 :: st) σ e) : zE G T enc Λ k n pc L (.long x :: st) σ e := by
  obtain ⟨p, e0, R, s, m, args, below, meth, c, D, cA, b, ext, Q, rfl, hx, hb, hml, hown, hts, hK, hfr, hlo, hC, hN, hini, hbs⟩ := h
  intro r S h1 h2 h3 H locs ls hP hS hl
  exact lv_l2i hx hb hd rfl (kk r S h1 h2 h3 H locs ls hP hS hl)
theorem ze_i2b {α : Type} {G : zGT} {l : Launch} {cc : ByteArray} {own : String} {nL d C N : Nat} {ini : Bool} {T : Option Value × zMem} {enc : α → Option Value} {Λ : zLay} {k n pc : Nat} {L : zLs} {st : List Value} {σ : zMem} {e : Option (α × zMem)} (h : zOk G l cc own nL d C N ini) {x : Int32} (hd : decode cc pc = .ok (.i2b, 1)) (kk : zE G T enc Λ k n (pc + 1) L (.int x.toInt8.toInt32 :: st) σ e) : zE G T enc Λ k n pc L (.int x :: st) σ e := by
  obtain ⟨p, e0, R, s, m, args, below, meth, c, D, cA, b, ext, Q, rfl, hx, hb, hml, hown, hts, hK, hfr, hlo, hC, hN, hini, hbs⟩ := h
  intro r S h1 h2 h3 H locs ls hP hS hl
  exact lv_i2b hx hb hd rfl (kk r S h1 h2 h3 H locs ls hP hS hl)
theorem ze_i2s {α : Type} {G : zGT} {l : Launch} {cc : ByteArray} {own : String} {nL d C N : Nat} {ini : Bool} {T : Option Value × zMem} {enc : α → Option Value} {Λ : zLay} {k n pc : Nat} {L : zLs} {st : List Value} {σ : zMem} {e : Option (α × zMem)} (h : zOk G l cc own nL d C N ini) {x : Int32} (hd : decode cc pc = .ok (.i2s, 1)) (kk : zE G T enc Λ k n (pc + 1) L (.int x.toInt16.toInt32 :: st) σ e) : zE G T enc Λ k n pc L (.int x :: st) σ e := by
  obtain ⟨p, e0, R, s, m, args, below, meth, c, D, cA, b, ext, Q, rfl, hx, hb, hml, hown, hts, hK, hfr, hlo, hC, hN, hini, hbs⟩ := h
  intro r S h1 h2 h3 H locs ls hP hS hl
  exact lv_i2s hx hb hd rfl (kk r S h1 h2 h3 H locs ls hP hS hl)
theorem ze_i2c {α : Type} {G : zGT} {l : Launch} {cc : ByteArray} {own : String} {nL d C N : Nat} {ini : Bool} {T : Option Value × zMem} {enc : α → Option Value} {Λ : zLay} {k n pc : Nat} {L : zLs} {st : List Value} {σ : zMem} {e : Option (α × zMem)} (h : zOk G l cc own nL d C N ini) {x : Int32} (hd : decode cc pc = .ok (.i2c, 1)) (kk : zE G T enc Λ k n (pc + 1) L (.int (x.toUInt32 % 65536).toInt32 :: st) σ e) : zE G T enc Λ k n pc L (.int x :: st) σ e := by
  obtain ⟨p, e0, R, s, m, args, below, meth, c, D, cA, b, ext, Q, rfl, hx, hb, hml, hown, hts, hK, hfr, hlo, hC, hN, hini, hbs⟩ := h
  intro r S h1 h2 h3 H locs ls hP hS hl
  exact lv_i2c hx hb hd rfl (kk r S h1 h2 h3 H locs ls hP hS hl)
theorem ze_lcmp {α : Type} {G : zGT} {l : Launch} {cc : ByteArray} {own : String} {nL d C N : Nat} {ini : Bool} {T : Option Value × zMem} {enc : α → Option Value} {Λ : zLay} {k n pc : Nat} {L : zLs} {st : List Value} {σ : zMem} {e : Option (α × zMem)} (h : zOk G l cc own nL d C N ini) {x y : Int64} (hd : decode cc pc = .ok (.lcmp, 1)) (kk : zE G T enc Λ k n (pc + 1) L (.int (lg_cmp x y) :: st) σ e) : zE G T enc Λ k n pc L (.long y :: .long x :: st) σ e := by
  obtain ⟨p, e0, R, s, m, args, below, meth, c, D, cA, b, ext, Q, rfl, hx, hb, hml, hown, hts, hK, hfr, hlo, hC, hN, hini, hbs⟩ := h
  intro r S h1 h2 h3 H locs ls hP hS hl
  exact W.lcmp hx hb hd (kk r S h1 h2 h3 H locs ls hP hS hl)
theorem ze_dup {α : Type} {G : zGT} {l : Launch} {cc : ByteArray} {own : String} {nL d C N : Nat} {ini : Bool} {T : Option Value × zMem} {enc : α → Option Value} {Λ : zLay} {k n pc : Nat} {L : zLs} {st : List Value} {σ : zMem} {e : Option (α × zMem)} (h : zOk G l cc own nL d C N ini) {v : Value} (hd : decode cc pc = .ok (.dup, 1)) (hv : v.category = 1) (kk : zE G T enc Λ k n (pc + 1) L (v :: v :: st) σ e) : zE G T enc Λ k n pc L (v :: st) σ e := by
  obtain ⟨p, e0, R, s, m, args, below, meth, c, D, cA, b, ext, Q, rfl, hx, hb, hml, hown, hts, hK, hfr, hlo, hC, hN, hini, hbs⟩ := h
  intro r S h1 h2 h3 H locs ls hP hS hl
  exact lv_dup hx hb hd (by rw [zV_cat]; exact hv) (kk r S h1 h2 h3 H locs ls hP hS hl)
theorem ze_dup2 {α : Type} {G : zGT} {l : Launch} {cc : ByteArray} {own : String} {nL d C N : Nat} {ini : Bool} {T : Option Value × zMem} {enc : α → Option Value} {Λ : zLay} {k n pc : Nat} {L : zLs} {st : List Value} {σ : zMem} {e : Option (α × zMem)} (h : zOk G l cc own nL d C N ini) {v w : Value} (hd : decode cc pc = .ok (.dup2, 1)) (hv : v.category = 1) (hw : w.category = 1) (kk : zE G T enc Λ k n (pc + 1) L (v :: w :: v :: w :: st) σ e) : zE G T enc Λ k n pc L (v :: w :: st) σ e := by
  obtain ⟨p, e0, R, s, m, args, below, meth, c, D, cA, b, ext, Q, rfl, hx, hb, hml, hown, hts, hK, hfr, hlo, hC, hN, hini, hbs⟩ := h
  intro r S h1 h2 h3 H locs ls hP hS hl
  exact lv_dup2_11 hx hb hd (by rw [zV_cat]; exact hv) (by rw [zV_cat]; exact hw) (kk r S h1 h2 h3 H locs ls hP hS hl)
theorem ze_pop {α : Type} {G : zGT} {l : Launch} {cc : ByteArray} {own : String} {nL d C N : Nat} {ini : Bool} {T : Option Value × zMem} {enc : α → Option Value} {Λ : zLay} {k n pc : Nat} {L : zLs} {st : List Value} {σ : zMem} {e : Option (α × zMem)} (h : zOk G l cc own nL d C N ini) {v : Value} (hd : decode cc pc = .ok (.pop, 1)) (hv : v.category = 1) (kk : zE G T enc Λ k n (pc + 1) L st σ e) : zE G T enc Λ k n pc L (v :: st) σ e := by
  obtain ⟨p, e0, R, s, m, args, below, meth, c, D, cA, b, ext, Q, rfl, hx, hb, hml, hown, hts, hK, hfr, hlo, hC, hN, hini, hbs⟩ := h
  intro r S h1 h2 h3 H locs ls hP hS hl
  exact lv_pop hx hb hd (by rw [zV_cat]; exact hv) (kk r S h1 h2 h3 H locs ls hP hS hl)
theorem ze_goto {α : Type} {G : zGT} {l : Launch} {cc : ByteArray} {own : String} {nL d C N : Nat} {ini : Bool} {T : Option Value × zMem} {enc : α → Option Value} {Λ : zLay} {k n pc : Nat} {L : zLs} {st : List Value} {σ : zMem} {e : Option (α × zMem)} (h : zOk G l cc own nL d C N ini) {off : Int} (tgt : Nat) (hd : decode cc pc = .ok (.goto off, 3)) (ht : (pc : Int) + off = (tgt : Int)) (kk : zE G T enc Λ k n tgt L st σ e) : zE G T enc Λ k n pc L st σ e := by
  obtain ⟨p, e0, R, s, m, args, below, meth, c, D, cA, b, ext, Q, rfl, hx, hb, hml, hown, hts, hK, hfr, hlo, hC, hN, hini, hbs⟩ := h
  intro r S h1 h2 h3 H locs ls hP hS hl
  exact lv_goto hx hb hd ht (kk r S h1 h2 h3 H locs ls hP hS hl)
theorem ze_icmp_eq {α : Type} {G : zGT} {l : Launch} {cc : ByteArray} {own : String} {nL d C N : Nat} {ini : Bool} {T : Option Value × zMem} {enc : α → Option Value} {Λ : zLay} {k n pc : Nat} {L : zLs} {st : List Value} {σ : zMem} {e1 e2 : Option (α × zMem)} (h : zOk G l cc own nL d C N ini) {x y : Int32} {off : Int} (tgt : Nat) (hd : decode cc pc = .ok (.if_icmp .eq off, 3)) (ht : (pc : Int) + off = (tgt : Int)) (k1 : zE G T enc Λ k n tgt L st σ e1) (k2 : zE G T enc Λ k n (pc + 3) L st σ e2) : zE G T enc Λ k n pc L (.int y :: .int x :: st) σ (if x = y then e1 else e2) := by
  obtain ⟨p, e0, R, s, m, args, below, meth, c, D, cA, b, ext, Q, rfl, hx, hb, hml, hown, hts, hK, hfr, hlo, hC, hN, hini, hbs⟩ := h
  intro r S h1 h2 h3 H locs ls hP hS hl
  exact lv_icmp_eq hx hb hd ht (fun q => k1 r S (by rw [if_pos q] at h1; exact h1) h2 h3 H locs ls hP hS hl) (fun q => k2 r S (by rw [if_neg q] at h1; exact h1) h2 h3 H locs ls hP hS hl)
theorem ze_icmp_ne {α : Type} {G : zGT} {l : Launch} {cc : ByteArray} {own : String} {nL d C N : Nat} {ini : Bool} {T : Option Value × zMem} {enc : α → Option Value} {Λ : zLay} {k n pc : Nat} {L : zLs} {st : List Value} {σ : zMem} {e1 e2 : Option (α × zMem)} (h : zOk G l cc own nL d C N ini) {x y : Int32} {off : Int} (tgt : Nat) (hd : decode cc pc = .ok (.if_icmp .ne off, 3)) (ht : (pc : Int) + off = (tgt : Int)) (k1 : zE G T enc Λ k n tgt L st σ e2) (k2 : zE G T enc Λ k n (pc + 3) L st σ e1) : zE G T enc Λ k n pc L (.int y :: .int x :: st) σ (if x = y then e1 else e2) := by
  obtain ⟨p, e0, R, s, m, args, below, meth, c, D, cA, b, ext, Q, rfl, hx, hb, hml, hown, hts, hK, hfr, hlo, hC, hN, hini, hbs⟩ := h
  intro r S h1 h2 h3 H locs ls hP hS hl
  exact lv_icmp_ne hx hb hd ht (fun q => k1 r S (by rw [if_neg q] at h1; exact h1) h2 h3 H locs ls hP hS hl) (fun q => k2 r S (by rw [if_pos q] at h1; exact h1) h2 h3 H locs ls hP hS hl)
theorem ze_icmp_lt {α : Type} {G : zGT} {l : Launch} {cc : ByteArray} {own : String} {nL d C N : Nat} {ini : Bool} {T : Option Value × zMem} {enc : α → Option Value} {Λ : zLay} {k n pc : Nat} {L : zLs} {st : List Value} {σ : zMem} {e1 e2 : Option (α × zMem)} (h : zOk G l cc own nL d C N ini) {x y : Int32} {off : Int} (tgt : Nat) (hd : decode cc pc = .ok (.if_icmp .lt off, 3)) (ht : (pc : Int) + off = (tgt : Int)) (k1 : zE G T enc Λ k n tgt L st σ e1) (k2 : zE G T enc Λ k n (pc + 3) L st σ e2) : zE G T enc Λ k n pc L (.int y :: .int x :: st) σ (if x < y then e1 else e2) := by
  obtain ⟨p, e0, R, s, m, args, below, meth, c, D, cA, b, ext, Q, rfl, hx, hb, hml, hown, hts, hK, hfr, hlo, hC, hN, hini, hbs⟩ := h
  intro r S h1 h2 h3 H locs ls hP hS hl
  exact lv_icmp_lt hx hb hd ht (fun q => k1 r S (by rw [if_pos q] at h1; exact h1) h2 h3 H locs ls hP hS hl) (fun q => k2 r S (by rw [if_neg q] at h1; exact h1) h2 h3 H locs ls hP hS hl)
theorem ze_icmp_ge {α : Type} {G : zGT} {l : Launch} {cc : ByteArray} {own : String} {nL d C N : Nat} {ini : Bool} {T : Option Value × zMem} {enc : α → Option Value} {Λ : zLay} {k n pc : Nat} {L : zLs} {st : List Value} {σ : zMem} {e1 e2 : Option (α × zMem)} (h : zOk G l cc own nL d C N ini) {x y : Int32} {off : Int} (tgt : Nat) (hd : decode cc pc = .ok (.if_icmp .ge off, 3)) (ht : (pc : Int) + off = (tgt : Int)) (k1 : zE G T enc Λ k n tgt L st σ e1) (k2 : zE G T enc Λ k n (pc + 3) L st σ e2) : zE G T enc Λ k n pc L (.int y :: .int x :: st) σ (if y ≤ x then e1 else e2) := by
  obtain ⟨p, e0, R, s, m, args, below, meth, c, D, cA, b, ext, Q, rfl, hx, hb, hml, hown, hts, hK, hfr, hlo, hC, hN, hini, hbs⟩ := h
  intro r S h1 h2 h3 H locs ls hP hS hl
  exact lv_icmp_ge hx hb hd ht (fun q => k1 r S (by rw [if_pos q] at h1; exact h1) h2 h3 H locs ls hP hS hl) (fun q => k2 r S (by rw [if_neg q] at h1; exact h1) h2 h3 H locs ls hP hS hl)
theorem ze_icmp_gt {α : Type} {G : zGT} {l : Launch} {cc : ByteArray} {own : String} {nL d C N : Nat} {ini : Bool} {T : Option Value × zMem} {enc : α → Option Value} {Λ : zLay} {k n pc : Nat} {L : zLs} {st : List Value} {σ : zMem} {e1 e2 : Option (α × zMem)} (h : zOk G l cc own nL d C N ini) {x y : Int32} {off : Int} (tgt : Nat) (hd : decode cc pc = .ok (.if_icmp .gt off, 3)) (ht : (pc : Int) + off = (tgt : Int)) (k1 : zE G T enc Λ k n tgt L st σ e1) (k2 : zE G T enc Λ k n (pc + 3) L st σ e2) : zE G T enc Λ k n pc L (.int y :: .int x :: st) σ (if y < x then e1 else e2) := by
  obtain ⟨p, e0, R, s, m, args, below, meth, c, D, cA, b, ext, Q, rfl, hx, hb, hml, hown, hts, hK, hfr, hlo, hC, hN, hini, hbs⟩ := h
  intro r S h1 h2 h3 H locs ls hP hS hl
  exact lv_icmp_gt hx hb hd ht (fun q => k1 r S (by rw [if_pos q] at h1; exact h1) h2 h3 H locs ls hP hS hl) (fun q => k2 r S (by rw [if_neg q] at h1; exact h1) h2 h3 H locs ls hP hS hl)
theorem ze_icmp_le {α : Type} {G : zGT} {l : Launch} {cc : ByteArray} {own : String} {nL d C N : Nat} {ini : Bool} {T : Option Value × zMem} {enc : α → Option Value} {Λ : zLay} {k n pc : Nat} {L : zLs} {st : List Value} {σ : zMem} {e1 e2 : Option (α × zMem)} (h : zOk G l cc own nL d C N ini) {x y : Int32} {off : Int} (tgt : Nat) (hd : decode cc pc = .ok (.if_icmp .le off, 3)) (ht : (pc : Int) + off = (tgt : Int)) (k1 : zE G T enc Λ k n tgt L st σ e1) (k2 : zE G T enc Λ k n (pc + 3) L st σ e2) : zE G T enc Λ k n pc L (.int y :: .int x :: st) σ (if x ≤ y then e1 else e2) := by
  obtain ⟨p, e0, R, s, m, args, below, meth, c, D, cA, b, ext, Q, rfl, hx, hb, hml, hown, hts, hK, hfr, hlo, hC, hN, hini, hbs⟩ := h
  intro r S h1 h2 h3 H locs ls hP hS hl
  exact lv_icmp_le hx hb hd ht (fun q => k1 r S (by rw [if_pos q] at h1; exact h1) h2 h3 H locs ls hP hS hl) (fun q => k2 r S (by rw [if_neg q] at h1; exact h1) h2 h3 H locs ls hP hS hl)
theorem ze_if_eq {α : Type} {G : zGT} {l : Launch} {cc : ByteArray} {own : String} {nL d C N : Nat} {ini : Bool} {T : Option Value × zMem} {enc : α → Option Value} {Λ : zLay} {k n pc : Nat} {L : zLs} {st : List Value} {σ : zMem} {e1 e2 : Option (α × zMem)} (h : zOk G l cc own nL d C N ini) {x : Int32} {off : Int} (tgt : Nat) (hd : decode cc pc = .ok (.ifCond .eq off, 3)) (ht : (pc : Int) + off = (tgt : Int)) (k1 : zE G T enc Λ k n tgt L st σ e1) (k2 : zE G T enc Λ k n (pc + 3) L st σ e2) : zE G T enc Λ k n pc L (.int x :: st) σ (if x = 0 then e1 else e2) := by
  obtain ⟨p, e0, R, s, m, args, below, meth, c, D, cA, b, ext, Q, rfl, hx, hb, hml, hown, hts, hK, hfr, hlo, hC, hN, hini, hbs⟩ := h
  intro r S h1 h2 h3 H locs ls hP hS hl
  exact lv_if_eq hx hb hd ht (fun q => k1 r S (by rw [if_pos q] at h1; exact h1) h2 h3 H locs ls hP hS hl) (fun q => k2 r S (by rw [if_neg q] at h1; exact h1) h2 h3 H locs ls hP hS hl)
theorem ze_if_ne {α : Type} {G : zGT} {l : Launch} {cc : ByteArray} {own : String} {nL d C N : Nat} {ini : Bool} {T : Option Value × zMem} {enc : α → Option Value} {Λ : zLay} {k n pc : Nat} {L : zLs} {st : List Value} {σ : zMem} {e1 e2 : Option (α × zMem)} (h : zOk G l cc own nL d C N ini) {x : Int32} {off : Int} (tgt : Nat) (hd : decode cc pc = .ok (.ifCond .ne off, 3)) (ht : (pc : Int) + off = (tgt : Int)) (k1 : zE G T enc Λ k n tgt L st σ e2) (k2 : zE G T enc Λ k n (pc + 3) L st σ e1) : zE G T enc Λ k n pc L (.int x :: st) σ (if x = 0 then e1 else e2) := by
  obtain ⟨p, e0, R, s, m, args, below, meth, c, D, cA, b, ext, Q, rfl, hx, hb, hml, hown, hts, hK, hfr, hlo, hC, hN, hini, hbs⟩ := h
  intro r S h1 h2 h3 H locs ls hP hS hl
  exact lv_if_ne hx hb hd ht (fun q => k1 r S (by rw [if_neg q] at h1; exact h1) h2 h3 H locs ls hP hS hl) (fun q => k2 r S (by rw [if_pos q] at h1; exact h1) h2 h3 H locs ls hP hS hl)
theorem ze_if_lt {α : Type} {G : zGT} {l : Launch} {cc : ByteArray} {own : String} {nL d C N : Nat} {ini : Bool} {T : Option Value × zMem} {enc : α → Option Value} {Λ : zLay} {k n pc : Nat} {L : zLs} {st : List Value} {σ : zMem} {e1 e2 : Option (α × zMem)} (h : zOk G l cc own nL d C N ini) {x : Int32} {off : Int} (tgt : Nat) (hd : decode cc pc = .ok (.ifCond .lt off, 3)) (ht : (pc : Int) + off = (tgt : Int)) (k1 : zE G T enc Λ k n tgt L st σ e1) (k2 : zE G T enc Λ k n (pc + 3) L st σ e2) : zE G T enc Λ k n pc L (.int x :: st) σ (if x < 0 then e1 else e2) := by
  obtain ⟨p, e0, R, s, m, args, below, meth, c, D, cA, b, ext, Q, rfl, hx, hb, hml, hown, hts, hK, hfr, hlo, hC, hN, hini, hbs⟩ := h
  intro r S h1 h2 h3 H locs ls hP hS hl
  exact lv_if_lt hx hb hd ht (fun q => k1 r S (by rw [if_pos q] at h1; exact h1) h2 h3 H locs ls hP hS hl) (fun q => k2 r S (by rw [if_neg q] at h1; exact h1) h2 h3 H locs ls hP hS hl)
theorem ze_if_ge {α : Type} {G : zGT} {l : Launch} {cc : ByteArray} {own : String} {nL d C N : Nat} {ini : Bool} {T : Option Value × zMem} {enc : α → Option Value} {Λ : zLay} {k n pc : Nat} {L : zLs} {st : List Value} {σ : zMem} {e1 e2 : Option (α × zMem)} (h : zOk G l cc own nL d C N ini) {x : Int32} {off : Int} (tgt : Nat) (hd : decode cc pc = .ok (.ifCond .ge off, 3)) (ht : (pc : Int) + off = (tgt : Int)) (k1 : zE G T enc Λ k n tgt L st σ e1) (k2 : zE G T enc Λ k n (pc + 3) L st σ e2) : zE G T enc Λ k n pc L (.int x :: st) σ (if 0 ≤ x then e1 else e2) := by
  obtain ⟨p, e0, R, s, m, args, below, meth, c, D, cA, b, ext, Q, rfl, hx, hb, hml, hown, hts, hK, hfr, hlo, hC, hN, hini, hbs⟩ := h
  intro r S h1 h2 h3 H locs ls hP hS hl
  exact lv_if_ge hx hb hd ht (fun q => k1 r S (by rw [if_pos q] at h1; exact h1) h2 h3 H locs ls hP hS hl) (fun q => k2 r S (by rw [if_neg q] at h1; exact h1) h2 h3 H locs ls hP hS hl)
theorem ze_if_gt {α : Type} {G : zGT} {l : Launch} {cc : ByteArray} {own : String} {nL d C N : Nat} {ini : Bool} {T : Option Value × zMem} {enc : α → Option Value} {Λ : zLay} {k n pc : Nat} {L : zLs} {st : List Value} {σ : zMem} {e1 e2 : Option (α × zMem)} (h : zOk G l cc own nL d C N ini) {x : Int32} {off : Int} (tgt : Nat) (hd : decode cc pc = .ok (.ifCond .gt off, 3)) (ht : (pc : Int) + off = (tgt : Int)) (k1 : zE G T enc Λ k n tgt L st σ e1) (k2 : zE G T enc Λ k n (pc + 3) L st σ e2) : zE G T enc Λ k n pc L (.int x :: st) σ (if 0 < x then e1 else e2) := by
  obtain ⟨p, e0, R, s, m, args, below, meth, c, D, cA, b, ext, Q, rfl, hx, hb, hml, hown, hts, hK, hfr, hlo, hC, hN, hini, hbs⟩ := h
  intro r S h1 h2 h3 H locs ls hP hS hl
  exact lv_if_gt hx hb hd ht (fun q => k1 r S (by rw [if_pos q] at h1; exact h1) h2 h3 H locs ls hP hS hl) (fun q => k2 r S (by rw [if_neg q] at h1; exact h1) h2 h3 H locs ls hP hS hl)
theorem ze_if_le {α : Type} {G : zGT} {l : Launch} {cc : ByteArray} {own : String} {nL d C N : Nat} {ini : Bool} {T : Option Value × zMem} {enc : α → Option Value} {Λ : zLay} {k n pc : Nat} {L : zLs} {st : List Value} {σ : zMem} {e1 e2 : Option (α × zMem)} (h : zOk G l cc own nL d C N ini) {x : Int32} {off : Int} (tgt : Nat) (hd : decode cc pc = .ok (.ifCond .le off, 3)) (ht : (pc : Int) + off = (tgt : Int)) (k1 : zE G T enc Λ k n tgt L st σ e1) (k2 : zE G T enc Λ k n (pc + 3) L st σ e2) : zE G T enc Λ k n pc L (.int x :: st) σ (if x ≤ 0 then e1 else e2) := by
  obtain ⟨p, e0, R, s, m, args, below, meth, c, D, cA, b, ext, Q, rfl, hx, hb, hml, hown, hts, hK, hfr, hlo, hC, hN, hini, hbs⟩ := h
  intro r S h1 h2 h3 H locs ls hP hS hl
  exact lv_if_le hx hb hd ht (fun q => k1 r S (by rw [if_pos q] at h1; exact h1) h2 h3 H locs ls hP hS hl) (fun q => k2 r S (by rw [if_neg q] at h1; exact h1) h2 h3 H locs ls hP hS hl)
theorem ze_if_eqT {α : Type} {G : zGT} {l : Launch} {cc : ByteArray} {own : String} {nL d C N : Nat} {ini : Bool} {T : Option Value × zMem} {enc : α → Option Value} {Λ : zLay} {k n pc : Nat} {L : zLs} {st : List Value} {σ : zMem} {e : Option (α × zMem)} (h : zOk G l cc own nL d C N ini) {x : Int32} {off : Int} (tgt : Nat) (hd : decode cc pc = .ok (.ifCond .eq off, 3)) (ht : (pc : Int) + off = (tgt : Int)) (hq : x = 0) (kk : zE G T enc Λ k n tgt L st σ e) : zE G T enc Λ k n pc L (.int x :: st) σ e := by
  obtain ⟨p, e0, R, s, m, args, below, meth, c, D, cA, b, ext, Q, rfl, hx, hb, hml, hown, hts, hK, hfr, hlo, hC, hN, hini, hbs⟩ := h
  intro r S h1 h2 h3 H locs ls hP hS hl
  exact lv_if_eq hx hb hd ht (fun _ => kk r S h1 h2 h3 H locs ls hP hS hl) (fun z => absurd hq z)
theorem ze_if_eqF {α : Type} {G : zGT} {l : Launch} {cc : ByteArray} {own : String} {nL d C N : Nat} {ini : Bool} {T : Option Value × zMem} {enc : α → Option Value} {Λ : zLay} {k n pc : Nat} {L : zLs} {st : List Value} {σ : zMem} {e : Option (α × zMem)} (h : zOk G l cc own nL d C N ini) {x : Int32} {off : Int} (tgt : Nat) (hd : decode cc pc = .ok (.ifCond .eq off, 3)) (ht : (pc : Int) + off = (tgt : Int)) (hq : ¬ x = 0) (kk : zE G T enc Λ k n (pc + 3) L st σ e) : zE G T enc Λ k n pc L (.int x :: st) σ e := by
  obtain ⟨p, e0, R, s, m, args, below, meth, c, D, cA, b, ext, Q, rfl, hx, hb, hml, hown, hts, hK, hfr, hlo, hC, hN, hini, hbs⟩ := h
  intro r S h1 h2 h3 H locs ls hP hS hl
  exact lv_if_eq hx hb hd ht (fun z => absurd z hq) (fun _ => kk r S h1 h2 h3 H locs ls hP hS hl)
theorem ze_if_neT {α : Type} {G : zGT} {l : Launch} {cc : ByteArray} {own : String} {nL d C N : Nat} {ini : Bool} {T : Option Value × zMem} {enc : α → Option Value} {Λ : zLay} {k n pc : Nat} {L : zLs} {st : List Value} {σ : zMem} {e : Option (α × zMem)} (h : zOk G l cc own nL d C N ini) {x : Int32} {off : Int} (tgt : Nat) (hd : decode cc pc = .ok (.ifCond .ne off, 3)) (ht : (pc : Int) + off = (tgt : Int)) (hq : ¬ x = 0) (kk : zE G T enc Λ k n tgt L st σ e) : zE G T enc Λ k n pc L (.int x :: st) σ e := by
  obtain ⟨p, e0, R, s, m, args, below, meth, c, D, cA, b, ext, Q, rfl, hx, hb, hml, hown, hts, hK, hfr, hlo, hC, hN, hini, hbs⟩ := h
  intro r S h1 h2 h3 H locs ls hP hS hl
  exact lv_if_ne hx hb hd ht (fun _ => kk r S h1 h2 h3 H locs ls hP hS hl) (fun z => absurd z hq)
theorem ze_if_neF {α : Type} {G : zGT} {l : Launch} {cc : ByteArray} {own : String} {nL d C N : Nat} {ini : Bool} {T : Option Value × zMem} {enc : α → Option Value} {Λ : zLay} {k n pc : Nat} {L : zLs} {st : List Value} {σ : zMem} {e : Option (α × zMem)} (h : zOk G l cc own nL d C N ini) {x : Int32} {off : Int} (tgt : Nat) (hd : decode cc pc = .ok (.ifCond .ne off, 3)) (ht : (pc : Int) + off = (tgt : Int)) (hq : x = 0) (kk : zE G T enc Λ k n (pc + 3) L st σ e) : zE G T enc Λ k n pc L (.int x :: st) σ e := by
  obtain ⟨p, e0, R, s, m, args, below, meth, c, D, cA, b, ext, Q, rfl, hx, hb, hml, hown, hts, hK, hfr, hlo, hC, hN, hini, hbs⟩ := h
  intro r S h1 h2 h3 H locs ls hP hS hl
  exact lv_if_ne hx hb hd ht (fun z => absurd hq z) (fun _ => kk r S h1 h2 h3 H locs ls hP hS hl)
theorem ze_case {α : Type} {G : zGT} {T : Option Value × zMem} {enc : α → Option Value} {Λ : zLay} {k n pc : Nat} {L : zLs} {st : List Value} {σ : zMem} {e1 e2 : Option (α × zMem)} {x : Int32} (v : Int32) (k1 : x = v → zE G T enc Λ k n pc L (.int v :: st) σ e1) (k2 : ¬ x = v → zE G T enc Λ k n pc L (.int x :: st) σ e2) : zE G T enc Λ k n pc L (.int x :: st) σ (if x = v then e1 else e2) := by
  intro r S h1 h2 h3
  by_cases q : x = v
  · rw [if_pos q] at h1
    have := k1 q r S h1 h2 h3
    rw [q]
    exact this
  · rw [if_neg q] at h1
    exact k2 q r S h1 h2 h3
theorem ze_tabIn {α : Type} {G : zGT} {l : Launch} {cc : ByteArray} {own : String} {nL d C N : Nat} {ini : Bool} {T : Option Value × zMem} {enc : α → Option Value} {Λ : zLay} {k n pc : Nat} {L : zLs} {st : List Value} {σ : zMem} {e : Option (α × zMem)} (h : zOk G l cc own nL d C N ini) {x : Int32} {dflt lo hi off : Int} {offs : Array Int} {len : Nat} (tgt : Nat) (hd : decode cc pc = .ok (.tableswitch dflt lo hi offs, len)) (w1 : ¬ x.toInt < lo) (w2 : ¬ hi < x.toInt) (ho : offs[(x.toInt - lo).toNat]? = some off) (ht : (pc : Int) + off = (tgt : Int)) (kk : zE G T enc Λ k n tgt L st σ e) : zE G T enc Λ k n pc L (.int x :: st) σ e := by
  obtain ⟨p, e0, R, s, m, args, below, meth, c, D, cA, b, ext, Q, rfl, hx, hb, hml, hown, hts, hK, hfr, hlo, hC, hN, hini, hbs⟩ := h
  intro r S h1 h2 h3 H locs ls hP hS hl
  exact lv_tableIn hx hb hd w1 w2 ho ht (kk r S h1 h2 h3 H locs ls hP hS hl)
theorem ze_tabOut {α : Type} {G : zGT} {l : Launch} {cc : ByteArray} {own : String} {nL d C N : Nat} {ini : Bool} {T : Option Value × zMem} {enc : α → Option Value} {Λ : zLay} {k n pc : Nat} {L : zLs} {st : List Value} {σ : zMem} {e : Option (α × zMem)} (h : zOk G l cc own nL d C N ini) {x : Int32} {dflt lo hi : Int} {offs : Array Int} {len : Nat} (tgt : Nat) (hd : decode cc pc = .ok (.tableswitch dflt lo hi offs, len)) (w : x.toInt < lo ∨ hi < x.toInt) (ht : (pc : Int) + dflt = (tgt : Int)) (kk : zE G T enc Λ k n tgt L st σ e) : zE G T enc Λ k n pc L (.int x :: st) σ e := by
  obtain ⟨p, e0, R, s, m, args, below, meth, c, D, cA, b, ext, Q, rfl, hx, hb, hml, hown, hts, hK, hfr, hlo, hC, hN, hini, hbs⟩ := h
  intro r S h1 h2 h3 H locs ls hP hS hl
  exact lv_tableOut hx hb hd w ht (kk r S h1 h2 h3 H locs ls hP hS hl)
theorem ze_lookup {α : Type} {G : zGT} {l : Launch} {cc : ByteArray} {own : String} {nL d C N : Nat} {ini : Bool} {T : Option Value × zMem} {enc : α → Option Value} {Λ : zLay} {k n pc : Nat} {L : zLs} {st : List Value} {σ : zMem} {e : Option (α × zMem)} (h : zOk G l cc own nL d C N ini) {x : Int32} {dflt off : Int} {ps : Array (Int × Int)} {len : Nat} (tgt : Nat) (hd : decode cc pc = .ok (.lookupswitch dflt ps, len)) (hp : (ps.toList.zip (ps.toList.drop 1)).all (fun (a, next) => a.1 < next.1) = true) (ho : Op.lookupswitch.offset ps.toList dflt x.toInt = off) (ht : (pc : Int) + off = (tgt : Int)) (kk : zE G T enc Λ k n tgt L st σ e) : zE G T enc Λ k n pc L (.int x :: st) σ e := by
  obtain ⟨p, e0, R, s, m, args, below, meth, c, D, cA, b, ext, Q, rfl, hx, hb, hml, hown, hts, hK, hfr, hlo, hC, hN, hini, hbs⟩ := h
  intro r S h1 h2 h3 H locs ls hP hS hl
  exact lv_lookup hx hb hd hp ho ht (kk r S h1 h2 h3 H locs ls hP hS hl)
theorem ze_nm {α β : Type} {G : zGT} {T : Option Value × zMem} {enc : α → Option Value} {Λ : zLay} {k n pc : Nat} {L : zLs} {st : List Value} {σ : zMem} {e : β → Option (α × zMem)} {v : β} (g : β → zMem × zLs × List Value) (hg : g v = (σ, L, st)) (kk : ∀ x : β, zE G T enc Λ k n pc (g x).2.1 (g x).2.2 (g x).1 (e x)) : zE G T enc Λ k n pc L st σ (nm v e) := by
  have := kk v
  rw [hg] at this
  exact this
theorem ze_nmS {α : Type} {G : zGT} {T : Option Value × zMem} {enc : α → Option Value} {Λ : zLay} {k n pc : Nat} {L : zLs} {st : List Value} {σ : zMem} {e : zMem → Option (α × zMem)} (kk : ∀ s : zMem, zE G T enc Λ k n pc L st s (e s)) : zE G T enc Λ k n pc L st σ (nm σ e) := kk σ
theorem ze_nmT {α β : Type} {G : zGT} {T : Option Value × zMem} {enc : α → Option Value} {Λ : zLay} {k n pc : Nat} {L : zLs} {st : List Value} {σ : zMem} {e : β → Option (α × zMem)} {v : β} (w : β → Value) (kk : ∀ x : β, zE G T enc Λ k n pc L (w x :: st) σ (e x)) : zE G T enc Λ k n pc L (w v :: st) σ (nm v e) := kk v
theorem ze_nmI {α : Type} {G : zGT} {T : Option Value × zMem} {enc : α → Option Value} {Λ : zLay} {k n pc : Nat} {L : zLs} {st : List Value} {σ : zMem} {e : Int32 → Option (α × zMem)} {v : Int32} (kk : ∀ x : Int32, zE G T enc Λ k n pc L (.int x :: st) σ (e x)) : zE G T enc Λ k n pc L (.int v :: st) σ (nm v e) := kk v
theorem ze_nmL {α : Type} {G : zGT} {T : Option Value × zMem} {enc : α → Option Value} {Λ : zLay} {k n pc : Nat} {L : zLs} {st : List Value} {σ : zMem} {e : Int64 → Option (α × zMem)} {v : Int64} (kk : ∀ x : Int64, zE G T enc Λ k n pc L (.long x :: st) σ (e x)) : zE G T enc Λ k n pc L (.long v :: st) σ (nm v e) := kk v
theorem ze_iret {G : zGT} {T : Option Value × zMem} {cc : ByteArray} {Λ : zLay} {k n pc : Nat} {L : zLs} {σ : zMem} {x : Int32} (hR : zR G cc (some .int) T Λ k n) (hd : decode cc pc = .ok (.ireturn, 1)) : zE G T (fun r : Int32 => some (.int r)) Λ k n pc L [.int x] σ (some (x, σ)) := by
  intro r S h1 h2 h3
  cases h1
  rw [h3]
  exact hR.1 pc L x .int hd rfl rfl h2.symm
theorem ze_zret {G : zGT} {T : Option Value × zMem} {cc : ByteArray} {Λ : zLay} {k n pc : Nat} {L : zLs} {σ : zMem} {x : Int32} {ty : FieldType} (hR : zR G cc (some ty) T Λ k n) (hn : narrow ty (.int x) = .int x) (hd : decode cc pc = .ok (.ireturn, 1)) : zE G T (fun r : Int32 => some (.int r)) Λ k n pc L [.int x] σ (some (x, σ)) := by
  intro r S h1 h2 h3
  cases h1
  rw [h3]
  exact hR.1 pc L x ty hd rfl hn h2.symm
def z01 (x : Int32) : Bool := decide (x = 0) || decide (x = 1)
theorem z01_nar {x : Int32} (h : z01 x = true) : narrow .boolean (.int x) = .int x := by
  simp only [z01, Bool.or_eq_true, decide_eq_true_eq] at h
  rcases h with h | h <;> subst h <;> rfl
theorem ze_zretG {G : zGT} {T : Option Value × zMem} {cc : ByteArray} {Λ : zLay} {k n pc : Nat} {L : zLs} {σ : zMem} {x : Int32} (hR : zR G cc (some .boolean) T Λ k n) (hd : decode cc pc = .ok (.ireturn, 1)) : zE G T (fun r : Int32 => some (.int r)) Λ k n pc L [.int x] σ (gd (z01 x) (some (x, σ))) := fun r S h1 h2 h3 => ze_zret hR (z01_nar (zgd h1).1) hd r S (zgd h1).2 h2 h3
def zNr (ty : FieldType) (x : Int32) : Bool := narrow ty (.int x) == .int x
theorem ze_lret {G : zGT} {T : Option Value × zMem} {cc : ByteArray} {Λ : zLay} {k n pc : Nat} {L : zLs} {σ : zMem} {x : Int64} (hR : zR G cc (some .long) T Λ k n) (hd : decode cc pc = .ok (.lreturn, 1)) : zE G T (fun r : Int64 => some (.long r)) Λ k n pc L [.long x] σ (some (x, σ)) := by
  intro r S h1 h2 h3
  cases h1
  rw [h3]
  exact hR.2.1 pc L x hd rfl h2.symm
theorem ze_vret {G : zGT} {T : Option Value × zMem} {cc : ByteArray} {Λ : zLay} {k n pc : Nat} {L : zLs} {σ : zMem} (hR : zR G cc none T Λ k n) (hd : decode cc pc = .ok (.return_, 1)) : zE G T (fun _ : Unit => none) Λ k n pc L [] σ (some ((), σ)) := by
  intro r S h1 h2 h3
  cases h1
  rw [h3]
  exact hR.2.2.1 pc L hd rfl h2.symm
theorem ze_aret {G : zGT} {T : Option Value × zMem} {cc : ByteArray} {Λ : zLay} {k n pc : Nat} {L : zLs} {σ : zMem} {x : Nat} {nm9 : String} (hR : zR G cc (some (.object nm9)) T Λ k n) (hd : decode cc pc = .ok (.areturn, 1)) : zE G T (fun r : Nat => some (.ref r)) Λ k n pc L [.ref x] σ (some (x, σ)) := by
  intro r S h1 h2 h3
  cases h1
  rw [h3]
  exact hR.2.2.2 pc L x nm9 hd rfl h2.symm
theorem ze_ldc {α : Type} {G : zGT} {l : Launch} {cc : ByteArray} {own : String} {nL d C N : Nat} {ini : Bool} {T : Option Value × zMem} {enc : α → Option Value} {Λ : zLay} {k n pc : Nat} {L : zLs} {st : List Value} {σ : zMem} {e : Option (α × zMem)} (h : zOk G l cc own nL d C N ini) {q : Nat} {v : Int32} (hw : Cond.constant own q v ∈ zW) (hd : decode cc pc = .ok (.ldc q, 2)) (kk : zE G T enc Λ k n (pc + 2) L (.int v :: st) σ e) : zE G T enc Λ k n pc L st σ e := by
  obtain ⟨p, e0, R, s, m, args, below, meth, c, D, cA, b, ext, Q, rfl, hx, hb, hml, hown, hts, hK, hfr, hlo, hC, hN, hini, hbs⟩ := h
  intro r S h1 h2 h3 H locs ls hP hS hl
  exact lv_ldc hx hb hown (hts _ hw) hd (kk r S h1 h2 h3 H locs ls hP hS hl)
theorem ze_ldcw {α : Type} {G : zGT} {l : Launch} {cc : ByteArray} {own : String} {nL d C N : Nat} {ini : Bool} {T : Option Value × zMem} {enc : α → Option Value} {Λ : zLay} {k n pc : Nat} {L : zLs} {st : List Value} {σ : zMem} {e : Option (α × zMem)} (h : zOk G l cc own nL d C N ini) {q : Nat} {v : Int32} (hw : Cond.constant own q v ∈ zW) (hd : decode cc pc = .ok (.ldc_w q, 3)) (kk : zE G T enc Λ k n (pc + 3) L (.int v :: st) σ e) : zE G T enc Λ k n pc L st σ e := by
  obtain ⟨p, e0, R, s, m, args, below, meth, c, D, cA, b, ext, Q, rfl, hx, hb, hml, hown, hts, hK, hfr, hlo, hC, hN, hini, hbs⟩ := h
  intro r S h1 h2 h3 H locs ls hP hS hl
  exact lv_ldcw hx hb hown (hts _ hw) hd (kk r S h1 h2 h3 H locs ls hP hS hl)
theorem ze_ldc2 {α : Type} {G : zGT} {l : Launch} {cc : ByteArray} {own : String} {nL d C N : Nat} {ini : Bool} {T : Option Value × zMem} {enc : α → Option Value} {Λ : zLay} {k n pc : Nat} {L : zLs} {st : List Value} {σ : zMem} {e : Option (α × zMem)} (h : zOk G l cc own nL d C N ini) {q : Nat} {v : Int64} (hw : Cond.constantLong own q v ∈ zW) (hd : decode cc pc = .ok (.ldc2_w q, 3)) (kk : zE G T enc Λ k n (pc + 3) L (.long v :: st) σ e) : zE G T enc Λ k n pc L st σ e := by
  obtain ⟨p, e0, R, s, m, args, below, meth, c, D, cA, b, ext, Q, rfl, hx, hb, hml, hown, hts, hK, hfr, hlo, hC, hN, hini, hbs⟩ := h
  intro r S h1 h2 h3 H locs ls hP hS hl
  exact lv_ldc2 hx hb hown (hts _ hw) hd (kk r S h1 h2 h3 H locs ls hP hS hl)
def zFld (own : String) (idx ci kf : Nat) (fin : Bool) (ty : FieldType) : Prop := ∃ (C : String) (T : u_T) (N : Nat) (tys : Nat → FieldType), vwCl[ci]? = some (C, T, N) ∧ kf < N ∧ Cond.fieldLink own idx (T kf).1 (T kf).2.1 (T kf).2.2.1 ∈ zW ∧ (∀ w ∈ u_ws C T N, w ∈ zW) ∧ (∀ k, k < N → parseFieldDescriptor (T k).2.2.1 = some (tys k)) ∧ (∀ a, a < N → ∀ b, b < N → a ≠ b → (T a).2.1 ≠ (T b).2.1) ∧ (T kf).2.2.2 = fin ∧ tys kf = ty
theorem ze_getI {α : Type} {G : zGT} {l : Launch} {cc : ByteArray} {own : String} {nL d C N : Nat} {ini : Bool} {T : Option Value × zMem} {enc : α → Option Value} {Λ : zLay} {k n pc : Nat} {L : zLs} {st : List Value} {σ : zMem} {e : Option (α × zMem)} (h : zOk G l cc own nL d C N ini) {a ci kf idx : Nat} {fs : List (Option (Option Nat))} {fin : Bool} {ty : FieldType} (h9 : Λ[a]? = some (.inr (ci, fs))) (h8 : fs[kf]? = some none) (hf : zFld own idx ci kf fin ty) (hd : decode cc pc = .ok (.getfield idx, 3)) (kk : zE G T enc Λ k n (pc + 3) L (.int (σ a kf) :: st) σ e) : zE G T enc Λ k n pc L (.ref a :: st) σ e := by
  obtain ⟨p, e0, R, s, m, args, below, meth, c, D, cA, b, ext, Q, rfl, hx, hb, hml, hown, hts, hK, hfr, hlo, hC, hN, hini, hbs⟩ := h
  intro r S h1 h2 h3 H locs ls hP hS hl
  obtain ⟨C9, T9, N9, tys, f1, f2, f3, f4, f5, f6, f7, f8⟩ := hf
  have h7 := zFs_get (zcv b ext) (σ a) fs 0 kf _ h8
  rw [Nat.zero_add] at h7
  exact va_get (D := D) (ci := ci) hx hb hts f4 hown hK.1 hP.1 a (zWs_at h9) f1 kf f2 (hts _ f3) (fun _ z => z) h7 hd (kk r S h1 h2 h3 H locs ls hP hS hl)
theorem ze_getR {α : Type} {G : zGT} {l : Launch} {cc : ByteArray} {own : String} {nL d C N : Nat} {ini : Bool} {T : Option Value × zMem} {enc : α → Option Value} {Λ : zLay} {k n pc : Nat} {L : zLs} {st : List Value} {σ : zMem} {e : Option (α × zMem)} (h : zOk G l cc own nL d C N ini) {a ci kf idx q : Nat} {fs : List (Option (Option Nat))} {fin : Bool} {ty : FieldType} (h9 : Λ[a]? = some (.inr (ci, fs))) (h8 : fs[kf]? = some (some (some q))) (hf : zFld own idx ci kf fin ty) (hd : decode cc pc = .ok (.getfield idx, 3)) (kk : zE G T enc Λ k n (pc + 3) L (.ref q :: st) σ e) : zE G T enc Λ k n pc L (.ref a :: st) σ e := by
  obtain ⟨p, e0, R, s, m, args, below, meth, c, D, cA, b, ext, Q, rfl, hx, hb, hml, hown, hts, hK, hfr, hlo, hC, hN, hini, hbs⟩ := h
  intro r S h1 h2 h3 H locs ls hP hS hl
  obtain ⟨C9, T9, N9, tys, f1, f2, f3, f4, f5, f6, f7, f8⟩ := hf
  have h7 := zFs_get (zcv b ext) (σ a) fs 0 kf _ h8
  rw [Nat.zero_add] at h7
  exact va_get (D := D) (ci := ci) hx hb hts f4 hown hK.1 hP.1 a (zWs_at h9) f1 kf f2 (hts _ f3) (fun _ z => z) h7 hd (kk r S h1 h2 h3 H locs ls hP hS hl)
theorem ze_putI {α : Type} {G : zGT} {l : Launch} {cc : ByteArray} {own : String} {nL d C N : Nat} {ini : Bool} {T : Option Value × zMem} {enc : α → Option Value} {Λ : zLay} {k n pc : Nat} {L : zLs} {st : List Value} {σ : zMem} {e : Option (α × zMem)} (h : zOk G l cc own nL d C N ini) {a ci kf idx : Nat} {fs : List (Option (Option Nat))} {ty : FieldType} {x : Int32} (h9 : Λ[a]? = some (.inr (ci, fs))) (h8 : fs[kf]? = some none) (hf : zFld own idx ci kf false ty) (hn : narrow ty (.int x) = .int x) (hfit : fits ty (.int x) = true) (hd : decode cc pc = .ok (.putfield idx, 3)) (kk : zE G T enc Λ k n (pc + 3) L st (zUp σ a kf x) e) : zE G T enc Λ k n pc L (.int x :: .ref a :: st) σ e := by
  obtain ⟨p, e0, R, s, m, args, below, meth, c, D, cA, b, ext, Q, rfl, hx, hb, hml, hown, hts, hK, hfr, hlo, hC, hN, hini, hbs⟩ := h
  intro r S h1 h2 h3 H locs ls hP hS hl
  obtain ⟨C9, T9, N9, tys, f1, f2, f3, f4, f5, f6, f7, f8⟩ := hf
  have hap := va_apart (own := own) hts f4 tys f5 f6 hK.1 f1
  have hat := hP.1 a _ (zWs_at h9)
  obtain ⟨r9, g1, cell, q1, q2, q3, q4⟩ := hat
  have hr : r9 = (C9, T9, N9) := Option.some.inj (g1.symm.trans f1)
  subst hr
  obtain ⟨hSl, hfc, kC, hkC, hkind⟩ := hK.1.1 ci _ f1
  obtain ⟨cf, kf2, fi, f, hi9, hsl⟩ := hSl kf f2
  have hlay := hts _ (f4 _ (u_in_lay f2))
  unfold u_lay at hlay
  rw [if_neg (by rw [f7]; decide)] at hlay
  have hst := (u_facts hfc hkC (u_lays hts f4 f2) hi9).1
  have hd5 := f5 kf f2
  rw [f8] at hd5
  have h6 := u_store hfc hkC hkind hlay hi9 hd5 hn hfit
  refine W.putK hx hb (f := f) ⟨hown, hts _ f3, ⟨_, _, _, hi9⟩, hst⟩ (by rw [q2]; exact h6) q1 q3 (by rw [hsl]; exact k2_hasslot (q4 kf f2)) rfl rfl hd fun H' e1 e2 e3 => ?_
  rw [hsl] at e1 ⊢
  have ha : a < Λ.length := (List.getElem?_eq_some_iff.mp h9).1
  have hlen : kf < (zFs (zcv b ext) (σ a) 0 fs).length := by rw [zFs_len]; exact (List.getElem?_eq_some_iff.mp h8).1
  have e9 := t_OB.to (V' := vp_V ((zFs (zcv b ext) (σ a) 0 fs).set kf (zV (zcv b ext) (.int x)))) (V := updV (vp_V (zFs (zcv b ext) (σ a) 0 fs)) kf (zV (zcv b ext) (.int x))) ⟨_, e1, q2, q3, t_set q4 hap f2 _⟩ (fun j _ => vp_updV_set hlen _ j)
  have hP1 := hP.1.set hP.D (zWs_at h9) (e := .inr (ci, (zFs (zcv b ext) (σ a) 0 fs).set kf (zV (zcv b ext) (.int x)))) ⟨_, f1, e9⟩ e3
  refine kk r S h1 h2 h3 H' _ ls ⟨?_, by rw [e2, hP.2.1], hP.2.2⟩ (hS.put e2 e3 (hP.D.2 a _ (zWs_at h9))) hl
  have e5 : (zFs (zcv b ext) (σ a) 0 fs).set kf (zV (zcv b ext) (.int x)) = zFs (zcv b ext) (upd (σ a) kf x) 0 fs := by
    have := zFs_setI (zcv b ext) (σ a) x fs 0 kf h8
    rw [Nat.zero_add] at this
    exact this
  rw [e5] at hP1
  have e6 := zWs_set0 (cv := zcv b ext) (cA := cA) (σ := σ) (τ := zUp σ a kf x) (e' := .inr (ci, fs)) ha (fun _ hx9 => zUp_ne hx9)
  rw [zset_same Λ a _ h9, zUp_self] at e6
  rw [← e6]
  exact hP1
theorem ze_putIF {α : Type} {G : zGT} {l : Launch} {cc : ByteArray} {own : String} {nL d C N : Nat} {ini : Bool} {T : Option Value × zMem} {enc : α → Option Value} {Λ : zLay} {k n pc : Nat} {L : zLs} {st : List Value} {σ : zMem} {e : Option (α × zMem)} (h : zOk G l cc own nL d C N ini) {a ci kf idx : Nat} {fs : List (Option (Option Nat))} {ty : FieldType} {x : Int32} (h9 : Λ[a]? = some (.inr (ci, fs))) (h8 : fs[kf]? = some none) (hf : zFld own idx ci kf true ty) (hi : ini = true) (ho : ∀ q9, vwCl[ci]? = some q9 → (q9.2.1 kf).1 = own) (hn : narrow ty (.int x) = .int x) (hfit : fits ty (.int x) = true) (hd : decode cc pc = .ok (.putfield idx, 3)) (kk : zE G T enc Λ k n (pc + 3) L st (zUp σ a kf x) e) : zE G T enc Λ k n pc L (.int x :: .ref a :: st) σ e := by
  obtain ⟨p, e0, R, s, m, args, below, meth, c, D, cA, b, ext, Q, rfl, hx, hb, hml, hown, hts, hK, hfr, hlo, hC, hN, hini, hbs⟩ := h
  intro r S h1 h2 h3 H locs ls hP hS hl
  obtain ⟨C9, T9, N9, tys, f1, f2, f3, f4, f5, f6, f7, f8⟩ := hf
  have hap := va_apart (own := own) hts f4 tys f5 f6 hK.1 f1
  have hat := hP.1 a _ (zWs_at h9)
  obtain ⟨r9, g1, cell, q1, q2, q3, q4⟩ := hat
  have hr : r9 = (C9, T9, N9) := Option.some.inj (g1.symm.trans f1)
  subst hr
  obtain ⟨hSl, hfc, kC, hkC, hkind⟩ := hK.1.1 ci _ f1
  obtain ⟨cf, kf2, fi, f, hi9, hsl⟩ := hSl kf f2
  have hlay := hts _ (f4 _ (u_in_lay f2))
  unfold u_lay at hlay
  rw [if_pos f7] at hlay
  have hst := (u_facts hfc hkC (u_lays hts f4 f2) hi9).1
  have hd5 := f5 kf f2
  rw [f8] at hd5
  have hcf : m.cls = cf := by
    obtain ⟨_, _, c', _, _, _, -, -, hf', -, -, -, hown2, -⟩ := Cond.laysFinal_spec hlay
    have e1 : c' = cf := by have := hi9.symm.trans hf'; simp at this; exact this.1.symm
    rw [ho _ f1] at hown2
    rw [← e1]; exact Option.some.inj (hown.symm.trans hown2)
  have h6 := u_fits hfc hkC hkind (Or.inr hlay) hi9 hd5 hn hfit
  refine W.putFinK hx hb hown (hts _ f3) hi9 hst hcf (hini hi) (by rw [q2]; exact h6) q1 q3 (by rw [hsl]; exact k2_hasslot (q4 kf f2)) rfl rfl hd fun H' e1 e2 e3 => ?_
  rw [hsl] at e1 ⊢
  have ha : a < Λ.length := (List.getElem?_eq_some_iff.mp h9).1
  have hlen : kf < (zFs (zcv b ext) (σ a) 0 fs).length := by rw [zFs_len]; exact (List.getElem?_eq_some_iff.mp h8).1
  have e9 := t_OB.to (V' := vp_V ((zFs (zcv b ext) (σ a) 0 fs).set kf (zV (zcv b ext) (.int x)))) (V := updV (vp_V (zFs (zcv b ext) (σ a) 0 fs)) kf (zV (zcv b ext) (.int x))) ⟨_, e1, q2, q3, t_set q4 hap f2 _⟩ (fun j _ => vp_updV_set hlen _ j)
  have hP1 := hP.1.set hP.D (zWs_at h9) (e := .inr (ci, (zFs (zcv b ext) (σ a) 0 fs).set kf (zV (zcv b ext) (.int x)))) ⟨_, f1, e9⟩ e3
  refine kk r S h1 h2 h3 H' _ ls ⟨?_, by rw [e2, hP.2.1], hP.2.2⟩ (hS.put e2 e3 (hP.D.2 a _ (zWs_at h9))) hl
  have e5 : (zFs (zcv b ext) (σ a) 0 fs).set kf (zV (zcv b ext) (.int x)) = zFs (zcv b ext) (upd (σ a) kf x) 0 fs := by
    have := zFs_setI (zcv b ext) (σ a) x fs 0 kf h8
    rw [Nat.zero_add] at this
    exact this
  rw [e5] at hP1
  have e6 := zWs_set0 (cv := zcv b ext) (cA := cA) (σ := σ) (τ := zUp σ a kf x) (e' := .inr (ci, fs)) ha (fun _ hx9 => zUp_ne hx9)
  rw [zset_same Λ a _ h9, zUp_self] at e6
  rw [← e6]
  exact hP1
theorem ze_putR {α : Type} {G : zGT} {l : Launch} {cc : ByteArray} {own : String} {nL d C N : Nat} {ini : Bool} {T : Option Value × zMem} {enc : α → Option Value} {Λ : zLay} {k n pc : Nat} {L : zLs} {st : List Value} {σ : zMem} {e : Option (α × zMem)} (h : zOk G l cc own nL d C N ini) {a ci kf idx q : Nat} {fs : List (Option (Option Nat))} {ty : FieldType} (h9 : Λ[a]? = some (.inr (ci, fs))) (h8 : kf < fs.length) (hf : zFld own idx ci kf false ty) (hn : ∀ z : Nat, narrow ty (.ref z) = .ref z) (hfit : ∀ z : Nat, fits ty (.ref z) = true) (hd : decode cc pc = .ok (.putfield idx, 3)) (kk : zE G T enc (Λ.set a (.inr (ci, fs.set kf (some (some q))))) k n (pc + 3) L st σ e) : zE G T enc Λ k n pc L (.ref q :: .ref a :: st) σ e := by
  obtain ⟨p, e0, R, s, m, args, below, meth, c, D, cA, b, ext, Q, rfl, hx, hb, hml, hown, hts, hK, hfr, hlo, hC, hN, hini, hbs⟩ := h
  intro r S h1 h2 h3 H locs ls hP hS hl
  obtain ⟨C9, T9, N9, tys, f1, f2, f3, f4, f5, f6, f7, f8⟩ := hf
  have hap := va_apart (own := own) hts f4 tys f5 f6 hK.1 f1
  have hat := hP.1 a _ (zWs_at h9)
  obtain ⟨r9, g1, cell, q1, q2, q3, q4⟩ := hat
  have hr : r9 = (C9, T9, N9) := Option.some.inj (g1.symm.trans f1)
  subst hr
  obtain ⟨hSl, hfc, kC, hkC, hkind⟩ := hK.1.1 ci _ f1
  obtain ⟨cf, kf2, fi, f, hi9, hsl⟩ := hSl kf f2
  have hlay := hts _ (f4 _ (u_in_lay f2))
  unfold u_lay at hlay
  rw [if_neg (by rw [f7]; decide)] at hlay
  have hst := (u_facts hfc hkC (u_lays hts f4 f2) hi9).1
  have hd5 := f5 kf f2
  rw [f8] at hd5
  have h6 := u_store hfc hkC hkind hlay hi9 hd5 (hn (zcv b ext q)) (hfit (zcv b ext q))
  refine W.putK hx hb (f := f) ⟨hown, hts _ f3, ⟨_, _, _, hi9⟩, hst⟩ (by rw [q2]; exact h6) q1 q3 (by rw [hsl]; exact k2_hasslot (q4 kf f2)) rfl rfl hd fun H' e1 e2 e3 => ?_
  rw [hsl] at e1 ⊢
  have ha : a < Λ.length := (List.getElem?_eq_some_iff.mp h9).1
  have hlen : kf < (zFs (zcv b ext) (σ a) 0 fs).length := by rw [zFs_len]; exact h8
  have e9 := t_OB.to (V' := vp_V ((zFs (zcv b ext) (σ a) 0 fs).set kf (zV (zcv b ext) (.ref q)))) (V := updV (vp_V (zFs (zcv b ext) (σ a) 0 fs)) kf (zV (zcv b ext) (.ref q))) ⟨_, e1, q2, q3, t_set q4 hap f2 _⟩ (fun j _ => vp_updV_set hlen _ j)
  have hP1 := hP.1.set hP.D (zWs_at h9) (e := .inr (ci, (zFs (zcv b ext) (σ a) 0 fs).set kf (zV (zcv b ext) (.ref q)))) ⟨_, f1, e9⟩ e3
  refine kk r S h1 h2 h3 H' _ ls ⟨?_, by rw [e2, hP.2.1]; simp, by simpa using hP.2.2⟩ (hS.put e2 e3 (hP.D.2 a _ (zWs_at h9))) hl
  have e5 : (zFs (zcv b ext) (σ a) 0 fs).set kf (zV (zcv b ext) (.ref q)) = zFs (zcv b ext) (σ a) 0 (fs.set kf (some (some q))) := zFs_setR _ _ q fs 0 kf h8
  rw [e5] at hP1
  have e6 := zWs_set0 (cv := zcv b ext) (cA := cA) (σ := σ) (τ := σ) (e' := .inr (ci, fs.set kf (some (some q)))) ha (fun _ _ => rfl)
  rw [← e6]
  exact hP1
theorem ze_putRF {α : Type} {G : zGT} {l : Launch} {cc : ByteArray} {own : String} {nL d C N : Nat} {ini : Bool} {T : Option Value × zMem} {enc : α → Option Value} {Λ : zLay} {k n pc : Nat} {L : zLs} {st : List Value} {σ : zMem} {e : Option (α × zMem)} (h : zOk G l cc own nL d C N ini) {a ci kf idx q : Nat} {fs : List (Option (Option Nat))} {ty : FieldType} (h9 : Λ[a]? = some (.inr (ci, fs))) (h8 : kf < fs.length) (hf : zFld own idx ci kf true ty) (hi : ini = true) (ho : ∀ q9, vwCl[ci]? = some q9 → (q9.2.1 kf).1 = own) (hn : ∀ z : Nat, narrow ty (.ref z) = .ref z) (hfit : ∀ z : Nat, fits ty (.ref z) = true) (hd : decode cc pc = .ok (.putfield idx, 3)) (kk : zE G T enc (Λ.set a (.inr (ci, fs.set kf (some (some q))))) k n (pc + 3) L st σ e) : zE G T enc Λ k n pc L (.ref q :: .ref a :: st) σ e := by
  obtain ⟨p, e0, R, s, m, args, below, meth, c, D, cA, b, ext, Q, rfl, hx, hb, hml, hown, hts, hK, hfr, hlo, hC, hN, hini, hbs⟩ := h
  intro r S h1 h2 h3 H locs ls hP hS hl
  obtain ⟨C9, T9, N9, tys, f1, f2, f3, f4, f5, f6, f7, f8⟩ := hf
  have hap := va_apart (own := own) hts f4 tys f5 f6 hK.1 f1
  have hat := hP.1 a _ (zWs_at h9)
  obtain ⟨r9, g1, cell, q1, q2, q3, q4⟩ := hat
  have hr : r9 = (C9, T9, N9) := Option.some.inj (g1.symm.trans f1)
  subst hr
  obtain ⟨hSl, hfc, kC, hkC, hkind⟩ := hK.1.1 ci _ f1
  obtain ⟨cf, kf2, fi, f, hi9, hsl⟩ := hSl kf f2
  have hlay := hts _ (f4 _ (u_in_lay f2))
  unfold u_lay at hlay
  rw [if_pos f7] at hlay
  have hst := (u_facts hfc hkC (u_lays hts f4 f2) hi9).1
  have hd5 := f5 kf f2
  rw [f8] at hd5
  have hcf : m.cls = cf := by
    obtain ⟨_, _, c', _, _, _, -, -, hf', -, -, -, hown2, -⟩ := Cond.laysFinal_spec hlay
    have e1 : c' = cf := by have := hi9.symm.trans hf'; simp at this; exact this.1.symm
    rw [ho _ f1] at hown2
    rw [← e1]; exact Option.some.inj (hown.symm.trans hown2)
  have h6 := u_fits hfc hkC hkind (Or.inr hlay) hi9 hd5 (hn (zcv b ext q)) (hfit (zcv b ext q))
  refine W.putFinK hx hb hown (hts _ f3) hi9 hst hcf (hini hi) (by rw [q2]; exact h6) q1 q3 (by rw [hsl]; exact k2_hasslot (q4 kf f2)) rfl rfl hd fun H' e1 e2 e3 => ?_
  rw [hsl] at e1 ⊢
  have ha : a < Λ.length := (List.getElem?_eq_some_iff.mp h9).1
  have hlen : kf < (zFs (zcv b ext) (σ a) 0 fs).length := by rw [zFs_len]; exact h8
  have e9 := t_OB.to (V' := vp_V ((zFs (zcv b ext) (σ a) 0 fs).set kf (zV (zcv b ext) (.ref q)))) (V := updV (vp_V (zFs (zcv b ext) (σ a) 0 fs)) kf (zV (zcv b ext) (.ref q))) ⟨_, e1, q2, q3, t_set q4 hap f2 _⟩ (fun j _ => vp_updV_set hlen _ j)
  have hP1 := hP.1.set hP.D (zWs_at h9) (e := .inr (ci, (zFs (zcv b ext) (σ a) 0 fs).set kf (zV (zcv b ext) (.ref q)))) ⟨_, f1, e9⟩ e3
  refine kk r S h1 h2 h3 H' _ ls ⟨?_, by rw [e2, hP.2.1]; simp, by simpa using hP.2.2⟩ (hS.put e2 e3 (hP.D.2 a _ (zWs_at h9))) hl
  have e5 : (zFs (zcv b ext) (σ a) 0 fs).set kf (zV (zcv b ext) (.ref q)) = zFs (zcv b ext) (σ a) 0 (fs.set kf (some (some q))) := zFs_setR _ _ q fs 0 kf h8
  rw [e5] at hP1
  have e6 := zWs_set0 (cv := zcv b ext) (cA := cA) (σ := σ) (τ := σ) (e' := .inr (ci, fs.set kf (some (some q)))) ha (fun _ _ => rfl)
  rw [← e6]
  exact hP1
theorem ze_iald {α : Type} {G : zGT} {l : Launch} {cc : ByteArray} {own : String} {nL d C N : Nat} {ini : Bool} {T : Option Value × zMem} {enc : α → Option Value} {Λ : zLay} {k n pc : Nat} {L : zLs} {st : List Value} {σ : zMem} {e : Option (α × zMem)} (h : zOk G l cc own nL d C N ini) {a n9 : Nat} {i : Int32} (h9 : Λ[a]? = some (.inl n9)) (hin : vp_in i n9) (hd : decode cc pc = .ok (.iaload, 1)) (kk : zE G T enc Λ k n (pc + 1) L (.int (σ a (zix i)) :: st) σ e) : zE G T enc Λ k n pc L (.int i :: .ref a :: st) σ e := by
  obtain ⟨p, e0, R, s, m, args, below, meth, c, D, cA, b, ext, Q, rfl, hx, hb, hml, hown, hts, hK, hfr, hlo, hC, hN, hini, hbs⟩ := h
  intro r S h1 h2 h3 H locs ls hP hS hl
  exact va_iald (D := D) hx hb hK.1 hP.1 a 0 (zWs_at h9) rfl hin hd (kk r S h1 h2 h3 H locs ls hP hS hl)
theorem ze_ialdG {α : Type} {G : zGT} {l : Launch} {cc : ByteArray} {own : String} {nL d C N : Nat} {ini : Bool} {T : Option Value × zMem} {enc : α → Option Value} {Λ : zLay} {k n pc : Nat} {L : zLs} {st : List Value} {σ : zMem} {e : Option (α × zMem)} (h : zOk G l cc own nL d C N ini) {a n9 : Nat} {i : Int32} (h9 : Λ[a]? = some (.inl n9)) (hd : decode cc pc = .ok (.iaload, 1)) (kk : zE G T enc Λ k n (pc + 1) L (.int (σ a (zix i)) :: st) σ e) : zE G T enc Λ k n pc L (.int i :: .ref a :: st) σ (gd (zib i n9) e) := fun r S h1 h2 h3 => ze_iald h h9 (zib_in (zgd h1).1) hd kk r S (zgd h1).2 h2 h3
theorem ze_iast {α : Type} {G : zGT} {l : Launch} {cc : ByteArray} {own : String} {nL d C N : Nat} {ini : Bool} {T : Option Value × zMem} {enc : α → Option Value} {Λ : zLay} {k n pc : Nat} {L : zLs} {st : List Value} {σ : zMem} {e : Option (α × zMem)} (h : zOk G l cc own nL d C N ini) {a n9 : Nat} {i x : Int32} (h9 : Λ[a]? = some (.inl n9)) (hin : vp_in i n9) (hd : decode cc pc = .ok (.iastore, 1)) (kk : zE G T enc Λ k n (pc + 1) L st (zUp σ a (zix i) x) e) : zE G T enc Λ k n pc L (.int x :: .int i :: .ref a :: st) σ e := by
  obtain ⟨p, e0, R, s, m, args, below, meth, c, D, cA, b, ext, Q, rfl, hx, hb, hml, hown, hts, hK, hfr, hlo, hC, hN, hini, hbs⟩ := h
  intro r S h1 h2 h3 H locs ls hP hS hl
  have hat := hP.1 a _ (zWs_at h9)
  have ha : a < Λ.length := (List.getElem?_eq_some_iff.mp h9).1
  refine W.iast hx hb hat ((hK.1.2 0 _ rfl).1 n9 (fun j => .int (σ a j))) (fun q => by cases q) (by show ¬ (i < 0 ∨ (arrV _ _ _).slots.size ≤ _); rw [arrV_size]; exact hin) rfl rfl hd fun H1 e1 e2 e3 => ?_
  have hP1 := hP.1.set hP.D (zWs_at h9) (e := .inl (cA, n9, .inl (upd (σ a) (zix i) x))) (by
    show H1[zcv b ext a]? = some (vp_cell _ _)
    rw [e1]
    show some ((vp_cell cA (n9, .inl (σ a))).setSlot _ _) = _
    rw [vp_cell_i, vp_cell_i, arrV_store]
    congr 2
    funext q
    by_cases hq : q = i.toNatClampNeg
    · subst hq; simp [updV, upd]
    · simp [updV, upd, hq]) e3
  refine kk r S h1 h2 h3 H1 _ ls ⟨?_, by rw [e2]; exact hP.2.1, hP.2.2⟩ (hS.put e2 e3 (hP.D.2 a _ (zWs_at h9))) hl
  have e6 := zWs_set0 (cv := zcv b ext) (cA := cA) (σ := σ) (τ := zUp σ a (zix i) x) (e' := .inl n9) ha (fun _ hx9 => zUp_ne hx9)
  rw [zset_same Λ a _ h9, zUp_self] at e6
  rw [← e6]
  exact hP1
theorem ze_iastG {α : Type} {G : zGT} {l : Launch} {cc : ByteArray} {own : String} {nL d C N : Nat} {ini : Bool} {T : Option Value × zMem} {enc : α → Option Value} {Λ : zLay} {k n pc : Nat} {L : zLs} {st : List Value} {σ : zMem} {e : Option (α × zMem)} (h : zOk G l cc own nL d C N ini) {a n9 : Nat} {i x : Int32} (h9 : Λ[a]? = some (.inl n9)) (hd : decode cc pc = .ok (.iastore, 1)) (kk : zE G T enc Λ k n (pc + 1) L st (zUp σ a (zix i) x) e) : zE G T enc Λ k n pc L (.int x :: .int i :: .ref a :: st) σ (gd (zib i n9) e) := fun r S h1 h2 h3 => ze_iast h h9 (zib_in (zgd h1).1) hd kk r S (zgd h1).2 h2 h3
theorem ze_alen {α : Type} {G : zGT} {l : Launch} {cc : ByteArray} {own : String} {nL d C N : Nat} {ini : Bool} {T : Option Value × zMem} {enc : α → Option Value} {Λ : zLay} {k n pc : Nat} {L : zLs} {st : List Value} {σ : zMem} {e : Option (α × zMem)} (h : zOk G l cc own nL d C N ini) {a n9 : Nat} {v : Int32} (h9 : Λ[a]? = some (.inl n9)) (hv : Int32.ofNat n9 = v) (hd : decode cc pc = .ok (.arraylength, 1)) (kk : zE G T enc Λ k n (pc + 1) L (.int v :: st) σ e) : zE G T enc Λ k n pc L (.ref a :: st) σ e := by
  obtain ⟨p, e0, R, s, m, args, below, meth, c, D, cA, b, ext, Q, rfl, hx, hb, hml, hown, hts, hK, hfr, hlo, hC, hN, hini, hbs⟩ := h
  intro r S h1 h2 h3 H locs ls hP hS hl
  exact va_alen (D := D) hx hb hK.1 hP.1 a 0 (x := (n9, .inl (σ a))) (zWs_at h9) (ty := .int) rfl hv hd (kk r S h1 h2 h3 H locs ls hP hS hl)
end
section
theorem zKst.blind {D : va_G} {cA : ClassId} {b : Nat} {ext : Nat → Nat} {Λ : zLay} {σ : zMem} {av : List Value} : FrameBlind (va_Pc av (zPre D cA b ext Λ σ)) := fun a U g mk q => ⟨q.1, q.2.1, zKst.go (s := U) (U := U.calling g mk a) (H0 := U.heap) (H := U.heap) (locs := []) q.2.2 va_S.rf (State.WarmedH.refl U)⟩
theorem zfin {p : Program} {l : Launch} {e : Env} {R : Room} {s : State} {m : MethodId} {args : Array Value} {below : List Frame} {meth : Method} {c : Code} {D : va_G} {cA : ClassId} {b : Nat} {ext : Nat → Nat} {H : Heap} {locs : List Loc} {k n mc ms : Nat} {Q : State → Prop} {pc : Nat} {ls : Array Slot} {st0 rest : List Value} {V : Option Value} {Λ' : zLay} {S' : zMem} {a : Array Value}
    (hr : va_Run p l e R s m args below meth c H locs k n mc ms (F0 m pc ls st0) rest (zPost D cA b ext V Λ' S' a) (zA b)) (hS : va_S (zA b) s.heap H locs)
    (kk : ∀ (H1 : Heap) (locs1 : List Loc), zPic D cA b ext Λ' S' H1 → va_S (zA b) s.heap H1 locs1 → W p l e R s m args below meth c H1 locs1 (k + mc) (n + ms) Q (F0 m (pc + 3) ls ((V.map (zV (zcv b ext))).toList ++ rest))) : W p l e R s m args below meth c H locs k n Q (F0 m pc ls st0) := by
  intro T hT X
  obtain ⟨v, st₀, t, T', Lc, h0, X', hL, e1, e2, ⟨hv, hp, hz, hk⟩, stp⟩ := hr T hT X
  cases hv
  rw [h0] at hz hk
  obtain ⟨t2, a1, b1⟩ := kk T'.heap (locs ++ Lc) (by rw [e1]; exact hp) ⟨Nat.le_trans hS.1 (by rw [e1]; exact hz), fun q h1 h2 => by rw [e1, hk q (Nat.lt_of_lt_of_le h1 hS.1) h2]; exact hS.2.1 q h1 h2, fun q hq => by
    rcases List.mem_append.mp hq with h | h
    · exact hS.2.2 q h
    · exact hL q h⟩ T' rfl X'
  exact ⟨t2, stp t2 a1, b1⟩
theorem zcv_ext {b : Nat} {ext : Nat → Nat} {i : Nat} : zcv b ext (1000 + i) = ext i := by
  unfold zcv
  rw [if_neg (by omega), Nat.add_sub_cancel_left]
def zC {α : Type} (l : Launch) (y : MethodName) (c : Cond) (d : Nat) (args : List Value) (Λ : zLay) (σ : zMem) (enc : α → Option Value) (f : Option (α × zMem)) : Prop := ∀ r S, f = some (r, S) → zMet l y c d 0 0 args Λ σ (enc r) Λ S
def zCI (l : Launch) (y : MethodName) (c : Cond) (d mc ms : Nat) (args : List Value) (Λ : zLay) (σ : zMem) (Λ' : zLay) (f : Option (Unit × zMem)) : Prop := ∀ r S, f = some (r, S) → zMet l y c d mc ms args Λ σ none Λ' S
theorem zC_of {α : Type} {l : Launch} {y : MethodName} {cc : ByteArray} {nL : Nat} {ret : Option FieldType} {d : Nat} {own : String} {args : List Value} {Λ : zLay} {σ : zMem} {enc : α → Option Value} {f : Option (α × zMem)} (hy : plainName y.cls = true) (hown : y.cls = own) (hl : (zArgs args).length ≤ nL) (L : zLs) (hL : zArgs args ++ List.replicate (nL - (zArgs args).length) none = L)
    (h : ∀ (G : zGT) (T : Option Value × zMem), zOk G l cc own nL d 0 0 false → zR G cc ret T Λ 0 0 → zE G T enc Λ 0 0 0 L [] σ f) : zC l y (.code y cc nL ret) d args Λ σ enc f := by
  intro r S hf
  exact zM_of (T := (enc r, S)) (ini := false) hy hown (fun q => by cases q) hl L hL (fun G hG hR => h G (enc r, S) hG hR r S hf rfl rfl)
theorem zCI_of {l : Launch} {y : MethodName} {cc : ByteArray} {nL : Nat} {d mc ms : Nat} {own : String} {args : List Value} {Λ Λ' : zLay} {σ : zMem} {f : Option (Unit × zMem)} (hy : plainName y.cls = true) (hown : y.cls = own) (hi : y.name = "<init>") (hl : (zArgs args).length ≤ nL) (L : zLs) (hL : zArgs args ++ List.replicate (nL - (zArgs args).length) none = L)
    (h : ∀ (G : zGT) (T : Option Value × zMem), zOk G l cc own nL d mc ms true → zR G cc none T Λ' mc ms → zE G T (fun _ : Unit => none) Λ 0 0 0 L [] σ f) : zCI l y (.code y cc nL none) d mc ms args Λ σ Λ' f := by
  intro r S hf
  exact zM_of (T := (none, S)) (ini := true) hy hown (fun _ => hi) hl L hL (fun G hG hR => h G (none, S) hG hR r S hf rfl rfl)
def zCe (y : MethodName) (cb : ByteArray) (nL : Nat) (ret : Option FieldType) (n : Nat) : Prop := Cond.code y cb nL ret ∈ zW ∧ Cond.initialized y.cls ∈ zW ∧ (y.cls ≠ "java/lang/invoke/MethodHandle" ∧ y.cls ≠ "java/lang/invoke/VarHandle") ∧ (parseMethodDescriptor y.desc).map (fun d => d.parameters.length) = some n ∧ nL ≤ 29
theorem zgood_cons {c : Cond} (h : c ∈ zW) : GoodIn zW (c :: zW) := fun w hw => by
  rcases List.mem_cons.mp hw with e | e
  · rw [e]; exact zW_good c h
  · exact zW_good w e
theorem zcons {c : Cond} {ws : List Cond} (h : c ∈ zW) (g : GoodIn zW ws) : GoodIn zW (c :: ws) := fun w hw => by
  rcases List.mem_cons.mp hw with e | e
  · rw [e]; exact zW_good c h
  · exact g w e
theorem zbd {α β : Type} {m : Option (α × zMem)} {f : α → zMem → Option β} {q : β} (h : bd m f = some q) : ∃ r S, m = some (r, S) ∧ f r S = some q := by
  cases m with
  | none => cases h
  | some w => exact ⟨w.1, w.2, rfl, h⟩
theorem ze_callV {α : Type} {G : zGT} {l : Launch} {cc : ByteArray} {own : String} {nL d C N : Nat} {ini : Bool} {T : Option Value × zMem} {enc : α → Option Value} {Λ : zLay} {k n pc : Nat} {L : zLs} {st : List Value} {σ : zMem} {β : Type} {f : Option (β × zMem)} {enc2 : β → Option Value} {kf : β → zMem → Option (α × zMem)} {st0 As : List Value} {y : MethodName} {cb : ByteArray} {nL2 n9 idx dd : Nat} {ret : Option FieldType} (h : zOk G l cc own nL d C N ini) (hy : zCe y cb nL2 ret n9) (hi9 : Cond.instanceMethod y ∈ zW) (hs9 : Cond.selects y.cls y y ∈ zW) (hm : Cond.methodLink own idx y ∈ zW) {a ci : Nat} {fs : List (Option (Option Nat))} {q9 : vw_C} (h9 : Λ[a]? = some (.inr (ci, fs))) (hc : vwCl[ci]? = some q9) (hq : q9.1 = y.cls) (hdd : dd + 1 ≤ d) (hkn : k ≤ C ∧ n ≤ N) (hcon : zC l y (.code y cb nL2 ret) dd (.ref a :: As) Λ σ enc2 f) (hn : As.length = n9) (hw : (st.map fun v => v.category).sum ≤ 8) (hst : As.reverse ++ .ref a :: st = st0) (hd : decode cc pc = .ok (.invokevirtual idx, 3)) (kk : ∀ (r : β) (S : zMem), zE G T enc Λ k n (pc + 3) L ((enc2 r).toList ++ st) S (kf r S)) : zE G T enc Λ k n pc L st0 σ (bd f kf) := by
  intro r S h1 h2 h3
  obtain ⟨r2, S2, hf, h1⟩ := zbd h1
  have hM := hcon r2 S2 hf
  have hkk := kk r2 S2 r S h1 h2 h3
  obtain ⟨y1, y2, y3, y4, y5⟩ := hy
  obtain ⟨p, e0, R, s, m, args, below, meth, c, D, cA, b, ext, Q, rfl, hx, hb, hml, hown, hts, hK, hfr, hlo, hC, hN, hini, hbs⟩ := h
  intro H locs ls hP hS hl
  have hR9 : (zroom dd 0 0).frames + 1 ≤ R.frames ∧ 8 + (nL2 + 11) + (zroom dd 0 0).locals ≤ R.locals := ⟨by show dd + 1 ≤ _; omega, by show 8 + (nL2 + 11) + 64 * dd ≤ _; omega⟩
  have hcells : k + 0 ≤ R.cells ∧ n + 0 ≤ R.slots := ⟨by omega, by omega⟩
  have hW9 : (List.map (fun v => Value.category v) (List.map (zV (zcv b ext)) st)).sum ≤ 8 := by rw [zCat]; exact hw
  have hpre : ∀ U : State, U.heap = H → s.WarmedH U.vm → va_Pc (List.map (zV (zcv b ext)) (.ref a :: As)) (zPre D cA b ext Λ σ) (List.map (zV (zcv b ext)) (.ref a :: As)).toArray U := fun U hU hWm => ⟨rfl, by rw [hU]; exact hP, zKst.go hK (by rw [hU]; exact hS) hWm⟩
  have hG9 : GoodIn zW (wsV own idx y.cls y ((Cond.code y cb nL2 ret) :: zW)) := zcons hm (zcons hi9 (zcons hs9 (zcons y2 (zgood_cons y1))))
  have hrun := va_runV (e := e0) (below := below) (meth := meth) (As := List.map (zV (zcv b ext)) As) (rest := List.map (zV (zcv b ext)) st) (b := zcv b ext a) (g := F0 m pc ls (List.map (zV (zcv b ext)) st0)) (H := H) (locs := locs) (cells := k) (slots := n) (C := y.cls) (Ts := zW) ⟨hx, hb, hml, hown, hts⟩ (hM D cA b ext) (cwV n9 hts hG9 rfl rfl rfl ⟨rfl, y3.1, y3.2, y4⟩ hR9) ⟨zKst.blind, by rw [← hq]; exact va_recv hK.1 hP.1 hc (zWs_at h9), hpre⟩ rfl (by rw [List.length_map]; exact hn) hl.1 (by subst hst; show List.map (zV (zcv b ext)) _ = _; simp [zV]) (lv_room hW9) hd hcells
  exact zfin hrun hS (fun H1 locs1 hP1 hS1 => by
    have := hkk H1 locs1 ls hP1 hS1 hl
    rw [List.map_append] at this
    cases he : enc2 r2 with
    | none => rw [he] at this; exact this
    | some v9 => rw [he] at this; exact this)
theorem ze_callT {α : Type} {G : zGT} {l : Launch} {cc : ByteArray} {own : String} {nL d C N : Nat} {ini : Bool} {T : Option Value × zMem} {enc : α → Option Value} {Λ : zLay} {k n pc : Nat} {L : zLs} {st : List Value} {σ : zMem} {β : Type} {f : Option (β × zMem)} {enc2 : β → Option Value} {kf : β → zMem → Option (α × zMem)} {st0 As : List Value} {y : MethodName} {cb : ByteArray} {nL2 n9 idx dd : Nat} {ret : Option FieldType} (h : zOk G l cc own nL d C N ini) (hy : zCe y cb nL2 ret n9) (hi9 : Cond.instanceMethod y ∈ zW) (hs9 : Cond.selects y.cls y y ∈ zW) (hm : Cond.methodLink own idx y ∈ zW) {i a : Nat} (ha : a = 1000 + i) (hi : i < 13) (hq : y.cls = "java/lang/String") (hdd : dd + 1 ≤ d) (hkn : k ≤ C ∧ n ≤ N) (hcon : zC l y (.code y cb nL2 ret) dd (.ref a :: As) Λ σ enc2 f) (hn : As.length = n9) (hw : (st.map fun v => v.category).sum ≤ 8) (hst : As.reverse ++ .ref a :: st = st0) (hd : decode cc pc = .ok (.invokevirtual idx, 3)) (kk : ∀ (r : β) (S : zMem), zE G T enc Λ k n (pc + 3) L ((enc2 r).toList ++ st) S (kf r S)) : zE G T enc Λ k n pc L st0 σ (bd f kf) := by
  intro r S h1 h2 h3
  obtain ⟨r2, S2, hf, h1⟩ := zbd h1
  have hM := hcon r2 S2 hf
  have hkk := kk r2 S2 r S h1 h2 h3
  obtain ⟨y1, y2, y3, y4, y5⟩ := hy
  obtain ⟨p, e0, R, s, m, args, below, meth, c, D, cA, b, ext, Q, rfl, hx, hb, hml, hown, hts, hK, hfr, hlo, hC, hN, hini, hbs⟩ := h
  intro H locs ls hP hS hl
  have hR9 : (zroom dd 0 0).frames + 1 ≤ R.frames ∧ 8 + (nL2 + 11) + (zroom dd 0 0).locals ≤ R.locals := ⟨by show dd + 1 ≤ _; omega, by show 8 + (nL2 + 11) + 64 * dd ≤ _; omega⟩
  have hcells : k + 0 ≤ R.cells ∧ n + 0 ≤ R.slots := ⟨by omega, by omega⟩
  have hW9 : (List.map (fun v => Value.category v) (List.map (zV (zcv b ext)) st)).sum ≤ 8 := by rw [zCat]; exact hw
  have hpre : ∀ U : State, U.heap = H → s.WarmedH U.vm → va_Pc (List.map (zV (zcv b ext)) (.ref a :: As)) (zPre D cA b ext Λ σ) (List.map (zV (zcv b ext)) (.ref a :: As)).toArray U := fun U hU hWm => ⟨rfl, by rw [hU]; exact hP, zKst.go hK (by rw [hU]; exact hS) hWm⟩
  have hG9 : GoodIn zW (wsV own idx y.cls y ((Cond.code y cb nL2 ret) :: zW)) := zcons hm (zcons hi9 (zcons hs9 (zcons y2 (zgood_cons y1))))
  have hrv : ∃ cell : Cell, H[zcv b ext a]? = some cell ∧ cell.vm.isStatics = false ∧ s.vm.findClass y.cls = some cell.cls := by
    have e9 : zcv b ext a = ext i := by rw [ha]; exact zcv_ext
    rw [e9, hq]
    exact vk_recv hK.2.1 hi hS
  have hrun := va_runV (e := e0) (below := below) (meth := meth) (As := List.map (zV (zcv b ext)) As) (rest := List.map (zV (zcv b ext)) st) (b := zcv b ext a) (g := F0 m pc ls (List.map (zV (zcv b ext)) st0)) (H := H) (locs := locs) (cells := k) (slots := n) (C := y.cls) (Ts := zW) ⟨hx, hb, hml, hown, hts⟩ (hM D cA b ext) (cwV n9 hts hG9 rfl rfl rfl ⟨rfl, y3.1, y3.2, y4⟩ hR9) ⟨zKst.blind, hrv, hpre⟩ rfl (by rw [List.length_map]; exact hn) hl.1 (by subst hst; show List.map (zV (zcv b ext)) _ = _; simp [zV]) (lv_room hW9) hd hcells
  exact zfin hrun hS (fun H1 locs1 hP1 hS1 => by
    have := hkk H1 locs1 ls hP1 hS1 hl
    rw [List.map_append] at this
    cases he : enc2 r2 with
    | none => rw [he] at this; exact this
    | some v9 => rw [he] at this; exact this)
theorem ze_callS {α : Type} {G : zGT} {l : Launch} {cc : ByteArray} {own : String} {nL d C N : Nat} {ini : Bool} {T : Option Value × zMem} {enc : α → Option Value} {Λ : zLay} {k n pc : Nat} {L : zLs} {st : List Value} {σ : zMem} {β : Type} {f : Option (β × zMem)} {enc2 : β → Option Value} {kf : β → zMem → Option (α × zMem)} {st0 As : List Value} {y : MethodName} {cb : ByteArray} {nL2 n9 idx dd : Nat} {ret : Option FieldType} (h : zOk G l cc own nL d C N ini) (hy : zCe y cb nL2 ret n9) (hi9 : Cond.static y ∈ zW) (hm : Cond.methodLink own idx y ∈ zW) (hdd : dd + 1 ≤ d) (hkn : k ≤ C ∧ n ≤ N) (hcon : zC l y (.code y cb nL2 ret) dd As Λ σ enc2 f) (hn : As.length = n9) (hw : (st.map fun v => v.category).sum ≤ 8) (hst : As.reverse ++ st = st0) (hd : decode cc pc = .ok (.invokestatic idx, 3)) (kk : ∀ (r : β) (S : zMem), zE G T enc Λ k n (pc + 3) L ((enc2 r).toList ++ st) S (kf r S)) : zE G T enc Λ k n pc L st0 σ (bd f kf) := by
  intro r S h1 h2 h3
  obtain ⟨r2, S2, hf, h1⟩ := zbd h1
  have hM := hcon r2 S2 hf
  have hkk := kk r2 S2 r S h1 h2 h3
  obtain ⟨y1, y2, y3, y4, y5⟩ := hy
  obtain ⟨p, e0, R, s, m, args, below, meth, c, D, cA, b, ext, Q, rfl, hx, hb, hml, hown, hts, hK, hfr, hlo, hC, hN, hini, hbs⟩ := h
  intro H locs ls hP hS hl
  have hR9 : (zroom dd 0 0).frames + 1 ≤ R.frames ∧ 8 + (nL2 + 11) + (zroom dd 0 0).locals ≤ R.locals := ⟨by show dd + 1 ≤ _; omega, by show 8 + (nL2 + 11) + 64 * dd ≤ _; omega⟩
  have hcells : k + 0 ≤ R.cells ∧ n + 0 ≤ R.slots := ⟨by omega, by omega⟩
  have hW9 : (List.map (fun v => Value.category v) (List.map (zV (zcv b ext)) st)).sum ≤ 8 := by rw [zCat]; exact hw
  have hpre : ∀ U : State, U.heap = H → s.WarmedH U.vm → va_Pc (List.map (zV (zcv b ext)) As) (zPre D cA b ext Λ σ) (List.map (zV (zcv b ext)) As).toArray U := fun U hU hWm => ⟨rfl, by rw [hU]; exact hP, zKst.go hK (by rw [hU]; exact hS) hWm⟩
  have hG9 : GoodIn zW (va_wsS own idx y ((Cond.code y cb nL2 ret) :: zW)) := zcons hm (zcons hi9 (zcons y2 (zgood_cons y1)))
  have hrun := va_runS (e := e0) (below := below) (meth := meth) (As := List.map (zV (zcv b ext)) As) (rest := List.map (zV (zcv b ext)) st) (g := F0 m pc ls (List.map (zV (zcv b ext)) st0)) (H := H) (locs := locs) (cells := k) (slots := n) (Ts := zW) ⟨hx, hb, hml, hown, hts⟩ (hM D cA b ext) (va_cwS n9 hts hG9 rfl rfl rfl ⟨y3.1, y3.2, y4⟩ hR9) ⟨zKst.blind, hpre⟩ rfl (by rw [List.length_map]; exact hn) hl.1 (by subst hst; show List.map (zV (zcv b ext)) _ = _; simp [zV]) (lv_room hW9) hd hcells
  exact zfin hrun hS (fun H1 locs1 hP1 hS1 => by
    have := hkk H1 locs1 ls hP1 hS1 hl
    rw [List.map_append] at this
    cases he : enc2 r2 with
    | none => rw [he] at this; exact this
    | some v9 => rw [he] at this; exact this)
theorem ze_callSN {α : Type} {G : zGT} {l : Launch} {cc : ByteArray} {own : String} {nL d C N : Nat} {ini : Bool} {T : Option Value × zMem} {enc : α → Option Value} {Λ : zLay} {k n pc : Nat} {L : zLs} {st : List Value} {σ : zMem} {β : Type} {f : Option (β × zMem)} {enc2 : β → Option Value} {kf : β → zMem → Option (α × zMem)} {st0 As : List Value} {y : MethodName} {cb : ByteArray} {nL2 n9 idx dd : Nat} {ret : Option FieldType} (h : zOk G l cc own nL d C N ini) (hy : zCe y cb nL2 ret n9) (hi9 : Cond.static y ∈ zW) {j : Nat} {host : String} (hm : zNest[j]? = some (own, idx, y, host)) (hdd : dd + 1 ≤ d) (hkn : k ≤ C ∧ n ≤ N) (hcon : zC l y (.code y cb nL2 ret) dd As Λ σ enc2 f) (hn : As.length = n9) (hw : (st.map fun v => v.category).sum ≤ 8) (hst : As.reverse ++ st = st0) (hd : decode cc pc = .ok (.invokestatic idx, 3)) (kk : ∀ (r : β) (S : zMem), zE G T enc Λ k n (pc + 3) L ((enc2 r).toList ++ st) S (kf r S)) : zE G T enc Λ k n pc L st0 σ (bd f kf) := by
  intro r S h1 h2 h3
  obtain ⟨r2, S2, hf, h1⟩ := zbd h1
  have hM := hcon r2 S2 hf
  have hkk := kk r2 S2 r S h1 h2 h3
  obtain ⟨y1, y2, y3, y4, y5⟩ := hy
  obtain ⟨p, e0, R, s, m, args, below, meth, c, D, cA, b, ext, Q, rfl, hx, hb, hml, hown, hts, hK, hfr, hlo, hC, hN, hini, hbs⟩ := h
  intro H locs ls hP hS hl
  have hR9 : (zroom dd 0 0).frames + 1 ≤ R.frames ∧ 8 + (nL2 + 11) + (zroom dd 0 0).locals ≤ R.locals := ⟨by show dd + 1 ≤ _; omega, by show 8 + (nL2 + 11) + 64 * dd ≤ _; omega⟩
  have hcells : k + 0 ≤ R.cells ∧ n + 0 ≤ R.slots := ⟨by omega, by omega⟩
  have hW9 : (List.map (fun v => Value.category v) (List.map (zV (zcv b ext)) st)).sum ≤ 8 := by rw [zCat]; exact hw
  have hpre : ∀ U : State, U.heap = H → s.WarmedH U.vm → va_Pc (List.map (zV (zcv b ext)) As) (zPre D cA b ext Λ σ) (List.map (zV (zcv b ext)) As).toArray U := fun U hU hWm => ⟨rfl, by rw [hU]; exact hP, zKst.go hK (by rw [hU]; exact hS) hWm⟩
  have hnest : va_Nw (.methodLinkNest own idx y host) s := hK.2.2.2.2.2.2 j _ hm
  have hrun := va_runSN (e := e0) (below := below) (meth := meth) (As := List.map (zV (zcv b ext)) As) (rest := List.map (zV (zcv b ext)) st) (g := F0 m pc ls (List.map (zV (zcv b ext)) st0)) (H := H) (locs := locs) (cells := k) (slots := n) (Ts := zW) ⟨hx, hb, hml, hown, hts⟩ (hM D cA b ext) ⟨va_cnB n9 hts (zgood_cons y1) rfl rfl rfl hnest (hts _ y2) ⟨y3.1, y3.2, y4⟩ hR9, hts _ hi9, trivial⟩ ⟨zKst.blind, hpre⟩ rfl (by rw [List.length_map]; exact hn) hl.1 (by subst hst; show List.map (zV (zcv b ext)) _ = _; simp [zV]) (lv_room hW9) hd hcells
  exact zfin hrun hS (fun H1 locs1 hP1 hS1 => by
    have := hkk H1 locs1 ls hP1 hS1 hl
    rw [List.map_append] at this
    cases he : enc2 r2 with
    | none => rw [he] at this; exact this
    | some v9 => rw [he] at this; exact this)
theorem ze_callVi {α : Type} {G : zGT} {l : Launch} {cc : ByteArray} {own : String} {nL d C N : Nat} {ini : Bool} {T : Option Value × zMem} {enc : α → Option Value} {Λ : zLay} {k n pc : Nat} {L : zLs} {st : List Value} {σ : zMem} {f : Option (Int32 × zMem)} {kf : Int32 → zMem → Option (α × zMem)} {st0 As : List Value} {y : MethodName} {cb : ByteArray} {nL2 n9 idx dd : Nat} {ret : Option FieldType} (h : zOk G l cc own nL d C N ini) (hy : zCe y cb nL2 ret n9) (hi9 : Cond.instanceMethod y ∈ zW) (hs9 : Cond.selects y.cls y y ∈ zW) (hm : Cond.methodLink own idx y ∈ zW) {a ci : Nat} {fs : List (Option (Option Nat))} {q9 : vw_C} (h9 : Λ[a]? = some (.inr (ci, fs))) (hc : vwCl[ci]? = some q9) (hq : q9.1 = y.cls) (hdd : dd + 1 ≤ d) (hkn : k ≤ C ∧ n ≤ N) (hcon : zC l y (.code y cb nL2 ret) dd (.ref a :: As) Λ σ (fun r : Int32 => some (.int r)) f) (hn : As.length = n9) (hw : (st.map fun v => v.category).sum ≤ 8) (hst : As.reverse ++ .ref a :: st = st0) (hd : decode cc pc = .ok (.invokevirtual idx, 3)) (kk : ∀ (r : Int32) (S : zMem), zE G T enc Λ k n (pc + 3) L (.int r :: st) S (kf r S)) : zE G T enc Λ k n pc L st0 σ (bd f kf) := ze_callV (enc2 := (fun r : Int32 => some (.int r))) h hy hi9 hs9 hm h9 hc hq hdd hkn hcon hn hw hst hd kk
theorem ze_callVv {α : Type} {G : zGT} {l : Launch} {cc : ByteArray} {own : String} {nL d C N : Nat} {ini : Bool} {T : Option Value × zMem} {enc : α → Option Value} {Λ : zLay} {k n pc : Nat} {L : zLs} {st : List Value} {σ : zMem} {f : Option (Unit × zMem)} {kf : Unit → zMem → Option (α × zMem)} {st0 As : List Value} {y : MethodName} {cb : ByteArray} {nL2 n9 idx dd : Nat} {ret : Option FieldType} (h : zOk G l cc own nL d C N ini) (hy : zCe y cb nL2 ret n9) (hi9 : Cond.instanceMethod y ∈ zW) (hs9 : Cond.selects y.cls y y ∈ zW) (hm : Cond.methodLink own idx y ∈ zW) {a ci : Nat} {fs : List (Option (Option Nat))} {q9 : vw_C} (h9 : Λ[a]? = some (.inr (ci, fs))) (hc : vwCl[ci]? = some q9) (hq : q9.1 = y.cls) (hdd : dd + 1 ≤ d) (hkn : k ≤ C ∧ n ≤ N) (hcon : zC l y (.code y cb nL2 ret) dd (.ref a :: As) Λ σ (fun _ : Unit => none) f) (hn : As.length = n9) (hw : (st.map fun v => v.category).sum ≤ 8) (hst : As.reverse ++ .ref a :: st = st0) (hd : decode cc pc = .ok (.invokevirtual idx, 3)) (kk : ∀ (r : Unit) (S : zMem), zE G T enc Λ k n (pc + 3) L (st) S (kf r S)) : zE G T enc Λ k n pc L st0 σ (bd f kf) := ze_callV (enc2 := (fun _ : Unit => none)) h hy hi9 hs9 hm h9 hc hq hdd hkn hcon hn hw hst hd kk
theorem ze_callVl {α : Type} {G : zGT} {l : Launch} {cc : ByteArray} {own : String} {nL d C N : Nat} {ini : Bool} {T : Option Value × zMem} {enc : α → Option Value} {Λ : zLay} {k n pc : Nat} {L : zLs} {st : List Value} {σ : zMem} {f : Option (Int64 × zMem)} {kf : Int64 → zMem → Option (α × zMem)} {st0 As : List Value} {y : MethodName} {cb : ByteArray} {nL2 n9 idx dd : Nat} {ret : Option FieldType} (h : zOk G l cc own nL d C N ini) (hy : zCe y cb nL2 ret n9) (hi9 : Cond.instanceMethod y ∈ zW) (hs9 : Cond.selects y.cls y y ∈ zW) (hm : Cond.methodLink own idx y ∈ zW) {a ci : Nat} {fs : List (Option (Option Nat))} {q9 : vw_C} (h9 : Λ[a]? = some (.inr (ci, fs))) (hc : vwCl[ci]? = some q9) (hq : q9.1 = y.cls) (hdd : dd + 1 ≤ d) (hkn : k ≤ C ∧ n ≤ N) (hcon : zC l y (.code y cb nL2 ret) dd (.ref a :: As) Λ σ (fun r : Int64 => some (.long r)) f) (hn : As.length = n9) (hw : (st.map fun v => v.category).sum ≤ 8) (hst : As.reverse ++ .ref a :: st = st0) (hd : decode cc pc = .ok (.invokevirtual idx, 3)) (kk : ∀ (r : Int64) (S : zMem), zE G T enc Λ k n (pc + 3) L (.long r :: st) S (kf r S)) : zE G T enc Λ k n pc L st0 σ (bd f kf) := ze_callV (enc2 := (fun r : Int64 => some (.long r))) h hy hi9 hs9 hm h9 hc hq hdd hkn hcon hn hw hst hd kk
theorem ze_callVr {α : Type} {G : zGT} {l : Launch} {cc : ByteArray} {own : String} {nL d C N : Nat} {ini : Bool} {T : Option Value × zMem} {enc : α → Option Value} {Λ : zLay} {k n pc : Nat} {L : zLs} {st : List Value} {σ : zMem} {f : Option (Nat × zMem)} {kf : Nat → zMem → Option (α × zMem)} {st0 As : List Value} {y : MethodName} {cb : ByteArray} {nL2 n9 idx dd : Nat} {ret : Option FieldType} (h : zOk G l cc own nL d C N ini) (hy : zCe y cb nL2 ret n9) (hi9 : Cond.instanceMethod y ∈ zW) (hs9 : Cond.selects y.cls y y ∈ zW) (hm : Cond.methodLink own idx y ∈ zW) {a ci : Nat} {fs : List (Option (Option Nat))} {q9 : vw_C} (h9 : Λ[a]? = some (.inr (ci, fs))) (hc : vwCl[ci]? = some q9) (hq : q9.1 = y.cls) (hdd : dd + 1 ≤ d) (hkn : k ≤ C ∧ n ≤ N) (hcon : zC l y (.code y cb nL2 ret) dd (.ref a :: As) Λ σ (fun r : Nat => some (.ref r)) f) (hn : As.length = n9) (hw : (st.map fun v => v.category).sum ≤ 8) (hst : As.reverse ++ .ref a :: st = st0) (hd : decode cc pc = .ok (.invokevirtual idx, 3)) (kk : ∀ (r : Nat) (S : zMem), zE G T enc Λ k n (pc + 3) L (.ref r :: st) S (kf r S)) : zE G T enc Λ k n pc L st0 σ (bd f kf) := ze_callV (enc2 := (fun r : Nat => some (.ref r))) h hy hi9 hs9 hm h9 hc hq hdd hkn hcon hn hw hst hd kk
theorem ze_callTi {α : Type} {G : zGT} {l : Launch} {cc : ByteArray} {own : String} {nL d C N : Nat} {ini : Bool} {T : Option Value × zMem} {enc : α → Option Value} {Λ : zLay} {k n pc : Nat} {L : zLs} {st : List Value} {σ : zMem} {f : Option (Int32 × zMem)} {kf : Int32 → zMem → Option (α × zMem)} {st0 As : List Value} {y : MethodName} {cb : ByteArray} {nL2 n9 idx dd : Nat} {ret : Option FieldType} (h : zOk G l cc own nL d C N ini) (hy : zCe y cb nL2 ret n9) (hi9 : Cond.instanceMethod y ∈ zW) (hs9 : Cond.selects y.cls y y ∈ zW) (hm : Cond.methodLink own idx y ∈ zW) {i a : Nat} (ha : a = 1000 + i) (hi : i < 13) (hq : y.cls = "java/lang/String") (hdd : dd + 1 ≤ d) (hkn : k ≤ C ∧ n ≤ N) (hcon : zC l y (.code y cb nL2 ret) dd (.ref a :: As) Λ σ (fun r : Int32 => some (.int r)) f) (hn : As.length = n9) (hw : (st.map fun v => v.category).sum ≤ 8) (hst : As.reverse ++ .ref a :: st = st0) (hd : decode cc pc = .ok (.invokevirtual idx, 3)) (kk : ∀ (r : Int32) (S : zMem), zE G T enc Λ k n (pc + 3) L (.int r :: st) S (kf r S)) : zE G T enc Λ k n pc L st0 σ (bd f kf) := ze_callT (enc2 := (fun r : Int32 => some (.int r))) h hy hi9 hs9 hm ha hi hq hdd hkn hcon hn hw hst hd kk
theorem ze_callTv {α : Type} {G : zGT} {l : Launch} {cc : ByteArray} {own : String} {nL d C N : Nat} {ini : Bool} {T : Option Value × zMem} {enc : α → Option Value} {Λ : zLay} {k n pc : Nat} {L : zLs} {st : List Value} {σ : zMem} {f : Option (Unit × zMem)} {kf : Unit → zMem → Option (α × zMem)} {st0 As : List Value} {y : MethodName} {cb : ByteArray} {nL2 n9 idx dd : Nat} {ret : Option FieldType} (h : zOk G l cc own nL d C N ini) (hy : zCe y cb nL2 ret n9) (hi9 : Cond.instanceMethod y ∈ zW) (hs9 : Cond.selects y.cls y y ∈ zW) (hm : Cond.methodLink own idx y ∈ zW) {i a : Nat} (ha : a = 1000 + i) (hi : i < 13) (hq : y.cls = "java/lang/String") (hdd : dd + 1 ≤ d) (hkn : k ≤ C ∧ n ≤ N) (hcon : zC l y (.code y cb nL2 ret) dd (.ref a :: As) Λ σ (fun _ : Unit => none) f) (hn : As.length = n9) (hw : (st.map fun v => v.category).sum ≤ 8) (hst : As.reverse ++ .ref a :: st = st0) (hd : decode cc pc = .ok (.invokevirtual idx, 3)) (kk : ∀ (r : Unit) (S : zMem), zE G T enc Λ k n (pc + 3) L (st) S (kf r S)) : zE G T enc Λ k n pc L st0 σ (bd f kf) := ze_callT (enc2 := (fun _ : Unit => none)) h hy hi9 hs9 hm ha hi hq hdd hkn hcon hn hw hst hd kk
theorem ze_callTl {α : Type} {G : zGT} {l : Launch} {cc : ByteArray} {own : String} {nL d C N : Nat} {ini : Bool} {T : Option Value × zMem} {enc : α → Option Value} {Λ : zLay} {k n pc : Nat} {L : zLs} {st : List Value} {σ : zMem} {f : Option (Int64 × zMem)} {kf : Int64 → zMem → Option (α × zMem)} {st0 As : List Value} {y : MethodName} {cb : ByteArray} {nL2 n9 idx dd : Nat} {ret : Option FieldType} (h : zOk G l cc own nL d C N ini) (hy : zCe y cb nL2 ret n9) (hi9 : Cond.instanceMethod y ∈ zW) (hs9 : Cond.selects y.cls y y ∈ zW) (hm : Cond.methodLink own idx y ∈ zW) {i a : Nat} (ha : a = 1000 + i) (hi : i < 13) (hq : y.cls = "java/lang/String") (hdd : dd + 1 ≤ d) (hkn : k ≤ C ∧ n ≤ N) (hcon : zC l y (.code y cb nL2 ret) dd (.ref a :: As) Λ σ (fun r : Int64 => some (.long r)) f) (hn : As.length = n9) (hw : (st.map fun v => v.category).sum ≤ 8) (hst : As.reverse ++ .ref a :: st = st0) (hd : decode cc pc = .ok (.invokevirtual idx, 3)) (kk : ∀ (r : Int64) (S : zMem), zE G T enc Λ k n (pc + 3) L (.long r :: st) S (kf r S)) : zE G T enc Λ k n pc L st0 σ (bd f kf) := ze_callT (enc2 := (fun r : Int64 => some (.long r))) h hy hi9 hs9 hm ha hi hq hdd hkn hcon hn hw hst hd kk
theorem ze_callTr {α : Type} {G : zGT} {l : Launch} {cc : ByteArray} {own : String} {nL d C N : Nat} {ini : Bool} {T : Option Value × zMem} {enc : α → Option Value} {Λ : zLay} {k n pc : Nat} {L : zLs} {st : List Value} {σ : zMem} {f : Option (Nat × zMem)} {kf : Nat → zMem → Option (α × zMem)} {st0 As : List Value} {y : MethodName} {cb : ByteArray} {nL2 n9 idx dd : Nat} {ret : Option FieldType} (h : zOk G l cc own nL d C N ini) (hy : zCe y cb nL2 ret n9) (hi9 : Cond.instanceMethod y ∈ zW) (hs9 : Cond.selects y.cls y y ∈ zW) (hm : Cond.methodLink own idx y ∈ zW) {i a : Nat} (ha : a = 1000 + i) (hi : i < 13) (hq : y.cls = "java/lang/String") (hdd : dd + 1 ≤ d) (hkn : k ≤ C ∧ n ≤ N) (hcon : zC l y (.code y cb nL2 ret) dd (.ref a :: As) Λ σ (fun r : Nat => some (.ref r)) f) (hn : As.length = n9) (hw : (st.map fun v => v.category).sum ≤ 8) (hst : As.reverse ++ .ref a :: st = st0) (hd : decode cc pc = .ok (.invokevirtual idx, 3)) (kk : ∀ (r : Nat) (S : zMem), zE G T enc Λ k n (pc + 3) L (.ref r :: st) S (kf r S)) : zE G T enc Λ k n pc L st0 σ (bd f kf) := ze_callT (enc2 := (fun r : Nat => some (.ref r))) h hy hi9 hs9 hm ha hi hq hdd hkn hcon hn hw hst hd kk
theorem ze_callSi {α : Type} {G : zGT} {l : Launch} {cc : ByteArray} {own : String} {nL d C N : Nat} {ini : Bool} {T : Option Value × zMem} {enc : α → Option Value} {Λ : zLay} {k n pc : Nat} {L : zLs} {st : List Value} {σ : zMem} {f : Option (Int32 × zMem)} {kf : Int32 → zMem → Option (α × zMem)} {st0 As : List Value} {y : MethodName} {cb : ByteArray} {nL2 n9 idx dd : Nat} {ret : Option FieldType} (h : zOk G l cc own nL d C N ini) (hy : zCe y cb nL2 ret n9) (hi9 : Cond.static y ∈ zW) (hm : Cond.methodLink own idx y ∈ zW) (hdd : dd + 1 ≤ d) (hkn : k ≤ C ∧ n ≤ N) (hcon : zC l y (.code y cb nL2 ret) dd As Λ σ (fun r : Int32 => some (.int r)) f) (hn : As.length = n9) (hw : (st.map fun v => v.category).sum ≤ 8) (hst : As.reverse ++ st = st0) (hd : decode cc pc = .ok (.invokestatic idx, 3)) (kk : ∀ (r : Int32) (S : zMem), zE G T enc Λ k n (pc + 3) L (.int r :: st) S (kf r S)) : zE G T enc Λ k n pc L st0 σ (bd f kf) := ze_callS (enc2 := (fun r : Int32 => some (.int r))) h hy hi9 hm hdd hkn hcon hn hw hst hd kk
theorem ze_callSv {α : Type} {G : zGT} {l : Launch} {cc : ByteArray} {own : String} {nL d C N : Nat} {ini : Bool} {T : Option Value × zMem} {enc : α → Option Value} {Λ : zLay} {k n pc : Nat} {L : zLs} {st : List Value} {σ : zMem} {f : Option (Unit × zMem)} {kf : Unit → zMem → Option (α × zMem)} {st0 As : List Value} {y : MethodName} {cb : ByteArray} {nL2 n9 idx dd : Nat} {ret : Option FieldType} (h : zOk G l cc own nL d C N ini) (hy : zCe y cb nL2 ret n9) (hi9 : Cond.static y ∈ zW) (hm : Cond.methodLink own idx y ∈ zW) (hdd : dd + 1 ≤ d) (hkn : k ≤ C ∧ n ≤ N) (hcon : zC l y (.code y cb nL2 ret) dd As Λ σ (fun _ : Unit => none) f) (hn : As.length = n9) (hw : (st.map fun v => v.category).sum ≤ 8) (hst : As.reverse ++ st = st0) (hd : decode cc pc = .ok (.invokestatic idx, 3)) (kk : ∀ (r : Unit) (S : zMem), zE G T enc Λ k n (pc + 3) L (st) S (kf r S)) : zE G T enc Λ k n pc L st0 σ (bd f kf) := ze_callS (enc2 := (fun _ : Unit => none)) h hy hi9 hm hdd hkn hcon hn hw hst hd kk
theorem ze_callSl {α : Type} {G : zGT} {l : Launch} {cc : ByteArray} {own : String} {nL d C N : Nat} {ini : Bool} {T : Option Value × zMem} {enc : α → Option Value} {Λ : zLay} {k n pc : Nat} {L : zLs} {st : List Value} {σ : zMem} {f : Option (Int64 × zMem)} {kf : Int64 → zMem → Option (α × zMem)} {st0 As : List Value} {y : MethodName} {cb : ByteArray} {nL2 n9 idx dd : Nat} {ret : Option FieldType} (h : zOk G l cc own nL d C N ini) (hy : zCe y cb nL2 ret n9) (hi9 : Cond.static y ∈ zW) (hm : Cond.methodLink own idx y ∈ zW) (hdd : dd + 1 ≤ d) (hkn : k ≤ C ∧ n ≤ N) (hcon : zC l y (.code y cb nL2 ret) dd As Λ σ (fun r : Int64 => some (.long r)) f) (hn : As.length = n9) (hw : (st.map fun v => v.category).sum ≤ 8) (hst : As.reverse ++ st = st0) (hd : decode cc pc = .ok (.invokestatic idx, 3)) (kk : ∀ (r : Int64) (S : zMem), zE G T enc Λ k n (pc + 3) L (.long r :: st) S (kf r S)) : zE G T enc Λ k n pc L st0 σ (bd f kf) := ze_callS (enc2 := (fun r : Int64 => some (.long r))) h hy hi9 hm hdd hkn hcon hn hw hst hd kk
theorem ze_callSr {α : Type} {G : zGT} {l : Launch} {cc : ByteArray} {own : String} {nL d C N : Nat} {ini : Bool} {T : Option Value × zMem} {enc : α → Option Value} {Λ : zLay} {k n pc : Nat} {L : zLs} {st : List Value} {σ : zMem} {f : Option (Nat × zMem)} {kf : Nat → zMem → Option (α × zMem)} {st0 As : List Value} {y : MethodName} {cb : ByteArray} {nL2 n9 idx dd : Nat} {ret : Option FieldType} (h : zOk G l cc own nL d C N ini) (hy : zCe y cb nL2 ret n9) (hi9 : Cond.static y ∈ zW) (hm : Cond.methodLink own idx y ∈ zW) (hdd : dd + 1 ≤ d) (hkn : k ≤ C ∧ n ≤ N) (hcon : zC l y (.code y cb nL2 ret) dd As Λ σ (fun r : Nat => some (.ref r)) f) (hn : As.length = n9) (hw : (st.map fun v => v.category).sum ≤ 8) (hst : As.reverse ++ st = st0) (hd : decode cc pc = .ok (.invokestatic idx, 3)) (kk : ∀ (r : Nat) (S : zMem), zE G T enc Λ k n (pc + 3) L (.ref r :: st) S (kf r S)) : zE G T enc Λ k n pc L st0 σ (bd f kf) := ze_callS (enc2 := (fun r : Nat => some (.ref r))) h hy hi9 hm hdd hkn hcon hn hw hst hd kk
theorem ze_callSNi {α : Type} {G : zGT} {l : Launch} {cc : ByteArray} {own : String} {nL d C N : Nat} {ini : Bool} {T : Option Value × zMem} {enc : α → Option Value} {Λ : zLay} {k n pc : Nat} {L : zLs} {st : List Value} {σ : zMem} {f : Option (Int32 × zMem)} {kf : Int32 → zMem → Option (α × zMem)} {st0 As : List Value} {y : MethodName} {cb : ByteArray} {nL2 n9 idx dd : Nat} {ret : Option FieldType} (h : zOk G l cc own nL d C N ini) (hy : zCe y cb nL2 ret n9) (hi9 : Cond.static y ∈ zW) {j : Nat} {host : String} (hm : zNest[j]? = some (own, idx, y, host)) (hdd : dd + 1 ≤ d) (hkn : k ≤ C ∧ n ≤ N) (hcon : zC l y (.code y cb nL2 ret) dd As Λ σ (fun r : Int32 => some (.int r)) f) (hn : As.length = n9) (hw : (st.map fun v => v.category).sum ≤ 8) (hst : As.reverse ++ st = st0) (hd : decode cc pc = .ok (.invokestatic idx, 3)) (kk : ∀ (r : Int32) (S : zMem), zE G T enc Λ k n (pc + 3) L (.int r :: st) S (kf r S)) : zE G T enc Λ k n pc L st0 σ (bd f kf) := ze_callSN (enc2 := (fun r : Int32 => some (.int r))) h hy hi9 hm hdd hkn hcon hn hw hst hd kk
theorem ze_callSNv {α : Type} {G : zGT} {l : Launch} {cc : ByteArray} {own : String} {nL d C N : Nat} {ini : Bool} {T : Option Value × zMem} {enc : α → Option Value} {Λ : zLay} {k n pc : Nat} {L : zLs} {st : List Value} {σ : zMem} {f : Option (Unit × zMem)} {kf : Unit → zMem → Option (α × zMem)} {st0 As : List Value} {y : MethodName} {cb : ByteArray} {nL2 n9 idx dd : Nat} {ret : Option FieldType} (h : zOk G l cc own nL d C N ini) (hy : zCe y cb nL2 ret n9) (hi9 : Cond.static y ∈ zW) {j : Nat} {host : String} (hm : zNest[j]? = some (own, idx, y, host)) (hdd : dd + 1 ≤ d) (hkn : k ≤ C ∧ n ≤ N) (hcon : zC l y (.code y cb nL2 ret) dd As Λ σ (fun _ : Unit => none) f) (hn : As.length = n9) (hw : (st.map fun v => v.category).sum ≤ 8) (hst : As.reverse ++ st = st0) (hd : decode cc pc = .ok (.invokestatic idx, 3)) (kk : ∀ (r : Unit) (S : zMem), zE G T enc Λ k n (pc + 3) L (st) S (kf r S)) : zE G T enc Λ k n pc L st0 σ (bd f kf) := ze_callSN (enc2 := (fun _ : Unit => none)) h hy hi9 hm hdd hkn hcon hn hw hst hd kk
theorem ze_callSNl {α : Type} {G : zGT} {l : Launch} {cc : ByteArray} {own : String} {nL d C N : Nat} {ini : Bool} {T : Option Value × zMem} {enc : α → Option Value} {Λ : zLay} {k n pc : Nat} {L : zLs} {st : List Value} {σ : zMem} {f : Option (Int64 × zMem)} {kf : Int64 → zMem → Option (α × zMem)} {st0 As : List Value} {y : MethodName} {cb : ByteArray} {nL2 n9 idx dd : Nat} {ret : Option FieldType} (h : zOk G l cc own nL d C N ini) (hy : zCe y cb nL2 ret n9) (hi9 : Cond.static y ∈ zW) {j : Nat} {host : String} (hm : zNest[j]? = some (own, idx, y, host)) (hdd : dd + 1 ≤ d) (hkn : k ≤ C ∧ n ≤ N) (hcon : zC l y (.code y cb nL2 ret) dd As Λ σ (fun r : Int64 => some (.long r)) f) (hn : As.length = n9) (hw : (st.map fun v => v.category).sum ≤ 8) (hst : As.reverse ++ st = st0) (hd : decode cc pc = .ok (.invokestatic idx, 3)) (kk : ∀ (r : Int64) (S : zMem), zE G T enc Λ k n (pc + 3) L (.long r :: st) S (kf r S)) : zE G T enc Λ k n pc L st0 σ (bd f kf) := ze_callSN (enc2 := (fun r : Int64 => some (.long r))) h hy hi9 hm hdd hkn hcon hn hw hst hd kk
theorem ze_callSNr {α : Type} {G : zGT} {l : Launch} {cc : ByteArray} {own : String} {nL d C N : Nat} {ini : Bool} {T : Option Value × zMem} {enc : α → Option Value} {Λ : zLay} {k n pc : Nat} {L : zLs} {st : List Value} {σ : zMem} {f : Option (Nat × zMem)} {kf : Nat → zMem → Option (α × zMem)} {st0 As : List Value} {y : MethodName} {cb : ByteArray} {nL2 n9 idx dd : Nat} {ret : Option FieldType} (h : zOk G l cc own nL d C N ini) (hy : zCe y cb nL2 ret n9) (hi9 : Cond.static y ∈ zW) {j : Nat} {host : String} (hm : zNest[j]? = some (own, idx, y, host)) (hdd : dd + 1 ≤ d) (hkn : k ≤ C ∧ n ≤ N) (hcon : zC l y (.code y cb nL2 ret) dd As Λ σ (fun r : Nat => some (.ref r)) f) (hn : As.length = n9) (hw : (st.map fun v => v.category).sum ≤ 8) (hst : As.reverse ++ st = st0) (hd : decode cc pc = .ok (.invokestatic idx, 3)) (kk : ∀ (r : Nat) (S : zMem), zE G T enc Λ k n (pc + 3) L (.ref r :: st) S (kf r S)) : zE G T enc Λ k n pc L st0 σ (bd f kf) := ze_callSN (enc2 := (fun r : Nat => some (.ref r))) h hy hi9 hm hdd hkn hcon hn hw hst hd kk
theorem ze_initI {α : Type} {G : zGT} {l : Launch} {cc : ByteArray} {own : String} {nL d C N : Nat} {ini : Bool} {T : Option Value × zMem} {enc : α → Option Value} {Λ : zLay} {k n pc : Nat} {L : zLs} {st : List Value} {σ : zMem} {f : Option (Unit × zMem)} {kf : Unit → zMem → Option (α × zMem)} {st0 As : List Value} {y : MethodName} {cb : ByteArray} {nL2 n9 idx dd mc ms : Nat} {Λ' : zLay} (h : zOk G l cc own nL d C N ini) (hy : zCe y cb nL2 none n9) (hi9 : Cond.instanceMethod y ∈ zW) (hyn : y.name = "<init>") (hm : Cond.methodLink own idx y ∈ zW) {a : Nat} (hdd : dd + 1 ≤ d) (hkn : k + mc ≤ C ∧ n + ms ≤ N) (hcon : zCI l y (.code y cb nL2 none) dd mc ms (.ref a :: As) Λ σ Λ' f) (hn : As.length = n9) (hw : (st.map fun v => v.category).sum ≤ 8) (hst : As.reverse ++ .ref a :: st = st0) (hd : decode cc pc = .ok (.invokespecial idx, 3)) (kk : ∀ S : zMem, zE G T enc Λ' (k + mc) (n + ms) (pc + 3) L st S (kf () S)) : zE G T enc Λ k n pc L st0 σ (bd f kf) := by
  intro r S h1 h2 h3
  obtain ⟨r2, S2, hf, h1⟩ := zbd h1
  have hM := hcon r2 S2 hf
  have hkk := kk S2 r S h1 h2 h3
  obtain ⟨y1, y2, y3, y4, y5⟩ := hy
  obtain ⟨p, e0, R, s, m, args, below, meth, c, D, cA, b, ext, Q, rfl, hx, hb, hml, hown, hts, hK, hfr, hlo, hC, hN, hini, hbs⟩ := h
  intro H locs ls hP hS hl
  have hR9 : (zroom dd mc ms).frames + 1 ≤ R.frames ∧ 8 + (nL2 + 11) + (zroom dd mc ms).locals ≤ R.locals := ⟨by show dd + 1 ≤ _; omega, by show 8 + (nL2 + 11) + 64 * dd ≤ _; omega⟩
  have hcells : k + mc ≤ R.cells ∧ n + ms ≤ R.slots := ⟨by omega, by omega⟩
  have hW9 : (List.map (fun v => Value.category v) (List.map (zV (zcv b ext)) st)).sum ≤ 8 := by rw [zCat]; exact hw
  have hpre : ∀ U : State, U.heap = H → s.WarmedH U.vm → va_Pc (List.map (zV (zcv b ext)) (.ref a :: As)) (zPre D cA b ext Λ σ) (List.map (zV (zcv b ext)) (.ref a :: As)).toArray U := fun U hU hWm => ⟨rfl, by rw [hU]; exact hP, zKst.go hK (by rw [hU]; exact hS) hWm⟩
  have hrun := va_runI (e := e0) (below := below) (meth := meth) (As := List.map (zV (zcv b ext)) As) (rest := List.map (zV (zcv b ext)) st) (b := zcv b ext a) (g := F0 m pc ls (List.map (zV (zcv b ext)) st0)) (H := H) (locs := locs) (cells := k) (slots := n) (Ts := zW) ⟨hx, hb, hml, hown, hts⟩ (hM D cA b ext) (cwI n9 hts (zgood_cons y1) rfl rfl rfl (hts _ y2) (hts _ hm) (hts _ hi9) hyn ⟨y3.1, y3.2, y4⟩ hR9) ⟨zKst.blind, hpre⟩ rfl (by rw [List.length_map]; exact hn) hl.1 (by subst hst; show List.map (zV (zcv b ext)) _ = _; simp [zV]) (lv_room hW9) hd hcells
  exact zfin hrun hS (fun H1 locs1 hP1 hS1 => hkk H1 locs1 ls hP1 hS1 hl)
theorem ze_initN {α : Type} {G : zGT} {l : Launch} {cc : ByteArray} {own : String} {nL d C N : Nat} {ini : Bool} {T : Option Value × zMem} {enc : α → Option Value} {Λ : zLay} {k n pc : Nat} {L : zLs} {st : List Value} {σ : zMem} {f : Option (Unit × zMem)} {kf : Unit → zMem → Option (α × zMem)} {st0 As : List Value} {y : MethodName} {cb : ByteArray} {nL2 n9 idx dd mc ms : Nat} {Λ' : zLay} (h : zOk G l cc own nL d C N ini) (hy : zCe y cb nL2 none n9) (hi9 : Cond.instanceMethod y ∈ zW) (hyn : y.name = "<init>") {j : Nat} {host : String} (hm : zNest[j]? = some (own, idx, y, host)) {a : Nat} (hdd : dd + 1 ≤ d) (hkn : k + mc ≤ C ∧ n + ms ≤ N) (hcon : zCI l y (.code y cb nL2 none) dd mc ms (.ref a :: As) Λ σ Λ' f) (hn : As.length = n9) (hw : (st.map fun v => v.category).sum ≤ 8) (hst : As.reverse ++ .ref a :: st = st0) (hd : decode cc pc = .ok (.invokespecial idx, 3)) (kk : ∀ S : zMem, zE G T enc Λ' (k + mc) (n + ms) (pc + 3) L st S (kf () S)) : zE G T enc Λ k n pc L st0 σ (bd f kf) := by
  intro r S h1 h2 h3
  obtain ⟨r2, S2, hf, h1⟩ := zbd h1
  have hM := hcon r2 S2 hf
  have hkk := kk S2 r S h1 h2 h3
  obtain ⟨y1, y2, y3, y4, y5⟩ := hy
  obtain ⟨p, e0, R, s, m, args, below, meth, c, D, cA, b, ext, Q, rfl, hx, hb, hml, hown, hts, hK, hfr, hlo, hC, hN, hini, hbs⟩ := h
  intro H locs ls hP hS hl
  have hR9 : (zroom dd mc ms).frames + 1 ≤ R.frames ∧ 8 + (nL2 + 11) + (zroom dd mc ms).locals ≤ R.locals := ⟨by show dd + 1 ≤ _; omega, by show 8 + (nL2 + 11) + 64 * dd ≤ _; omega⟩
  have hcells : k + mc ≤ R.cells ∧ n + ms ≤ R.slots := ⟨by omega, by omega⟩
  have hW9 : (List.map (fun v => Value.category v) (List.map (zV (zcv b ext)) st)).sum ≤ 8 := by rw [zCat]; exact hw
  have hpre : ∀ U : State, U.heap = H → s.WarmedH U.vm → va_Pc (List.map (zV (zcv b ext)) (.ref a :: As)) (zPre D cA b ext Λ σ) (List.map (zV (zcv b ext)) (.ref a :: As)).toArray U := fun U hU hWm => ⟨rfl, by rw [hU]; exact hP, zKst.go hK (by rw [hU]; exact hS) hWm⟩
  have hnest : va_Nw (.methodLinkNest own idx y host) s := hK.2.2.2.2.2.2 j _ hm
  have hrun := va_runIN (e := e0) (below := below) (meth := meth) (As := List.map (zV (zcv b ext)) As) (rest := List.map (zV (zcv b ext)) st) (b := zcv b ext a) (g := F0 m pc ls (List.map (zV (zcv b ext)) st0)) (H := H) (locs := locs) (cells := k) (slots := n) (Ts := zW) ⟨hx, hb, hml, hown, hts⟩ (hM D cA b ext) ⟨va_cnB n9 hts (zgood_cons y1) rfl rfl rfl hnest (hts _ y2) ⟨y3.1, y3.2, y4⟩ hR9, hyn, hts _ hi9⟩ ⟨zKst.blind, hpre⟩ rfl (by rw [List.length_map]; exact hn) hl.1 (by subst hst; show List.map (zV (zcv b ext)) _ = _; simp [zV]) (lv_room hW9) hd hcells
  exact zfin hrun hS (fun H1 locs1 hP1 hS1 => hkk H1 locs1 ls hP1 hS1 hl)
theorem ze_obj {α : Type} {G : zGT} {l : Launch} {cc : ByteArray} {own : String} {nL d C N : Nat} {ini : Bool} {T : Option Value × zMem} {enc : α → Option Value} {Λ : zLay} {k n pc : Nat} {L : zLs} {st : List Value} {σ : zMem} {e : Option (α × zMem)} (h : zOk G l cc own nL d C N ini) {a idx : Nat} (hd1 : 1 ≤ d) (hm : Cond.methodLink own idx Lib.objectInit ∈ zW) (hi9 : Cond.instanceMethod Lib.objectInit ∈ zW) (hc9 : Cond.code Lib.objectInit ⟨#[0xb1]⟩ 1 none ∈ zW) (hw : (st.map fun v => v.category).sum ≤ 8) (hd : decode cc pc = .ok (.invokespecial idx, 3)) (kk : zE G T enc Λ k n (pc + 3) L st σ e) : zE G T enc Λ k n pc L (.ref a :: st) σ e := by
  obtain ⟨p, e0, R, s, m, args, below, meth, c, D, cA, b, ext, Q, rfl, hx, hb, hml, hown, hts, hK, hfr, hlo, hC, hN, hini, hbs⟩ := h
  intro r S h1 h2 h3 H locs ls hP hS hl
  exact W.objInit hx hb hown (hts _ hm) (hts _ hi9) (hts _ hc9) rfl (by rw [hml]; exact hl.1) rfl hd (by omega) (by show 2 * 0 + (List.map (fun v => Value.category v) (List.map (zV (zcv b ext)) st)).sum + 12 ≤ _; rw [zCat]; omega) (kk r S h1 h2 h3 H locs ls hP hS hl)
def zmin (x y : Int32) : Int32 := if y < x then y else x
def zmax (x y : Int32) : Int32 := if x < y then y else x
theorem ze_mmin {α : Type} {G : zGT} {l : Launch} {cc : ByteArray} {own : String} {nL d C N : Nat} {ini : Bool} {T : Option Value × zMem} {enc : α → Option Value} {Λ : zLay} {k n pc : Nat} {L : zLs} {st : List Value} {σ : zMem} {e : Option (α × zMem)} (h : zOk G l cc own nL d C N ini) {x y : Int32} {idx : Nat} (hd1 : 1 ≤ d) (hkn : k ≤ C ∧ n ≤ N) (hm : Cond.methodLink own idx Lib.Math.min.name ∈ zW) (h5 : Cond.static Lib.Math.min.name ∈ zW) (h6 : Cond.initialized "java/lang/Math" ∈ zW) (h7 : Cond.code Lib.Math.min.name Lib.Math.min.code 2 (some .int) ∈ zW) (hw : (st.map fun v => v.category).sum ≤ 8) (hd : decode cc pc = .ok (.invokestatic idx, 3)) (kk : zE G T enc Λ k n (pc + 3) L (.int (zmin x y) :: st) σ e) : zE G T enc Λ k n pc L (.int y :: .int x :: st) σ e := by
  obtain ⟨p, e0, R, s, m, args, below, meth, c, D, cA, b, ext, Q, rfl, hx, hb, hml, hown, hts, hK, hfr, hlo, hC, hN, hini, hbs⟩ := h
  intro r S h1 h2 h3 H locs ls hP hS hl
  exact va_mmin hx hb (hml.trans hl.1.symm) hown (hts _ hm) (hts _ h5) (hts _ h6) (hts _ h7) (by omega) (by rw [zCat]; omega) (by omega) (by omega) hd (kk r S h1 h2 h3 H locs ls hP hS hl)
theorem ze_mmax {α : Type} {G : zGT} {l : Launch} {cc : ByteArray} {own : String} {nL d C N : Nat} {ini : Bool} {T : Option Value × zMem} {enc : α → Option Value} {Λ : zLay} {k n pc : Nat} {L : zLs} {st : List Value} {σ : zMem} {e : Option (α × zMem)} (h : zOk G l cc own nL d C N ini) {x y : Int32} {idx : Nat} (hd1 : 1 ≤ d) (hkn : k ≤ C ∧ n ≤ N) (hm : Cond.methodLink own idx Lib.Math.max.name ∈ zW) (h5 : Cond.static Lib.Math.max.name ∈ zW) (h6 : Cond.initialized "java/lang/Math" ∈ zW) (h7 : Cond.code Lib.Math.max.name Lib.Math.max.code 2 (some .int) ∈ zW) (hw : (st.map fun v => v.category).sum ≤ 8) (hd : decode cc pc = .ok (.invokestatic idx, 3)) (kk : zE G T enc Λ k n (pc + 3) L (.int (zmax x y) :: st) σ e) : zE G T enc Λ k n pc L (.int y :: .int x :: st) σ e := by
  obtain ⟨p, e0, R, s, m, args, below, meth, c, D, cA, b, ext, Q, rfl, hx, hb, hml, hown, hts, hK, hfr, hlo, hC, hN, hini, hbs⟩ := h
  intro r S h1 h2 h3 H locs ls hP hS hl
  exact va_mmax hx hb (hml.trans hl.1.symm) hown (hts _ hm) (hts _ h5) (hts _ h6) (hts _ h7) (by omega) (by rw [zCat]; omega) (by omega) (by omega) hd (kk r S h1 h2 h3 H locs ls hP hS hl)
def zCp (σ : zMem) (a sp b dp n : Nat) : zMem := fun x => if x = b then va_cpy (σ a) (σ b) sp dp n else σ x
def zcpOk (sp dp n : Int32) (n0 n1 : Nat) : Bool := decide (¬ sp < 0) && (decide (¬ dp < 0) && (decide (¬ n < 0) && (decide (zix sp + zix n ≤ n0) && decide (zix dp + zix n ≤ n1))))
theorem ze_copy {α : Type} {G : zGT} {l : Launch} {cc : ByteArray} {own : String} {nL d C N : Nat} {ini : Bool} {T : Option Value × zMem} {enc : α → Option Value} {Λ : zLay} {n pc : Nat} {L : zLs} {st : List Value} {σ : zMem} {e : Option (α × zMem)} (h : zOk G l cc own nL d C N ini) {a b9 n0 n1 idx : Nat} {sp dp n9 : Int32} (hd1 : 1 ≤ d) (h9 : Λ[a]? = some (.inl n0)) (h8 : Λ[b9]? = some (.inl n1)) (hm : Cond.methodLink own idx arraycopyName ∈ zW) (h5 : Cond.native arraycopyName ∈ zW) (h6 : Cond.static arraycopyName ∈ zW) (h7 : Cond.initialized "java/lang/System" ∈ zW) (hw : (st.map fun v => v.category).sum ≤ 8) (hd : decode cc pc = .ok (.invokestatic idx, 3)) (kk : zE G T enc Λ 0 n (pc + 3) L st (zCp σ a (zix sp) b9 (zix dp) (zix n9)) e) : zE G T enc Λ 0 n pc L (.int n9 :: .int dp :: .ref b9 :: .int sp :: .ref a :: st) σ (gd (zcpOk sp dp n9 n0 n1) e) := by
  intro r S h1 h2 h3
  obtain ⟨g1, h1⟩ := zgd h1
  obtain ⟨p, e0, R, s, m, args, below, meth, c, D, cA, b, ext, Q, rfl, hx, hb, hml, hown, hts, hK, hfr, hlo, hC, hN, hini, hbs⟩ := h
  intro H locs ls hP hS hl
  simp only [zcpOk, Bool.and_eq_true, decide_eq_true_eq] at g1
  obtain ⟨w1, w2, w3, w4, w5⟩ := g1
  have hb9 : b9 < Λ.length := (List.getElem?_eq_some_iff.mp h8).1
  refine zW_size hS.1 (fun hz1 => ?_)
  refine va_copyi (D := D) (cl := vwCl) (tys := [(cA, .int)]) hx hb (hml.trans hl.1.symm) hown (hts _ hm) (hts _ h5) (hts _ h6) (hts _ h7) hK.1 hP.1 hP.D hS a b9 0 0 (zWs_at h9) (zWs_at h8) rfl rfl rfl w1 w2 w3 w4 w5 (fun i hi => rfl) (by omega) (by rw [zCat]; show _ + (7 + 11) ≤ _; omega) hd (fun H1 locs1 hP1 hD1 hS1 => ?_)
  refine zW_size hS1.1 (fun hz2 => ?_)
  refine kk r S h1 h2 h3 H1 locs1 ls ⟨?_, by rw [hz2, ← hz1]; exact hP.2.1, hP.2.2⟩ hS1 hl
  have e6 := zWs_set0 (cv := zcv b ext) (cA := cA) (σ := σ) (τ := zCp σ a (zix sp) b9 (zix dp) (zix n9)) (e' := .inl n1) hb9 (fun x hx9 => by simp [zCp, hx9])
  rw [zset_same Λ b9 _ h8] at e6
  rw [← e6]
  have e7 : zCp σ a (zix sp) b9 (zix dp) (zix n9) b9 = va_cpy (σ a) (σ b9) (zix sp) (zix dp) (zix n9) := by simp [zCp]
  rw [e7]
  exact hP1
def zNw (σ : zMem) (a : Nat) : zMem := fun x => if x = a then fun _ => 0 else σ x
theorem zWs_new (cv : Nat → Nat) (cA : ClassId) (σ : zMem) (Λ : zLay) (e : zLE) : zWs cv cA (zNw σ Λ.length) 0 (Λ ++ [e]) = zWs cv cA σ 0 Λ ++ [(cv Λ.length, zCell cv cA (fun _ => 0) e)] := by
  rw [zWs_app, Nat.zero_add]
  have e1 : zNw σ Λ.length Λ.length = fun _ => 0 := by simp [zNw]
  rw [e1, zWs_congr cv cA (zNw σ Λ.length) σ Λ 0 (fun a _ h => by simp [zNw]; omega)]
theorem ze_newa {α : Type} {G : zGT} {l : Launch} {cc : ByteArray} {own : String} {nL d C N : Nat} {ini : Bool} {T : Option Value × zMem} {enc : α → Option Value} {Λ : zLay} {k n pc : Nat} {L : zLs} {st : List Value} {σ : zMem} {e : Option (α × zMem)} (h : zOk G l cc own nL d C N ini) {n9 : Int32} {M a : Nat} (h9 : Cond.arrayClass .int ∈ zW) (hn9 : ¬ n9 < 0) (hM : zix n9 = M) (hbyte : M ≤ 100000000) (ha : Λ.length = a) (ha2 : a < 1000) (hcel : k + 1 ≤ C ∧ n + M ≤ N) (hd : decode cc pc = .ok (.newarray .int, 2)) (kk : zE G T enc (Λ ++ [.inl M]) (k + 1) (n + M) (pc + 2) L (.ref a :: st) (zNw σ a) e) : zE G T enc Λ k n pc L (.int n9 :: st) σ e := by
  obtain ⟨p, e0, R, s, m, args, below, meth, c, D, cA, b, ext, Q, rfl, hx, hb, hml, hown, hts, hK, hfr, hlo, hC, hN, hini, hbs⟩ := h
  intro r S h1 h2 h3 H locs ls hP hS hl
  subst ha
  refine va_newaK hx hb (atype := .int) (hts _ h9) rfl hd rfl hn9 hM (by show M * 4 ≤ _; omega) (by omega) (by omega) rfl fun H1 cA2 e1 z1 o1 hAr hNm => ?_
  have hcA : cA2 = cA := Option.some.inj (hNm.symm.trans (hK.1.2 0 _ rfl).2)
  subst hcA
  have hlen : cA2 = cA2 := rfl
  have hsz : H.size = zcv b ext Λ.length := by rw [hP.2.1, zcv_lt ha2]
  have hP1 : va_P D vwCl (zWs (zcv b ext) cA2 (zNw σ Λ.length) 0 (Λ ++ [.inl M])) H1 := by
    rw [zWs_new]
    refine (hP.1.kept (fun q x hx9 => o1 x.1 ((hP.1 q x hx9).lt))).app (fun q x hx9 => ?_)
    have hz : q < 1 := (List.getElem?_eq_some_iff.mp hx9).1
    rw [show q = 0 by omega] at hx9
    cases hx9
    show H1[zcv b ext Λ.length]? = some (vp_cell _ _)
    rw [← hsz, e1]
    rfl
  have := kk r S h1 h2 h3 H1 locs ls ⟨hP1, by rw [z1, hP.2.1]; simp; omega, by simp; omega⟩ ⟨Nat.le_trans hS.1 (by omega), fun x g1 g2 => (o1 x (Nat.lt_of_lt_of_le g1 hS.1)).trans (hS.2.1 x g1 g2), hS.2.2⟩ hl
  rw [List.map_cons] at this
  show W p l e0 R s m args below meth c H1 locs (k + 1) (n + M) Q (F0 m (pc + 2) ls (.ref H.size :: _))
  rw [hsz]
  exact this
theorem ze_new {α : Type} {G : zGT} {l : Launch} {cc : ByteArray} {own : String} {nL d C N : Nat} {ini : Bool} {T : Option Value × zMem} {enc : α → Option Value} {Λ : zLay} {k n pc : Nat} {L : zLs} {st : List Value} {σ : zMem} {e : Option (α × zMem)} (h : zOk G l cc own nL d C N ini) {ci M a idx : Nat} {fs : List (Option (Option Nat))} {CC : String} {T9 : u_T} (ty : Nat → FieldType) (h9 : vwCl[ci]? = some (CC, T9, M)) (hw1 : ∀ w ∈ u_ws CC T9 M, w ∈ zW) (hty : ∀ q, q < M → parseFieldDescriptor (T9 q).2.2.1 = some (ty q)) (hw2 : Cond.classLink own idx CC ∈ zW) (hw3 : Cond.instantiable CC M ∈ zW) (hw4 : Cond.initialized CC ∈ zW) (hfl : fs.length = M) (hfs : ∀ q, q < M → ∀ t, fs[q]? = some t → defaultValue (ty q) = zFV (fun x => x) 0 t ∧ ∀ w, t ≠ some (some w)) (ha : Λ.length = a) (ha2 : a < 1000) (hcel : k + 1 ≤ C ∧ n + M ≤ N) (hd : decode cc pc = .ok (.new idx, 3)) (kk : zE G T enc (Λ ++ [.inr (ci, fs)]) (k + 1) (n + M) (pc + 3) L (.ref a :: st) (zNw σ a) e) : zE G T enc Λ k n pc L st σ e := by
  obtain ⟨p, e0, R, s, m, args, below, meth, c, D, cA, b, ext, Q, rfl, hx, hb, hml, hown, hts, hK, hfr, hlo, hC, hN, hini, hbs⟩ := h
  intro r S h1 h2 h3 H locs ls hP hS hl
  subst ha
  have hKn := hK.1.1 ci _ h9
  refine W.newcK hx hb hown (hts _ hw2) (hts _ hw3) (hts _ hw4) rfl hd (by omega) (by omega) hKn.2.1 rfl fun H1 kC hkC e1 z1 o1 => ?_
  have hsz : H.size = zcv b ext Λ.length := by rw [hP.2.1, zcv_lt ha2]
  have hP1 : va_P D vwCl (zWs (zcv b ext) cA (zNw σ Λ.length) 0 (Λ ++ [.inr (ci, fs)])) H1 := by
    rw [zWs_new]
    refine (hP.1.kept (fun q x hx9 => o1 x.1 ((hP.1 q x hx9).lt))).app (fun q x hx9 => ?_)
    have hz : q < 1 := (List.getElem?_eq_some_iff.mp hx9).1
    rw [show q = 0 by omega] at hx9
    cases hx9
    refine ⟨_, h9, ?_⟩
    show t_OB (zcv b ext Λ.length) _ _ _ H1 _
    rw [← hsz]
    refine (u_born ty hts hw1 hKn hkC e1 hty).to (fun q hq => ?_)
    show defaultValue (ty q) = (zFs (zcv b ext) (fun _ => 0) 0 fs).getD q .null
    have hq2 : q < fs.length := by rw [hfl]; exact hq
    have hg : fs[q]? = some fs[q] := List.getElem?_eq_getElem hq2
    have hg2 := zFs_get (zcv b ext) (fun _ => (0 : Int32)) fs 0 q _ hg
    obtain ⟨w1, w2⟩ := hfs q hq _ hg
    rw [List.getD_eq_getElem?_getD, hg2, w1]
    cases hh : fs[q] with
    | none => rfl
    | some u => cases u with
      | none => rfl
      | some w => exact absurd hh (w2 w)
  have := kk r S h1 h2 h3 H1 locs ls ⟨hP1, by rw [z1, hP.2.1]; simp; omega, by simp; omega⟩ ⟨Nat.le_trans hS.1 (by omega), fun x g1 g2 => (o1 x (Nat.lt_of_lt_of_le g1 hS.1)).trans (hS.2.1 x g1 g2), hS.2.2⟩ hl
  rw [List.map_cons] at this
  show W p l e0 R s m args below meth c H1 locs (k + 1) (n + M) Q (F0 m (pc + 3) ls (.ref H.size :: _))
  rw [hsz]
  exact this
theorem ze_getsC {α : Type} {G : zGT} {l : Launch} {cc : ByteArray} {own : String} {nL d C N : Nat} {ini : Bool} {T : Option Value × zMem} {enc : α → Option Value} {Λ : zLay} {k n pc : Nat} {L : zLs} {st : List Value} {σ : zMem} {e : Option (α × zMem)} (h : zOk G l cc own nL d C N ini) {idx : Nat} (hm : Cond.fieldLink own idx "java/lang/String" "COMPACT_STRINGS" "Z" ∈ zW) (hd : decode cc pc = .ok (.getstatic idx, 3)) (kk : zE G T enc Λ k n (pc + 3) L (.int 1 :: st) σ e) : zE G T enc Λ k n pc L st σ e := by
  obtain ⟨p, e0, R, s, m, args, below, meth, c, D, cA, b, ext, Q, rfl, hx, hb, hml, hown, hts, hK, hfr, hlo, hC, hN, hini, hbs⟩ := h
  intro r S h1 h2 h3 H locs ls hP hS hl
  exact va_gets hx hb hK.2.2.2.1 hS hown (hts _ hm) (fun _ z => z) hd (kk r S h1 h2 h3 H locs ls hP hS hl)
theorem ze_getsF {α : Type} {G : zGT} {l : Launch} {cc : ByteArray} {own : String} {nL d C N : Nat} {ini : Bool} {T : Option Value × zMem} {enc : α → Option Value} {Λ : zLay} {k n pc : Nat} {L : zLs} {st : List Value} {σ : zMem} {e : Option (α × zMem)} (h : zOk G l cc own nL d C N ini) {idx : Nat} (hm : Cond.fieldLink own idx "jdk/internal/util/Preconditions" "SIOOBE_FORMATTER" "Ljava/util/function/BiFunction;" ∈ zW) (hd : decode cc pc = .ok (.getstatic idx, 3)) (kk : ∀ v : Value, v = .null ∨ v = .ref 1040 → zE G T enc Λ k n (pc + 3) L (v :: st) σ e) : zE G T enc Λ k n pc L st σ e := by
  obtain ⟨p, e0, R, s, m, args, below, meth, c, D, cA, b, ext, Q, rfl, hx, hb, hml, hown, hts, hK, hfr, hlo, hC, hN, hini, hbs⟩ := h
  intro r S h1 h2 h3 H locs ls hP hS hl
  rcases hK.2.2.2.2.1 with h4 | h4
  · exact va_gets hx hb h4 hS hown (hts _ hm) (fun _ z => z) hd (kk .null (Or.inl rfl) r S h1 h2 h3 H locs ls hP hS hl)
  · have := kk (.ref 1040) (Or.inr rfl) r S h1 h2 h3 H locs ls hP hS hl
    exact va_gets hx hb h4 hS hown (hts _ hm) (fun _ z => z) hd this
theorem ze_getsA {α : Type} {G : zGT} {l : Launch} {cc : ByteArray} {own : String} {nL d C N : Nat} {ini : Bool} {T : Option Value × zMem} {enc : α → Option Value} {Λ : zLay} {k n pc : Nat} {L : zLs} {st : List Value} {σ : zMem} {e : Option (α × zMem)} (h : zOk G l cc own nL d C N ini) {idx : Nat} (hm : Cond.fieldLink own idx "CoalIsLent$Kinds" "ABOVE" "[I" ∈ zW) (hd : decode cc pc = .ok (.getstatic idx, 3)) (kk : zE G T enc Λ k n (pc + 3) L (.ref 1041 :: st) σ e) : zE G T enc Λ k n pc L st σ e := by
  obtain ⟨p, e0, R, s, m, args, below, meth, c, D, cA, b, ext, Q, rfl, hx, hb, hml, hown, hts, hK, hfr, hlo, hC, hN, hini, hbs⟩ := h
  intro r S h1 h2 h3 H locs ls hP hS hl
  exact va_gets hx hb hK.2.2.2.2.2.1.1 hS hown (hts _ hm) (fun _ z => z) hd (kk r S h1 h2 h3 H locs ls hP hS hl)
theorem ze_lenA {α : Type} {G : zGT} {l : Launch} {cc : ByteArray} {own : String} {nL d C N : Nat} {ini : Bool} {T : Option Value × zMem} {enc : α → Option Value} {Λ : zLay} {k n pc : Nat} {L : zLs} {st : List Value} {σ : zMem} {e : Option (α × zMem)} (h : zOk G l cc own nL d C N ini) (hd : decode cc pc = .ok (.arraylength, 1)) (kk : zE G T enc Λ k n (pc + 1) L (.int 6 :: st) σ e) : zE G T enc Λ k n pc L (.ref 1041 :: st) σ e := by
  obtain ⟨p, e0, R, s, m, args, below, meth, c, D, cA, b, ext, Q, rfl, hx, hb, hml, hown, hts, hK, hfr, hlo, hC, hN, hini, hbs⟩ := h
  intro r S h1 h2 h3 H locs ls hP hS hl
  exact va_tlen hx hb hK.2.2.2.2.2.1.2 hS rfl hd (kk r S h1 h2 h3 H locs ls hP hS hl)
theorem ze_ialdA {α : Type} {G : zGT} {l : Launch} {cc : ByteArray} {own : String} {nL d C N : Nat} {ini : Bool} {T : Option Value × zMem} {enc : α → Option Value} {Λ : zLay} {k n pc : Nat} {L : zLs} {st : List Value} {σ : zMem} {e : Option (α × zMem)} (h : zOk G l cc own nL d C N ini) {i : Int32} (hd : decode cc pc = .ok (.iaload, 1)) (kk : zE G T enc Λ k n (pc + 1) L (.int (zAb.getD (zix i) 0) :: st) σ e) : zE G T enc Λ k n pc L (.int i :: .ref 1041 :: st) σ (gd (zib i 6) e) := by
  intro r S h1 h2 h3
  obtain ⟨g1, h1⟩ := zgd h1
  obtain ⟨p, e0, R, s, m, args, below, meth, c, D, cA, b, ext, Q, rfl, hx, hb, hml, hown, hts, hK, hfr, hlo, hC, hN, hini, hbs⟩ := h
  intro H locs ls hP hS hl
  exact va_ti hx hb hK.2.2.2.2.2.1.2 hS (zib_in g1) rfl hd (kk r S h1 h2 h3 H locs ls hP hS hl)
theorem ze_ldcS {α : Type} {G : zGT} {l : Launch} {cc : ByteArray} {own : String} {nL d C N : Nat} {ini : Bool} {T : Option Value × zMem} {enc : α → Option Value} {Λ : zLay} {k n pc : Nat} {L : zLs} {st : List Value} {σ : zMem} {e : Option (α × zMem)} (h : zOk G l cc own nL d C N ini) {i : Nat} {q : Nat} {tx : String} (hi : zStr[i]? = some (own, q, tx)) (hd : decode cc pc = .ok (.ldc q, 2)) (kk : zE G T enc Λ k n (pc + 2) L (.ref (1000 + i) :: st) σ e) : zE G T enc Λ k n pc L st σ e := by
  obtain ⟨p, e0, R, s, m, args, below, meth, c, D, cA, b, ext, Q, rfl, hx, hb, hml, hown, hts, hK, hfr, hlo, hC, hN, hini, hbs⟩ := h
  intro r S h1 h2 h3 H locs ls hP hS hl
  have e9 : zcv b ext (1000 + i) = ext i := zcv_ext
  have := kk r S h1 h2 h3 H locs ls hP hS hl
  rw [List.map_cons] at this
  refine va_ldcS hx hb hown (hK.2.2.1 i _ hi) hd ?_
  rw [← e9]
  exact this
theorem ze_getSv {α : Type} {G : zGT} {l : Launch} {cc : ByteArray} {own : String} {nL d C N : Nat} {ini : Bool} {T : Option Value × zMem} {enc : α → Option Value} {Λ : zLay} {k n pc : Nat} {L : zLs} {st : List Value} {σ : zMem} {e : Option (α × zMem)} (h : zOk G l cc own nL d C N ini) {i idx : Nat} (hi : i < 13) (hm : Cond.fieldLink own idx "java/lang/String" "value" "[B" ∈ zW) (hd : decode cc pc = .ok (.getfield idx, 3)) (kk : zE G T enc Λ k n (pc + 3) L (.ref (1020 + i) :: st) σ e) : zE G T enc Λ k n pc L (.ref (1000 + i) :: st) σ e := by
  obtain ⟨p, e0, R, s, m, args, below, meth, c, D, cA, b, ext, Q, rfl, hx, hb, hml, hown, hts, hK, hfr, hlo, hC, hN, hini, hbs⟩ := h
  intro r S h1 h2 h3 H locs ls hP hS hl
  have := kk r S h1 h2 h3 H locs ls hP hS hl
  rw [List.map_cons] at this ⊢
  show W _ _ _ _ _ _ _ _ _ _ _ _ _ _ _ (F0 m pc ls (.ref (zcv b ext (1000 + i)) :: _))
  rw [zcv_ext]
  refine vk_getf hx hb (hK.2.1.1 i hi).2.2.1 hS hown (hts _ hm) (fun _ z => z) hd ?_
  have e8 : zcv b ext (1020 + i) = ext (20 + i) := by rw [show 1020 + i = 1000 + (20 + i) by omega]; exact zcv_ext
  change W _ _ _ _ _ _ _ _ _ _ _ _ _ _ _ (F0 m (pc + 3) ls (.ref (zcv b ext (1020 + i)) :: _)) at this
  rw [e8] at this
  exact this
theorem ze_getSc {α : Type} {G : zGT} {l : Launch} {cc : ByteArray} {own : String} {nL d C N : Nat} {ini : Bool} {T : Option Value × zMem} {enc : α → Option Value} {Λ : zLay} {k n pc : Nat} {L : zLs} {st : List Value} {σ : zMem} {e : Option (α × zMem)} (h : zOk G l cc own nL d C N ini) {i idx : Nat} (hi : i < 13) (hm : Cond.fieldLink own idx "java/lang/String" "coder" "B" ∈ zW) (hd : decode cc pc = .ok (.getfield idx, 3)) (kk : zE G T enc Λ k n (pc + 3) L (.int 0 :: st) σ e) : zE G T enc Λ k n pc L (.ref (1000 + i) :: st) σ e := by
  obtain ⟨p, e0, R, s, m, args, below, meth, c, D, cA, b, ext, Q, rfl, hx, hb, hml, hown, hts, hK, hfr, hlo, hC, hN, hini, hbs⟩ := h
  intro r S h1 h2 h3 H locs ls hP hS hl
  have := kk r S h1 h2 h3 H locs ls hP hS hl
  rw [List.map_cons] at this ⊢
  show W _ _ _ _ _ _ _ _ _ _ _ _ _ _ _ (F0 m pc ls (.ref (zcv b ext (1000 + i)) :: _))
  rw [zcv_ext]
  refine vk_getf hx hb (hK.2.1.1 i hi).2.1 hS hown (hts _ hm) (fun _ z => z) hd ?_
  skip
  exact this
theorem ze_lenB {α : Type} {G : zGT} {l : Launch} {cc : ByteArray} {own : String} {nL d C N : Nat} {ini : Bool} {T : Option Value × zMem} {enc : α → Option Value} {Λ : zLay} {k n pc : Nat} {L : zLs} {st : List Value} {σ : zMem} {e : Option (α × zMem)} (h : zOk G l cc own nL d C N ini) {i : Nat} {v : Int32} (hi : i < 13) (hv : Int32.ofNat (zLen.getD i 0) = v) (hd : decode cc pc = .ok (.arraylength, 1)) (kk : zE G T enc Λ k n (pc + 1) L (.int v :: st) σ e) : zE G T enc Λ k n pc L (.ref (1020 + i) :: st) σ e := by
  obtain ⟨p, e0, R, s, m, args, below, meth, c, D, cA, b, ext, Q, rfl, hx, hb, hml, hown, hts, hK, hfr, hlo, hC, hN, hini, hbs⟩ := h
  intro r S h1 h2 h3 H locs ls hP hS hl
  show W _ _ _ _ _ _ _ _ _ _ _ _ _ _ _ (F0 m pc ls (.ref (zcv b ext (1020 + i)) :: _))
  rw [show 1020 + i = 1000 + (20 + i) by omega, zcv_ext]
  exact va_tlen hx hb (hK.2.1.1 i hi).2.2.2 hS hv hd (kk r S h1 h2 h3 H locs ls hP hS hl)
theorem ze_bald {α : Type} {G : zGT} {l : Launch} {cc : ByteArray} {own : String} {nL d C N : Nat} {ini : Bool} {T : Option Value × zMem} {enc : α → Option Value} {Λ : zLay} {k n pc : Nat} {L : zLs} {st : List Value} {σ : zMem} {e : Option (α × zMem)} (h : zOk G l cc own nL d C N ini) {i : Nat} {j : Int32} (hi : i < 13) (hd : decode cc pc = .ok (.baload, 1)) (kk : zE G T enc Λ k n (pc + 1) L (.int ((zByt.getD i []).getD (zix j) 0) :: st) σ e) : zE G T enc Λ k n pc L (.int j :: .ref (1020 + i) :: st) σ (gd (zib j (zLen.getD i 0)) e) := by
  intro r S h1 h2 h3
  obtain ⟨g1, h1⟩ := zgd h1
  obtain ⟨p, e0, R, s, m, args, below, meth, c, D, cA, b, ext, Q, rfl, hx, hb, hml, hown, hts, hK, hfr, hlo, hC, hN, hini, hbs⟩ := h
  intro H locs ls hP hS hl
  show W _ _ _ _ _ _ _ _ _ _ _ _ _ _ _ (F0 m pc ls (.int j :: .ref (zcv b ext (1020 + i)) :: _))
  rw [show 1020 + i = 1000 + (20 + i) by omega, zcv_ext]
  exact va_tb hx hb (hK.2.1.1 i hi).2.2.2 hS (zib_in g1) rfl hd (kk r S h1 h2 h3 H locs ls hP hS hl)
end
